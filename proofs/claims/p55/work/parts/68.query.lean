/-! the query's methods: where, orElse, clear; a number below another -/
theorem sp_below {x : Int32} {n : Nat} {M : Mm} {K : Mm → Int32 → Prop} (h0 : 0 < n) (hn : n < 2147483648) (hK : ∀ j, j < n → K M (nI j)) : wp_L_below x (nI n) M K := by
  obtain ⟨j, hj, e⟩ := pk_andE x (m := (2147483647 : Int32)) 31 (by decide)
  refine ⟨fun z => ?_, ?_⟩
  · have := nI_inj (a := n) (b := 0) hn (by omega) z
    omega
  · rw [e, pk_rem hj h0 (by omega)]
    exact hK _ (Nat.mod_lt _ h0)
section QU
variable {ow ow' : Nat → Nat × Nat} {M M' : Mm} {T F Q nc m R sz nq i c r g k n : Nat} {kk cq : Nat → Nat} {A Z : Nat → Prop}
theorem TI_.qu (h : TI_ ow M T nc m R sz kk Z) (hX : Ex_ A M M') (hA : ∀ b, A b → kd_ M b = 4 ∨ kd_ M b = 5 ∨ kd_ M b = 6) : TI_ ow M' T nc m R sz kk Z := by
  have hS := h.1
  refine h.out hX (fun b hb => ?_) (fun c r hc _ => ⟨hX.it (fun z => ?_) r, hX.it (fun z => ?_) r⟩)
  · have := hA b hb
    unfold XA_
    omega
  · have := hA _ z
    have := (hS.co hc).1.1
    omega
  · have := hA _ z
    have := (hS.co hc).2.1
    omega
theorem sp_latest {K : Mm → Nat → Prop} (hs : SH_ ow M) (hQ : kd_ M Q = 6) (hn : it_ M Q 1 = nI nq) (h1 : 1 ≤ nq) (h4 : nq ≤ 4) (hK : K M (gr_ M Q (nq - 1))) : wp_X4_latest Q M K := by
  obtain ⟨q0, qk⟩ := hs.qry hQ
  unfold wp_X4_latest
  rw [hn, nI_s1 (by omega), ix_nI (by omega), q0.2.1]
  exact ⟨hQ, q0.1, vi_ (by omega) (by decide), (qk (nq - 1) (by omega)).1, hK⟩
/-- conditions of different places are different ones, groups too -/
theorem gr_ne (hs : SH_ ow M) (hQ : kd_ M Q = 6) {g g' : Nat} (hg : g < 4) (hg' : g' < 4) (h : g ≠ g') : gr_ M Q g ≠ gr_ M Q g' := own_ne ((hs.qry hQ).2 g hg) ((hs.qry hQ).2 g' hg') (Or.inr h)
theorem cd_ne (hs : SH_ ow M) (hQ : kd_ M Q = 6) {g g' k k' : Nat} (hg : g < 4) (hg' : g' < 4) (hk : k < 4) (hk' : k' < 4) (h : g ≠ g' ∨ k ≠ k') : cd_ M Q g k ≠ cd_ M Q g' k' := by
  have o := hs.grp (gr_k hs hQ hg)
  have o' := hs.grp (gr_k hs hQ hg')
  by_cases e : g = g'
  · subst e
    exact own_ne (o.2 k hk) (o.2 k' hk') (Or.inr (h.resolve_left (fun z => z rfl)))
  · exact own_ne (o.2 k hk) (o'.2 k' hk') (Or.inl (own_ne o.1 o'.1 (Or.inl (gr_ne hs hQ hg hg' e))))
theorem sp_where {K : Mm → Int32 → Prop} {X : Nat → Mm → Prop} {t : Nat} {v : Int32} (hF : kd_ M F = 12) (hS : TS_ ow M (rf_ M F 0) nc m) (hq : QI_ M (rf_ M F 1) nc nq cq) (hc : c < nc) (ht : t < 8) (hX : X 1 M) (hK : ∀ M' cq' x, Ex_ (fun b => kd_ M b = 4 ∨ kd_ M b = 5) M M' → QI_ M' (rf_ M F 1) nc nq cq' → K M' x) : wx_X10_where F (nI c) (nI t) v M K X := by
  have hs := hS.sh
  have f := hs.cfr hF
  have kQ := f.2.1.1
  obtain ⟨h1, h4, hn, hg⟩ := hq
  have n8 := hS.nc8
  obtain ⟨g4, gn, gc⟩ := hg (nq - 1) (by omega)
  have kG := gr_k hs kQ (show nq - 1 < 4 by omega)
  obtain ⟨g0, gk⟩ := hs.grp kG
  refine ⟨hF, sp_needColumn hF hS hc (fun _ => ⟨fun z => ?_, fun _ => ⟨fun _ => ⟨kQ, sp_latest hs kQ hn h1 h4 (fun _ => ⟨kG, fun hlt => ⟨kQ, sp_latest hs kQ hn h1 h4 (fun _ => ⟨kG, kG, ?_⟩)⟩, fun _ => hX⟩)⟩, fun z => z ((lt_nI (b := 8) (by omega) (by omega)).mpr ht)⟩⟩)⟩
  · rw [show (0 : Int32) = nI 0 from rfl, lt_nI (by omega) (by omega)] at z
    omega
  · rw [gn] at hlt ⊢
    have hlt : cq (nq - 1) < 4 := (lt_nI (b := 4) (by omega) (by omega)).mp hlt
    have kc := (gk (cq (nq - 1)) hlt).1
    refine ⟨fun z => absurd ((le_nI (a := 4) (by omega) (by omega)).mp z) (by omega), fun _ => ⟨g0.1, by rw [g0.2.1]; exact vi_ hlt (by decide), ?_, ?_⟩⟩
    · rw [ix_nI (by omega)]; exact kc
    rw [ix_nI (by omega)]
    refine ⟨kc, fun M1 e1 M2 e2 M3 e3 _ M10 e10 _ => ?_⟩
    have ecd : rf_ M (rf_ M (gr_ M (rf_ M F 1) (nq - 1)) 0) (cq (nq - 1)) = cd_ M (rf_ M F 1) (nq - 1) (cq (nq - 1)) := rfl
    rw [ecd] at e1 e2 e3 kc
    have ncG : gr_ M (rf_ M F 1) (nq - 1) ≠ cd_ M (rf_ M F 1) (nq - 1) (cq (nq - 1)) := kd_ne kG kc (by decide)
    have X3 : Ex_ (fun b => b = cd_ M (rf_ M F 1) (nq - 1) (cq (nq - 1))) M M3 := by
      have XA : ∀ (M' : Mm) (j : Nat) (w : Int32), Ex_ (fun b => b = cd_ M (rf_ M F 1) (nq - 1) (cq (nq - 1))) M' (sI_ M' (cd_ M (rf_ M F 1) (nq - 1) (cq (nq - 1))) j w) := fun M' j w => Ex_.sI _ _ _ rfl
      rw [e3, e2, e1]
      exact ((XA _ _ _).tr (XA _ _ _)).tr (XA _ _ _)
    have c3 : it_ M3 (cd_ M (rf_ M F 1) (nq - 1) (cq (nq - 1))) 0 = nI c := by
      rw [e3, it_sIk (by decide), e2, it_sIk (by decide), e1, it_sIs]
    have X10 : Ex_ (fun b => b = cd_ M (rf_ M F 1) (nq - 1) (cq (nq - 1)) ∨ b = gr_ M (rf_ M F 1) (nq - 1)) M M10 := by
      rw [e10]
      exact (X3.mono (fun b hb => Or.inl hb)).tr (Ex_.sI _ _ _ (Or.inr rfl))
    have c10 : it_ M10 (gr_ M (rf_ M F 1) (nq - 1)) 1 = nI (cq (nq - 1) + 1) := by rw [e10, it_sIs, X3.it ncG, gn, nI_p1]
    have cc10 : it_ M10 (cd_ M (rf_ M F 1) (nq - 1) (cq (nq - 1))) 0 = nI c := by rw [e10, it_sIa ncG.symm]; exact c3
    refine hK M10 (up_ cq (nq - 1) (cq (nq - 1) + 1)) _ (X10.mono (fun b hb => by
      rcases hb with z | z
      · rw [z]; exact Or.inl kc
      · rw [z]; exact Or.inr kG)) ⟨h1, h4, ?_, fun g' hg' => ?_⟩
    · rw [X10.it (fun z => by
        rcases z with z | z
        · exact kd_ne kQ kc (by decide) z
        · exact kd_ne kQ kG (by decide) z)]
      exact hn
    · obtain ⟨a4, an, ac⟩ := hg g' hg'
      rw [X10.1.gr]
      by_cases e : g' = nq - 1
      · rw [e, up_s]
        refine ⟨by omega, c10, fun k hk => ?_⟩
        rw [X10.1.cd]
        by_cases ek : k = cq (nq - 1)
        · rw [ek]; exact ⟨c, hc, cc10⟩
        · rw [X10.it (fun z => by
            rcases z with z | z
            · exact cd_ne hs kQ (by omega) (by omega) (by omega) hlt (Or.inr ek) z
            · exact kd_ne (cd_k hs kQ (by omega) (by omega)) kG (by decide) z)]
          exact gc k (by omega)
      · rw [up_o _ _ e]
        refine ⟨a4, ?_, fun k hk => ?_⟩
        · rw [X10.it (fun z => by
            rcases z with z | z
            · exact kd_ne (gr_k hs kQ (by omega)) kc (by decide) z
            · exact gr_ne hs kQ (by omega) (by omega) e z)]
          exact an
        · rw [X10.1.cd, X10.it (fun z => by
            rcases z with z | z
            · exact cd_ne hs kQ (by omega) (by omega) (by omega) hlt (Or.inl e) z
            · exact kd_ne (cd_k hs kQ (by omega) (by omega)) kG (by decide) z)]
          exact ac k hk
/-- one group's count put to 0, that of groups to n -/
theorem QI_.reset {n : Nat} (hs : SH_ ow M) (hQ : kd_ M Q = 6) (hq : QI_ M Q nc nq cq) (hn0 : 1 ≤ n) (hn4 : n ≤ 4) (hn : n ≤ nq + 1) : QI_ (sI_ (sI_ M Q 1 (nI n)) (gr_ M Q (n - 1)) 1 0) Q nc n (up_ cq (n - 1) 0) ∧ Ex_ (fun b => kd_ M b = 5 ∨ kd_ M b = 6) M (sI_ (sI_ M Q 1 (nI n)) (gr_ M Q (n - 1)) 1 0) := by
  have kG := gr_k hs hQ (show n - 1 < 4 by omega)
  obtain ⟨h1, h4, h3, hg⟩ := hq
  have nQ : Q ≠ gr_ M Q (n - 1) := kd_ne hQ kG (by decide)
  have X : Ex_ (fun b => b = Q ∨ b = gr_ M Q (n - 1)) M (sI_ (sI_ M Q 1 (nI n)) (gr_ M Q (n - 1)) 1 0) := (Ex_.sI _ _ _ (Or.inl rfl)).tr (Ex_.sI _ _ _ (Or.inr rfl))
  refine ⟨⟨hn0, hn4, by rw [it_sIa nQ, it_sIs], fun g hgn => ?_⟩, X.mono (fun b hb => by
    rcases hb with z | z
    · rw [z]; exact Or.inr hQ
    · rw [z]; exact Or.inl kG)⟩
  rw [X.1.gr]
  by_cases e : g = n - 1
  · rw [e, up_s]
    exact ⟨by omega, it_sIs _ _ _ _, fun k hk => by omega⟩
  · rw [up_o _ _ e]
    obtain ⟨a4, an, ac⟩ := hg g (by omega)
    refine ⟨a4, ?_, fun k hk => ?_⟩
    · rw [X.it (fun z => by
        rcases z with z | z
        · exact kd_ne (gr_k hs hQ (by omega)) hQ (by decide) z
        · exact gr_ne hs hQ (by omega) (by omega) e z)]
      exact an
    · rw [X.1.cd, X.it (fun z => by
        rcases z with z | z
        · exact kd_ne (cd_k hs hQ (by omega) (by omega)) hQ (by decide) z
        · exact kd_ne (cd_k hs hQ (by omega) (by omega)) kG (by decide) z)]
      exact ac k hk
theorem sp_orElse {K : Mm → Int32 → Prop} {X : Nat → Mm → Prop} (hF : kd_ M F = 12) (hs : SH_ ow M) (hq : QI_ M (rf_ M F 1) nc nq cq) (hX : X 1 M) (hK : ∀ M' nq' cq' x, Ex_ (fun b => kd_ M b = 5 ∨ kd_ M b = 6) M M' → QI_ M' (rf_ M F 1) nc nq' cq' → K M' x) : wx_X10_orElse F M K X := by
  have f := hs.cfr hF
  have kQ := f.2.1.1
  have hq' := hq
  obtain ⟨h1, h4, hn, hg⟩ := hq
  have kG := gr_k hs kQ (show nq - 1 < 4 by omega)
  refine ⟨hF, kQ, fun hlt => sp_latest hs kQ hn h1 h4 (fun _ => ⟨kG, fun _ => hX, fun _ => ⟨kQ, kQ, fun z => ?_, fun _ M2 e2 => ?_⟩⟩), fun _ => hX⟩
  · rw [hn] at z hlt
    have := (le_nI (a := 4) (by omega) (by omega)).mp z
    have := (lt_nI (b := 4) (by omega) (by omega)).mp hlt
    omega
  · rw [hn] at hlt e2
    have hlt := (lt_nI (b := 4) (by omega) (by omega)).mp hlt
    rw [nI_p1] at e2
    have X2 : Sm_ M M2 := by rw [e2]; exact ⟨rfl, rfl⟩
    have q := hq'.reset (n := nq + 1) hs kQ (by omega) (by omega) (by omega)
    refine sp_latest (nq := nq + 1) (X2.sh hs) (by rw [X2.kd]; exact kQ) (by rw [e2, it_sIs]) (by omega) (by omega) (fun _ => ⟨by rw [X2.kd, X2.gr]; exact gr_k hs kQ (by omega), fun M11 e11 _ => ?_⟩)
    rw [X2.gr, e2] at e11
    rw [e11]
    exact hK _ _ _ _ q.2 q.1
theorem sp_clear {K : Mm → Int32 → Prop} (hF : kd_ M F = 12) (hs : SH_ ow M) (hq : QI_ M (rf_ M F 1) nc nq cq) (hK : ∀ M' nq' cq' x, Ex_ (fun b => kd_ M b = 5 ∨ kd_ M b = 6) M M' → QI_ M' (rf_ M F 1) nc nq' cq' → K M' x) : wp_X10_clear F M K := by
  have f := hs.cfr hF
  have kQ := f.2.1.1
  refine ⟨hF, kQ, sp_condCount hs kQ hq (fun _ => ⟨kQ, kQ, fun M1 e1 => ?_⟩)⟩
  have X1 : Sm_ M M1 := by rw [e1]; exact ⟨rfl, rfl⟩
  have q := hq.reset (n := 1) hs kQ (by omega) (by omega) (by omega)
  refine sp_latest (nq := 1) (X1.sh hs) (by rw [X1.kd]; exact kQ) (by rw [e1, it_sIs]; rfl) (by omega) (by omega) (fun _ => ⟨by rw [X1.kd, X1.gr]; exact gr_k hs kQ (by omega), fun M10 e10 => ?_⟩)
  intro _
  rw [X1.gr, e1] at e10
  rw [e10]
  exact hK _ _ _ _ q.2 q.1
/-! the object between the law's acts -/
def GI_ (ow : Nat → Nat × Nat) (M : Mm) (F nc m R sz : Nat) : Prop := kd_ M F = 12 ∧ TF_ ow M (rf_ M F 0) nc m R sz ∧ (∃ nq cq, QI_ M (rf_ M F 1) nc nq cq) ∧ ∃ n, RI_ M (rf_ M F 3) R n
theorem GI_.f (h : GI_ ow M F nc m R sz) : own_ ow M F 0 10 0 ∧ own_ ow M F 1 6 0 ∧ own_ ow M F 2 8 0 ∧ own_ ow M F 3 7 0 := by
  obtain ⟨h1, ⟨kk, h2⟩, -⟩ := h
  exact h2.1.sh.cfr h1
theorem ta_no {b : Nat} (h : kd_ M b = 4 ∨ kd_ M b = 5 ∨ kd_ M b = 6 ∨ kd_ M b = 7 ∨ kd_ M b = 12 ∨ kd_ M b = 24 ∨ kd_ M b = 25) : ¬ TA_ ow M b := by
  unfold TA_
  omega
/-- a move of the table -/
theorem GI_.ta2 {nc' m' R' sz' : Nat} (h : GI_ ow M F nc m R sz) (X : Gw_ (TA_ ow M) M M') (hT : TF_ ow' M' (rf_ M F 0) nc' m' R' sz') (hR : R ≤ R') (hnc : nc ≤ nc') : GI_ ow' M' F nc' m' R' sz' := by
  have f := h.f
  obtain ⟨h1, ⟨kk, h2⟩, ⟨nq, cq, hq⟩, n, hr⟩ := h
  have hs := h2.1.sh
  have kQ := f.2.1.1
  have kR := f.2.2.2.1
  obtain ⟨o0, -⟩ := hs.res kR
  have nF : ¬ TA_ ow M F := ta_no (by omega)
  have eF : ∀ k, rf_ M' F k = rf_ M F k := fun k => X.rf (by rw [h1]; decide) nF k
  have nr0 : ¬ TA_ ow M (rf_ M (rf_ M F 3) 0) := by
    unfold TA_
    rw [o0.1, o0.2.2]
    simp only
    omega
  unfold GI_
  rw [eF, eF, eF]
  refine ⟨by rw [X.kd (by rw [h1]; decide)]; exact h1, hT, ⟨nq, cq, ?_⟩, n, hr.1, ?_, fun j hj => ?_⟩
  · obtain ⟨a1, a2, a3, a4⟩ := hq
    have q := hs.qry kQ
    have egr : ∀ g, g < 4 → gr_ M' (rf_ M F 1) g = gr_ M (rf_ M F 1) g := fun g hg => by
      unfold gr_
      rw [X.rf (a := rf_ M F 1) (by rw [kQ]; decide) (ta_no (by omega)), X.rf (a := rf_ M (rf_ M F 1) 0) (by rw [q.1.1]; decide) (ta_no (by have := q.1.1; omega))]
    have ecd : ∀ g k, g < 4 → k < 4 → cd_ M' (rf_ M F 1) g k = cd_ M (rf_ M F 1) g k := fun g k hg hk => by
      have kg := gr_k hs kQ hg
      have gg := hs.grp kg
      unfold cd_
      rw [egr g hg, X.rf (a := gr_ M (rf_ M F 1) g) (by rw [kg]; decide) (ta_no (by omega)), X.rf (a := rf_ M (gr_ M (rf_ M F 1) g) 0) (by rw [gg.1.1]; decide) (ta_no (by have := gg.1.1; omega))]
    refine ⟨a1, a2, by rw [X.it (by rw [kQ]; decide) (ta_no (by omega))]; exact a3, fun g hg => ?_⟩
    obtain ⟨g1, g2, g3⟩ := a4 g hg
    have kg := gr_k hs kQ (show g < 4 by omega)
    rw [egr g (by omega)]
    refine ⟨g1, by rw [X.it (by rw [kg]; decide) (ta_no (by omega))]; exact g2, fun k hk => ?_⟩
    have kc := cd_k hs kQ (show g < 4 by omega) (show k < 4 by omega)
    rw [ecd g k (by omega) (by omega), X.it (by rw [kc]; decide) (ta_no (by omega))]
    obtain ⟨c, hc, ec⟩ := g3 k hk
    exact ⟨c, by omega, ec⟩
  · rw [X.it (by rw [kR]; decide) (ta_no (by omega))]; exact hr.2.1
  · rw [X.rf (by rw [kR]; decide) (ta_no (by omega)), X.it (by rw [o0.1]; decide) nr0]
    obtain ⟨r, hr1, er⟩ := hr.2.2 j hj
    exact ⟨r, by omega, er⟩
theorem GI_.ta {m' R' sz' : Nat} (h : GI_ ow M F nc m R sz) (X : Gw_ (TA_ ow M) M M') (hT : TF_ ow' M' (rf_ M F 0) nc m' R' sz') (hR : R ≤ R') : GI_ ow' M' F nc m' R' sz' := h.ta2 X hT hR (Nat.le_refl nc)
/-- columns' fields were written -/
theorem GI_.c3 (h : GI_ ow M F nc m R sz) (X : Ex_ A M M') (hA : ∀ b, A b → kd_ M b = 3) : GI_ ow M' F nc m R sz := by
  have f := h.f
  obtain ⟨h1, ⟨kk, h2⟩, ⟨nq, cq, hq⟩, n, hr⟩ := h
  have sub : ∀ b, A b → WA_ ow M b := fun b hb => Or.inl (hA b hb)
  have kR := f.2.2.2.1
  obtain ⟨o0, -⟩ := h2.1.sh.res kR
  unfold GI_
  rw [X.rf, X.rf, X.rf, X.kd]
  refine ⟨h1, ⟨kk, h2.wa X sub⟩, ⟨nq, cq, hq.wa h2.1.sh f.2.1.1 X sub⟩, n, hr.1, ?_, fun j hj => ?_⟩
  · rw [X.it (fun z => kd_ne (hA _ z) kR (by decide) rfl)]; exact hr.2.1
  · rw [X.rf, X.it (fun z => kd_ne (hA _ z) o0.1 (by decide) rfl)]
    exact hr.2.2 j hj
/-- the query was written -/
theorem GI_.q {nq : Nat} {cq : Nat → Nat} (h : GI_ ow M F nc m R sz) (X : Ex_ A M M') (hA : ∀ b, A b → kd_ M b = 4 ∨ kd_ M b = 5 ∨ kd_ M b = 6) (hq : QI_ M' (rf_ M F 1) nc nq cq) : GI_ ow M' F nc m R sz := by
  have f := h.f
  obtain ⟨h1, ⟨kk, h2⟩, -, n, hr⟩ := h
  have kR := f.2.2.2.1
  obtain ⟨o0, -⟩ := h2.1.sh.res kR
  unfold GI_
  rw [X.rf, X.rf, X.rf, X.kd]
  refine ⟨h1, ⟨kk, h2.qu X hA⟩, ⟨nq, cq, hq⟩, n, hr.1, ?_, fun j hj => ?_⟩
  · rw [X.it (fun z => by have := hA _ z; omega)]; exact hr.2.1
  · rw [X.rf, X.it (fun z => by have := hA _ z; have := o0.1; omega)]
    exact hr.2.2 j hj
theorem LI_.gi {nq : Nat} {cq : Nat → Nat} {L : List Int32} (h : LI_ ow M F nc m R sz nq kk cq L) : GI_ ow M F nc m R sz := ⟨h.1, ⟨kk, h.2.1⟩, ⟨nq, cq, h.2.2.1⟩, L.length, h.2.2.2.2.1, h.2.2.2.1.1, fun j hj => h.2.2.2.1.row h.2.2.2.2.2 hj⟩
end QU
