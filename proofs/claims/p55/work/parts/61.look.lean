/-! select, lookThrough -/
theorem ff_ {L : List Int32} {p q : Int32 → Bool} : (L.filter q).filter p = L.filter (fun x => q x && p x) := by
  rw [List.filter_filter]
  congr 1
  funext x
  exact Bool.and_comm _ _
section LK
variable {ow : Nat → Nat × Nat} {M M' : Mm} {T F Q nc m R sz nq i c r g k n Se b cd C G : Nat} {kk cq : Nat → Nat} {A : Nat → Prop} {fr : Int32}
def A1_ (M : Mm) (Se : Nat) (a : Nat) : Prop := a = Se ∨ a = rf_ M Se 5 ∨ a = rf_ M Se 8 ∨ a = rf_ M Se 9
def A2_ (M : Mm) (Se : Nat) (a : Nat) : Prop := A1_ M Se a ∨ a = rf_ M Se 7
def A3_ (M : Mm) (Se : Nat) (a : Nat) : Prop := A2_ M Se a ∨ a = rf_ M Se 0
theorem A3_.sa (hs : SH_ ow M) (hSe : kd_ M Se = 8) {a : Nat} (h : A3_ M Se a) : SA_ ow M a := by
  obtain ⟨s0, s5, s7, s8, s9⟩ := hs.sea hSe
  unfold SA_
  rcases h with (h | h) | h
  · rcases h with h | h | h | h
    · rw [h]; exact Or.inl hSe
    · rw [h, s5.1, s5.2.2]; exact Or.inr ⟨Or.inr rfl, hSe⟩
    · rw [h, s8.1, s8.2.2]; exact Or.inr ⟨Or.inl rfl, hSe⟩
    · rw [h, s9.1, s9.2.2]; exact Or.inr ⟨Or.inl rfl, hSe⟩
  · rw [h, s7.1, s7.2.2]; exact Or.inr ⟨Or.inr rfl, hSe⟩
  · rw [h, s0.1, s0.2.2]; exact Or.inr ⟨Or.inl rfl, hSe⟩
theorem A2_.a3 {a : Nat} (h : A2_ M Se a) : A3_ M Se a := Or.inl h
theorem A1_.a3 {a : Nat} (h : A1_ M Se a) : A3_ M Se a := Or.inl (Or.inl h)
theorem A1_.eq (h : Sm_ M M') : A1_ M' Se = A1_ M Se := by
  funext a
  unfold A1_
  rw [h.rf, h.rf, h.rf]
theorem A2_.eq (h : Sm_ M M') : A2_ M' Se = A2_ M Se := by
  funext a
  unfold A2_
  rw [A1_.eq h, h.rf]
theorem SL_.keep {q : Int32 → Bool} (h : SL_ M Se b k q) (hX : Sm_ M M') (h5 : ∀ j, it_ M' (rf_ M Se 5) j = it_ M (rf_ M Se 5) j) (h6 : it_ M' Se 6 = it_ M Se 6) (hb : ∀ j, it_ M' (rf_ M b 0) j = it_ M (rf_ M b 0) j) : SL_ M' Se b k q := by
  have e : it_ M' (rf_ M b 0) = it_ M (rf_ M b 0) := funext hb
  unfold SL_ rl_ at h ⊢
  rw [hX.rf, hX.rf, h6, e]
  exact ⟨fun j hj => by rw [h5]; exact h.1 j hj, h.2⟩
/-- what a zone of a frame must say, that its cost be told -/
def ZR_ (M : Mm) (b nc : Nat) : Prop := ∀ c, c < nc → ∃ rn dc, rn ≤ 64 ∧ dc ≤ 64 ∧ it_ M (rf_ M (rf_ M b 1) c) 3 = nI rn ∧ it_ M (rf_ M (rf_ M b 1) c) 2 = nI dc
theorem ZR_.ex (h : ZR_ M b nc) (hs : SH_ ow M) (hb : kd_ M b = 2) (hn : nc ≤ 8) (hX : Ex_ A M M') (hA : ∀ a, A a → kd_ M a ≠ 11) : ZR_ M' b nc := by
  intro c hc
  have hz := ((hs.blk hb).2.2 c (by omega)).1
  rw [hX.rf, hX.rf, hX.it (fun z => hA _ z hz), hX.it (fun z => hA _ z hz)]
  exact h c hc
theorem lp_selected_ok {K E : Mm → Prop} (hs : SH_ ow M) (hS : TS_ ow M T nc m) (hSe : kd_ M Se = 8) (hG : kd_ M G = 5) (hb : kd_ M b = 2) (hR : R ≤ 600) (hB : BR_ M b k R) (hn4 : n ≤ 4) (hn : it_ M G 1 = nI n) (hcd : ∀ i, i < n → ∃ c, c < nc ∧ it_ M (cg_ M G i) 0 = nI c) (hz : fr ≠ 0 → ZR_ M b nc)
    (hE : ∀ M', Ex_ (A1_ M Se) M M' → (∀ j, j ≠ 2 → j ≠ 6 → it_ M' Se j = it_ M Se j) → SL_ M' Se b k (fun x => qa_ (fun i => me_ M T (cg_ M G i) x) n) → (it_ M Se 4 = 0 → it_ M' Se 2 = it_ M Se 2 + nI (sl_ M T G n b fr (rl_ M b k))) → E M') :
    ∀ (f p : Nat) (M2 : Mm), p ≤ n → n - p < f → Ex_ (A1_ M Se) M M2 → (∀ j, j ≠ 2 → j ≠ 6 → it_ M2 Se j = it_ M Se j) → (∀ j, j < n → it_ M2 (rf_ M Se 8) j = nI (oO_ (fun k => gsB_ M b fr (cg_ M G k)) n j)) → SL_ M2 Se b k (fun x => qa_ (fun i => me_ M T (cg_ M G (oO_ (fun k => gsB_ M b fr (cg_ M G k)) n i)) x) p) →
      (it_ M Se 4 = 0 → it_ M2 Se 2 + nI (sc_ (fun k => cfB_ M b fr (cg_ M G k)) (fun k => me_ M T (cg_ M G k)) (oO_ (fun k => gsB_ M b fr (cg_ M G k)) n) (n - p) p ((rl_ M b k).filter (fun x => qa_ (fun i => me_ M T (cg_ M G (oO_ (fun k => gsB_ M b fr (cg_ M G k)) n i)) x) p))) = it_ M Se 2 + nI (sl_ M T G n b fr (rl_ M b k))) → lp_X6_select_45 Se T G b fr K E f (nI p) M2 := by
  obtain ⟨s0, s5, s7, s8, s9⟩ := hs.sea hSe
  obtain ⟨b0, b1, bz⟩ := hs.blk hb
  obtain ⟨g0, gk⟩ := hs.grp hG
  have n8 := hS.nc8
  have hk6 := hB.2.1
  have n5 : rf_ M Se 5 ≠ Se := kd_ne s5.1 hSe (by decide)
  have n88 : rf_ M Se 8 ≠ Se := kd_ne s8.1 hSe (by decide)
  have n58 : rf_ M Se 8 ≠ rf_ M Se 5 := kd_ne s8.1 s5.1 (by decide)
  have sub : ∀ a, A1_ M Se a → WA_ ow M a := fun a h => (A3_.sa hs hSe (A1_.a3 h)).wa
  have no : ∀ a, kd_ M a ≠ 8 → kd_ M a ≠ 20 → kd_ M a ≠ 21 → ¬ A1_ M Se a := fun a h1 h2 h3 z => by
    rcases z with z | z | z | z
    · rw [z] at h1; exact h1 hSe
    · rw [z] at h3; exact h3 s5.1
    · rw [z] at h2; exact h2 s8.1
    · rw [z] at h2; exact h2 s9.1
  have nG := no G (by rw [hG]; decide) (by rw [hG]; decide) (by rw [hG]; decide)
  have nb := no b (by rw [hb]; decide) (by rw [hb]; decide) (by rw [hb]; decide)
  have nb0 : ¬ A1_ M Se (rf_ M b 0) := fun z => wa_o b0 (Or.inl hb) (by decide) (sub _ z)
  generalize hgs : (fun k => gsB_ M b fr (cg_ M G k)) = gs at *
  intro f
  induction f with
  | zero => intro p M2 _ h; omega
  | succ f ih =>
    intro p M2 hpn hf hX hfl hord hsl hco
    have q1 : p < n → n - (p + 1) < f := by omega
    have erl : rl_ M2 b k = rl_ M b k := rl_wa hs hX sub hb
    -- the ends
    have fin : (p = n ∨ ((rl_ M b k).filter (fun x => qa_ (fun i => me_ M T (cg_ M G (oO_ gs n i)) x) p)).length = 0) → E M2 := by
      intro hor
      rcases hor with hp | h0
      · subst hp
        refine hE M2 hX hfl ?_ (fun h4 => ?_)
        · have e : (fun x => qa_ (fun i => me_ M T (cg_ M G (oO_ gs p i)) x) p) = (fun x => qa_ (fun i => me_ M T (cg_ M G i) x) p) := funext fun x => qa_ord gs (fun i => me_ M T (cg_ M G i) x) p
          rw [e] at hsl
          exact hsl
        · have := hco h4
          rw [Nat.sub_self] at this
          have e0 : it_ M2 Se 2 + nI 0 = it_ M2 Se 2 := Int32.add_zero _
          rw [← this]
          exact e0.symm
      · have hnone : ∀ x, x ∈ rl_ M b k → qa_ (fun i => me_ M T (cg_ M G (oO_ gs n i)) x) p = false := fun x hx => by
          cases h9 : qa_ (fun i => me_ M T (cg_ M G (oO_ gs n i)) x) p
          · rfl
          · have : x ∈ (rl_ M b k).filter (fun x => qa_ (fun i => me_ M T (cg_ M G (oO_ gs n i)) x) p) := List.mem_filter.mpr ⟨hx, h9⟩
            rw [List.eq_nil_of_length_eq_zero h0] at this
            cases this
        have hnone2 : ∀ x, x ∈ rl_ M b k → qa_ (fun i => me_ M T (cg_ M G i) x) n = false := fun x hx => by
          cases h9 : qa_ (fun i => me_ M T (cg_ M G i) x) n
          · rfl
          · have := qa_ord_le gs (fun i => me_ M T (cg_ M G i) x) hpn h9
            rw [hnone x hx] at this
            cases this
        refine hE M2 hX hfl ⟨fun j hj => ?_, ?_⟩ (fun h4 => ?_)
        · have hm : it_ M2 (rf_ M2 b 0) j ∈ rl_ M b k := by
            rw [← erl]
            exact sg_mem.mpr ⟨j, Nat.zero_le _, by omega, rfl⟩
          exact (hsl.1 j hj).trans (congrArg b2_ ((hnone _ hm).trans (hnone2 _ hm).symm))
        · rw [hsl.2, erl, h0]
          congr 1
          have : (rl_ M b k).filter (fun x => qa_ (fun i => me_ M T (cg_ M G i) x) n) = [] := List.filter_eq_nil_iff.mpr (fun x hx => by rw [hnone2 x hx]; decide)
          rw [this]
          rfl
        · have := hco h4
          rw [sc_0 h0] at this
          have e0 : it_ M2 Se 2 + nI 0 = it_ M2 Se 2 := Int32.add_zero _
          rw [← this]
          exact e0.symm
    unfold lp_X6_select_45
    rw [hX.it nG, hn, le_nI (by omega) (by omega)]
    refine ⟨fun h => fin (Or.inl (by omega)), fun h => ?_⟩
    have hp : p < n := by omega
    have hlen : (rl_ M b k).length = k := sg_len _ _ _
    have hfle : ((rl_ M b k).filter (fun x => qa_ (fun i => me_ M T (cg_ M G (oO_ gs n i)) x) p)).length ≤ 64 := Nat.le_trans (List.length_filter_le _ _) (by omega)
    have e6 : it_ M2 Se 6 = nI ((rl_ M b k).filter (fun x => qa_ (fun i => me_ M T (cg_ M G (oO_ gs n i)) x) p)).length := by rw [hsl.2, erl]
    rw [e6, show (0 : Int32) = nI 0 from rfl, le_nI (by omega) (by omega)]
    refine ⟨fun h => fin (Or.inr (by omega)), fun hpos => ?_⟩
    have ho := oO_lt gs hp
    obtain ⟨c, hc, ec⟩ := hcd (oO_ gs n p) ho
    have kcd : kd_ M (cg_ M G (oO_ gs n p)) = 4 := (gk _ (by omega)).1
    have ncd := no (cg_ M G (oO_ gs n p)) (by rw [kcd]; decide) (by rw [kcd]; decide) (by rw [kcd]; decide)
    have hzk := (bz c (by omega)).1
    have nz := no (rf_ M (rf_ M b 1) c) (by rw [hzk]; decide) (by rw [hzk]; decide) (by rw [hzk]; decide)
    have hS2 : TS_ ow M2 T nc m := hS.ex hX (fun a z e => wa_k e (by decide) (sub a z))
    have hs2 := hS2.sh
    have ecg : rf_ M (rf_ M G 0) (oO_ gs n p) = cg_ M G (oO_ gs n p) := rfl
    rw [hX.rf G 0, hX.rf Se 8, hX.kd, hX.kd, hX.ln, hX.ln, ix_nI (n := p) (by omega), hord p hp, ix_nI (n := oO_ gs n p) (by omega), hX.rf (rf_ M G 0), ecg, hX.kd, hX.it ncd, ec, g0.2.1, s8.2.1]
    have Xcl : cl_ M2 T c = cl_ M T c := hX.1.cl T c
    have hC2 : kd_ M2 (cl_ M2 T c) = 3 := hS2.cl hc
    have hB2 : BR_ M2 b k R := BR_sa (hX.it nb 2) (hX.rf _ _) (fun j _ => hX.it nb0 j) hB
    have ecf : cfB_ M2 b fr (cg_ M G (oO_ gs n p)) = cfB_ M b fr (cg_ M G (oO_ gs n p)) := (cfB_wa (nc := nc) hs hX sub hb n8 kcd ⟨c, hc, ec⟩).1
    refine ⟨g0.1, s8.1, vi_ (by omega) (by decide), vi_ (by omega) (by decide), kcd, hS2.t.1.1, sp_get hS2.lc hc (by decide) (fun _ => ?_)⟩
    -- narrowing, once the cost has been put
    have step : ∀ (v : Int32) (M66 : Mm), (it_ M Se 4 = 0 → v = nI (cfB_ M b fr (cg_ M G (oO_ gs n p)) ((rl_ M b k).filter (fun x => qa_ (fun i => me_ M T (cg_ M G (oO_ gs n i)) x) p)).length)) → M66 = sI_ M2 Se 2 (it_ M2 Se 2 + v) → wp_X6_narrow Se b (cg_ M G (oO_ gs n p)) (cl_ M2 T c) M66 (fun M67 => Nk_ M66 M67 → lp_X6_select_45 Se T G b fr K E f ((nI p) + (1 : Int32)) M67) := by
      intro v M66 hv e66
      have X66 : Ex_ (A1_ M Se) M2 M66 := by rw [e66]; exact Ex_.sI _ _ _ (Or.inl rfl)
      have X166 := hX.tr X66
      have o66 : ∀ a j, a ≠ Se → it_ M66 a j = it_ M2 a j := fun a j ha => by rw [e66, it_sIa ha]
      have o66s : ∀ j, j ≠ 2 → it_ M66 Se j = it_ M2 Se j := fun j hj => by rw [e66, it_sIk hj]
      have kbne : b ≠ Se := kd_ne hb hSe (by decide)
      have kb0ne : rf_ M b 0 ≠ Se := kd_ne b0.1 hSe (by decide)
      have sl66 := hsl.keep (M' := M66) X66.1 (fun j => o66 _ j (by rw [hX.rf]; exact n5)) (o66s 6 (by decide)) (fun j => o66 _ j (by rw [hX.rf]; exact kb0ne))
      have B66 : BR_ M66 b k R := BR_sa (X166.it nb 2) (X166.rf _ _) (fun j _ => X166.it nb0 j) hB
      refine sp_narrow (X166.1.sh hs) (by rw [X166.kd]; exact hSe) (by rw [X166.kd]; exact hb) (by rw [X166.kd]; exact kcd) (by rw [X66.kd]; exact hC2) hR B66 sl66 (fun M67 X67 f67 sl67 _ => ?_)
      have eme : meC_ M66 (cg_ M G (oO_ gs n p)) (cl_ M2 T c) = me_ M T (cg_ M G (oO_ gs n p)) := by
        rw [← me_wa hS X166 sub kcd ⟨c, hc, ec⟩]
        unfold me_
        rw [X166.it ncd, ec, ix_nI (by omega), X66.1.cl]
      have eq' : (fun x => qa_ (fun i => me_ M T (cg_ M G (oO_ gs n i)) x) p && meC_ M66 (cg_ M G (oO_ gs n p)) (cl_ M2 T c) x) = (fun x => qa_ (fun i => me_ M T (cg_ M G (oO_ gs n i)) x) (p + 1)) := by
        rw [eme]
        rfl
      rw [eq'] at sl67
      have X67' : Ex_ (A1_ M Se) M66 M67 := X67.mono (fun a ha => by
        rcases ha with z | z
        · exact Or.inl z
        · rw [X166.rf] at z; exact Or.inr (Or.inl z))
      rw [nI_p1]
      refine ih (p + 1) M67 (by omega) (q1 hp) (X166.tr X67') (fun j h1 h2 => ?_) (fun j hj => ?_) sl67 (fun h4 => ?_)
      · rw [f67 j h2, o66s j h1]
        exact hfl j h1 h2
      · rw [X67.it (fun z => by
          rcases z with z | z
          · exact n88 z
          · rw [X166.rf] at z; exact n58 z), o66 _ _ n88]
        exact hord j hj
      · rw [← hco h4, f67 2 (by decide)]
        have e2 : it_ M66 Se 2 = it_ M2 Se 2 + v := by rw [e66, it_sIs]
        have hnp : n - p = (n - (p + 1)) + 1 := by omega
        have esc : sc_ (fun k => cfB_ M b fr (cg_ M G k)) (fun k => me_ M T (cg_ M G k)) (oO_ gs n) (n - p) p ((rl_ M b k).filter (fun x => qa_ (fun i => me_ M T (cg_ M G (oO_ gs n i)) x) p)) = cfB_ M b fr (cg_ M G (oO_ gs n p)) ((rl_ M b k).filter (fun x => qa_ (fun i => me_ M T (cg_ M G (oO_ gs n i)) x) p)).length + sc_ (fun k => cfB_ M b fr (cg_ M G k)) (fun k => me_ M T (cg_ M G k)) (oO_ gs n) (n - (p + 1)) (p + 1) ((rl_ M b k).filter (fun x => qa_ (fun i => me_ M T (cg_ M G (oO_ gs n i)) x) (p + 1))) := by
          rw [hnp]
          show (if _ = 0 then 0 else _ + _) = _
          rw [if_neg (by omega), ff_]
          rfl
        rw [esc, e2, hv h4, ← nI_add, Int32.add_assoc]
    refine ⟨hC2, fun h0 M43 e43 => ?_, fun h0 => ?_⟩
    · rw [e6] at e43
      exact step _ M43 (fun _ => by unfold cfB_; rw [if_pos (show fr = 0 from h0)]) e43
    · obtain ⟨rn, dc, hrn, hdc, ern, edc⟩ := hz h0 c hc
      rw [hX.it ncd, ec, ix_nI (n := c) (by omega), hX.rf b 1, hX.kd, hX.ln, hX.rf (rf_ M b 1) c, hX.kd, b1.2.1]
      refine ⟨b1.1, vi_ (by omega) (by decide), hzk, sp_costIn (rn := rn) (dc := dc) hs2 (by rw [hX.kd]; exact hSe) (by rw [hX.kd]; exact hzk) (by rw [hX.kd]; exact kcd) hC2 e6 (by rw [hX.it nz]; exact ern) (by rw [hX.it nz]; exact edc) (by omega) (by omega) (fun v hv => ?_)⟩
      intro _ M66 e66
      refine step v M66 (fun h4 => ?_) e66
      rw [hv (by rw [hfl 4 (by decide) (by decide)]; exact h4), ← ecf]
      unfold cfB_ zc_
      rw [if_neg (show ¬ fr = 0 from h0), hX.it ncd, ec, ix_nI (n := c) (by omega), hX.rf, hX.rf]
theorem sp_select {K : Mm → Prop} (hS : TS_ ow M T nc m) (hSe : kd_ M Se = 8) (hG : kd_ M G = 5) (hb : kd_ M b = 2) (hR : R ≤ 600) (hB : BR_ M b k R) (hn4 : n ≤ 4) (hn : it_ M G 1 = nI n) (hcd : ∀ i, i < n → ∃ c, c < nc ∧ it_ M (cg_ M G i) 0 = nI c) (hz : fr ≠ 0 → ZR_ M b nc)
    (hK : ∀ M', Ex_ (A1_ M Se) M M' → (∀ j, j ≠ 2 → j ≠ 6 → it_ M' Se j = it_ M Se j) → SL_ M' Se b k (fun x => qa_ (fun i => me_ M T (cg_ M G i) x) n) → (it_ M Se 4 = 0 → it_ M' Se 2 = it_ M Se 2 + nI (sl_ M T G n b fr (rl_ M b k))) → K M') : wp_X6_select Se T G b fr M K := by
  have hs := hS.sh
  obtain ⟨s0, s5, s7, s8, s9⟩ := hs.sea hSe
  obtain ⟨b0, b1, bz⟩ := hs.blk hb
  have hk6 := hB.2.1
  have n5 : rf_ M Se 5 ≠ Se := kd_ne s5.1 hSe (by decide)
  have n88 : rf_ M Se 8 ≠ Se := kd_ne s8.1 hSe (by decide)
  have n99 : rf_ M Se 9 ≠ Se := kd_ne s9.1 hSe (by decide)
  have n58 : rf_ M Se 8 ≠ rf_ M Se 5 := kd_ne s8.1 s5.1 (by decide)
  have n98 : rf_ M Se 8 ≠ rf_ M Se 9 := own_ne s8 s9 (Or.inr (by decide))
  have sub : ∀ a, A1_ M Se a → WA_ ow M a := fun a h => (A3_.sa hs hSe (A1_.a3 h)).wa
  have nb : ¬ A1_ M Se b := fun z => wa_k hb (by decide) (sub _ z)
  have nb0 : ¬ A1_ M Se (rf_ M b 0) := fun z => wa_o b0 (Or.inl hb) (by decide) (sub _ z)
  refine ⟨hSe, hS.kT, hG, hb, sp_order hs hSe hG hb hn4 hn hS.nc8 hcd (fun M1 X1 o1 _ M9 e9 => ⟨k + 1, ?_⟩)⟩
  have X1' : Ex_ (A1_ M Se) M M1 := X1.mono (fun a ha => Or.inr (Or.inr ha))
  have X9 : Ex_ (A1_ M Se) M M9 := by rw [e9]; exact X1'.tr (Ex_.sI _ _ _ (Or.inl rfl))
  have f9 : ∀ j, j ≠ 6 → it_ M9 Se j = it_ M Se j := fun j hj => by
    rw [e9, it_sIk hj]
    exact X1.it (fun z => by
      rcases z with z | z
      · exact n88 z.symm
      · exact n99 z.symm) j
  have c9 : it_ M9 Se 6 = nI k := by rw [e9, it_sIs, X1'.it nb]; exact hB.1
  have o9 : ∀ j, j < n → it_ M9 (rf_ M Se 8) j = nI (oO_ (fun k => gsB_ M b fr (cg_ M G k)) n j) := fun j hj => by rw [e9, it_sIa n88]; exact o1 j hj
  have key : ∀ (f i : Nat) (M2 : Mm), i ≤ k → k - i < f → Ex_ (fun a => a = rf_ M Se 5) M9 M2 → (∀ j, j < i → it_ M2 (rf_ M Se 5) j = 1) → lp_X6_select_19 Se T G b fr K (fun M15 => Nk_ M9 M15 → (∃ n75 : Nat, lp_X6_select_45 Se T G b fr K (fun M76 => Nk_ M15 M76 → K M76) n75 (0 : Int32) M15)) f (nI i) M2 := by
    intro f
    induction f with
    | zero => intro i M2 _ h; omega
    | succ f ih =>
      intro i M2 hi hf hX h1
      have q1 : i < k → k - (i + 1) < f := by omega
      have X2 : Ex_ (A1_ M Se) M M2 := X9.tr (hX.mono (fun a ha => Or.inr (Or.inl ha)))
      unfold lp_X6_select_19
      rw [X2.it nb, hB.1, le_nI (by omega) (by omega)]
      refine ⟨fun hki => ?_, fun hki => ?_⟩
      · have : i = k := by omega
        subst this
        intro _
        refine ⟨n + 1, lp_selected_ok (E := fun M76 => Nk_ M2 M76 → K M76) hs hS hSe hG hb hR hB hn4 hn hcd hz (fun M' x1 x2 x3 x4 _ => hK M' x1 x2 x3 x4) (n + 1) 0 M2 (by omega) (by omega) X2 (fun j _ h6 => by rw [hX.it (fun z => n5 z.symm)]; exact f9 j h6) (fun j hj => by rw [hX.it n58]; exact o9 j hj) ⟨fun j hj => ?_, ?_⟩ (fun _ => ?_)⟩
        · rw [X2.rf]
          exact h1 j hj
        · rw [hX.it (fun z => n5 z.symm), c9]
          congr 1
          have : ∀ L : List Int32, L.filter (fun x => qa_ (fun i => me_ M T (cg_ M G (oO_ (fun k => gsB_ M b fr (cg_ M G k)) n i)) x) 0) = L := fun L => List.filter_eq_self.mpr (fun _ _ => rfl)
          rw [this]
          exact (sg_len _ _ _).symm
        · rw [hX.it (fun z => n5 z.symm), f9 2 (by decide)]
          congr 1
          have : ∀ L : List Int32, L.filter (fun x => qa_ (fun i => me_ M T (cg_ M G (oO_ (fun k => gsB_ M b fr (cg_ M G k)) n i)) x) 0) = L := fun L => List.filter_eq_self.mpr (fun _ _ => rfl)
          rw [this]
          rfl
      · rw [X2.rf, X2.kd, X2.ln, s5.2.1, ix_nI (by omega), nI_p1]
        refine ⟨s5.1, vi_ (by omega) (by decide), fun M13 e13 => ?_⟩
        subst e13
        refine ih (i + 1) _ (by omega) (q1 (by omega)) (hX.tr (Ex_.sI _ _ _ rfl)) (fun j hj => ?_)
        by_cases e : j = i
        · rw [e, it_sIs]
        · rw [it_sIk e]
          exact h1 j (by omega)
  exact key (k + 1) 0 M9 (by omega) (by omega) (Ex_.refl _ _) (fun j hj => by omega)
theorem sl_wa (hS : TS_ ow M T nc m) (hX : Ex_ A M M') (hA : ∀ b, A b → WA_ ow M b) (hb : kd_ M b = 2) (hG : kd_ M G = 5) (hn4 : n ≤ 4) (hcd : ∀ i, i < n → ∃ c, c < nc ∧ it_ M (cg_ M G i) 0 = nI c) (L : List Int32) : sl_ M' T G n b fr L = sl_ M T G n b fr L := by
  have hs := hS.sh
  have ecg : ∀ i, cg_ M' G i = cg_ M G i := fun i => by unfold cg_; rw [hX.rf, hX.rf]
  have kcd : ∀ i, i < n → kd_ M (cg_ M G i) = 4 := fun i hi => ((hs.grp hG).2 i (by omega)).1
  unfold sl_
  have eo : oO_ (fun k => gsB_ M' b fr (cg_ M' G k)) n = oO_ (fun k => gsB_ M b fr (cg_ M G k)) n := oO_congr (fun i hi => by
    rw [ecg]
    exact (cfB_wa hs hX hA hb hS.nc8 (kcd i hi) (hcd i hi)).2)
  rw [eo]
  refine sc_congr (N := n) (fun j hj => oO_lt _ hj) (fun i hi => ?_) (fun i hi => ?_) (by omega)
  · rw [ecg]
    exact (cfB_wa hs hX hA hb hS.nc8 (kcd i hi) (hcd i hi)).1
  · rw [ecg]
    exact me_wa hS hX hA (kcd i hi) (hcd i hi)
/-! lookThrough -/
theorem lp_hit_ok {K : Mm → Int32 → Prop} {E : Mm → Prop} {x5 x6 : Int32} {H q : Int32 → Bool} (hs : SH_ ow M) (hSe : kd_ M Se = 8) (hb : kd_ M b = 2) (hB : BR_ M b k R) (hh : ∀ j, j < k → it_ M (rf_ M Se 7) j = b2_ (H (it_ M (rf_ M b 0) j))) (hq : SL_ M Se b k q)
    (hE : ∀ M', Ex_ (fun a => a = rf_ M Se 7) M M' → (∀ j, j < k → it_ M' (rf_ M Se 7) j = b2_ (H (it_ M (rf_ M b 0) j) || q (it_ M (rf_ M b 0) j))) → E M') :
    ∀ (f i : Nat) (M2 : Mm), i ≤ k → k - i < f → Ex_ (fun a => a = rf_ M Se 7) M M2 → (∀ j, j < i → it_ M2 (rf_ M Se 7) j = b2_ (H (it_ M (rf_ M b 0) j) || q (it_ M (rf_ M b 0) j))) → (∀ j, i ≤ j → it_ M2 (rf_ M Se 7) j = it_ M (rf_ M Se 7) j) → lp_X6_lookThrough_90 Se T Q b fr x5 x6 K E f (nI i) M2 := by
  obtain ⟨s0, s5, s7, s8, s9⟩ := hs.sea hSe
  have hk6 := hB.2.1
  have n57 : rf_ M Se 5 ≠ rf_ M Se 7 := own_ne s5 s7 (Or.inr (by decide))
  have nb : b ≠ rf_ M Se 7 := kd_ne hb s7.1 (by decide)
  intro f
  induction f with
  | zero => intro i M2 _ h; omega
  | succ f ih =>
    intro i M2 hi hf hX hlt hge
    have q1 : i < k → k - (i + 1) < f := by omega
    unfold lp_X6_lookThrough_90
    rw [hX.it nb, hB.1, le_nI (by omega) (by omega), hX.rf, hX.rf, hX.kd, hX.kd, hX.ln, hX.ln, s5.2.1, s7.2.1]
    refine ⟨fun hki => ?_, fun hki => ?_⟩
    · have : i = k := by omega
      subst this
      exact hE M2 hX hlt
    have hik : i < k := by omega
    have v := vi_ (n := i) (N := 64) (by omega) (by decide)
    rw [ix_nI (by omega), hge i (Nat.le_refl i), hX.it n57, hh i hik, hq.1 i hik, nI_p1]
    have next : ∀ w : Bool, w = (H (it_ M (rf_ M b 0) i) || q (it_ M (rf_ M b 0) i)) → ∀ M39, M39 = sI_ M2 (rf_ M Se 7) i (b2_ w) → lp_X6_lookThrough_90 Se T Q b fr x5 x6 K E f (nI (i + 1)) M39 := fun w ew M39 e39 => by
      subst e39
      refine ih (i + 1) _ (by omega) (q1 hik) (hX.tr (Ex_.sI _ _ _ rfl)) (fun j hj => ?_) (fun j hj => ?_)
      · by_cases e : j = i
        · rw [e, it_sIs, ew]
        · rw [it_sIk e]
          exact hlt j (by omega)
      · rw [it_sIk (by omega)]
        exact hge j (by omega)
    have b2t : ∀ w : Bool, ¬ b2_ w = 0 → w = true := fun w h => by
      cases w
      · exact absurd rfl h
      · rfl
    refine ⟨s7.1, v, fun _ => ⟨fun h0 => ⟨s5.1, v, fun _ => ⟨fun h1 => ⟨v, fun M39 e39 => next false ?_ M39 e39⟩, fun h1 => ⟨v, fun M39 e39 => next true ?_ M39 e39⟩⟩⟩, fun h0 => ⟨v, fun M39 e39 => next true ?_ M39 e39⟩⟩⟩
    · rw [b2_0.mp h0, b2_0.mp h1]; rfl
    · rw [b2t _ h1]; simp
    · rw [b2t _ h0]; rfl
def meQ_ (M : Mm) (T Q : Nat) : Nat → Nat → Int32 → Bool := fun g k => me_ M T (cd_ M Q g k)
def cfQ_ (M : Mm) (Q b : Nat) (fr : Int32) : Nat → Nat → Nat → Nat := fun g k => cfB_ M b fr (cd_ M Q g k)
def gsQ_ (M : Mm) (Q b : Nat) (fr : Int32) : Nat → Nat → Int32 := fun g k => gsB_ M b fr (cd_ M Q g k)
theorem lp_groups_ok {K : Mm → Int32 → Prop} {E : Int32 → Mm → Prop} (hS : TS_ ow M T nc m) (hSe : kd_ M Se = 8) (hQ : kd_ M Q = 6) (hb : kd_ M b = 2) (hR : R ≤ 600) (hB : BR_ M b k R) (hq : QI_ M Q nc nq cq) (hz : fr ≠ 0 → ZR_ M b nc)
    (hE : ∀ M' x, bz_ x → Ex_ (A2_ M Se) M M' → (∀ j, j ≠ 2 → j ≠ 6 → it_ M' Se j = it_ M Se j) → (∀ j, j < k → it_ M' (rf_ M Se 7) j = b2_ (hh_ (meQ_ M T Q) cq nq (it_ M (rf_ M b 0) j))) → (it_ M Se 4 = 0 → it_ M' Se 2 = it_ M Se 2 + nI (co_ (cfQ_ M Q b fr) (meQ_ M T Q) (gsQ_ M Q b fr) cq (rl_ M b k) nq)) → E x M') :
    ∀ (f g : Nat) (x5 : Int32) (M2 : Mm), g ≤ nq → nq - g < f → bz_ x5 → Ex_ (A2_ M Se) M M2 → (∀ j, j ≠ 2 → j ≠ 6 → it_ M2 Se j = it_ M Se j) → (∀ j, j < k → it_ M2 (rf_ M Se 7) j = b2_ (hh_ (meQ_ M T Q) cq g (it_ M (rf_ M b 0) j))) → (it_ M Se 4 = 0 → it_ M2 Se 2 = it_ M Se 2 + nI (co_ (cfQ_ M Q b fr) (meQ_ M T Q) (gsQ_ M Q b fr) cq (rl_ M b k) g)) → lp_X6_lookThrough_32 Se T Q b fr K E f x5 (nI g) M2 := by
  have hs := hS.sh
  obtain ⟨s0, s5, s7, s8, s9⟩ := hs.sea hSe
  obtain ⟨b0, b1, bz⟩ := hs.blk hb
  obtain ⟨q0, qk⟩ := hs.qry hQ
  obtain ⟨w1, w2, w3, w4⟩ := hq
  have hk6 := hB.2.1
  have sub : ∀ a, A2_ M Se a → WA_ ow M a := fun a h => (A3_.sa hs hSe (A2_.a3 h)).wa
  have nQ : ¬ A2_ M Se Q := fun z => wa_k hQ (by decide) (sub _ z)
  have nb : ¬ A2_ M Se b := fun z => wa_k hb (by decide) (sub _ z)
  have nb0 : ¬ A2_ M Se (rf_ M b 0) := fun z => wa_o b0 (Or.inl hb) (by decide) (sub _ z)
  have n57 : rf_ M Se 5 ≠ rf_ M Se 7 := own_ne s5 s7 (Or.inr (by decide))
  intro f
  induction f with
  | zero => intro g x5 M2 _ h; omega
  | succ f ih =>
    intro g x5 M2 hg hf hx5 hX hfl hhit hco
    have q1 : g < nq → nq - (g + 1) < f := by omega
    unfold lp_X6_lookThrough_32
    rw [hX.it nQ, w3, le_nI (by omega) (by omega)]
    refine ⟨fun hgn => ?_, fun hgn => ?_⟩
    · have : g = nq := by omega
      subst this
      exact hE M2 x5 hx5 hX hfl hhit hco
    have hgq : g < nq := by omega
    obtain ⟨g4, gn, gc⟩ := w4 g hgq
    have kG := (qk g (by omega)).1
    have nG : ¬ A2_ M Se (rf_ M (rf_ M Q 0) g) := fun z => wa_k kG (by decide) (sub _ z)
    have gn' : it_ M (rf_ M (rf_ M Q 0) g) 1 = nI (cq g) := gn
    rw [hX.rf Q 0, hX.kd, hX.ln, ix_nI (n := g) (by omega), hX.rf (rf_ M Q 0) g, hX.kd, hX.it nG, gn', q0.2.1, nI_p1, show (0 : Int32) = nI 0 from rfl, le_nI (by omega) (by omega)]
    refine ⟨q0.1, vi_ (by omega) (by decide), kG, fun h0 => ?_, fun h0 => ?_⟩
    · have e0 : cq g = 0 := by omega
      refine ih (g + 1) x5 M2 (by omega) (q1 hgq) hx5 hX hfl (fun j hj => ?_) (fun h4 => ?_)
      · rw [hhit j hj]
        congr 1
        show _ = (qe_ _ g || (decide (0 < cq g) && _))
        rw [e0]
        simp
        rfl
      · rw [hco h4]
        congr 2
        show _ = co_ _ _ _ _ _ g + (if cq g = 0 then 0 else _)
        rw [if_pos e0]
        rfl
    · have e0 : 0 < cq g := by omega
      have hS2 : TS_ ow M2 T nc m := hS.ex hX (fun a z e => wa_k e (by decide) (sub a z))
      have ecg2 : ∀ i, cg_ M2 (rf_ M (rf_ M Q 0) g) i = cd_ M Q g i := fun i => by
        unfold cg_ cd_ gr_
        rw [hX.rf, hX.rf]
      have kcd : ∀ i, i < cq g → kd_ M (cd_ M Q g i) = 4 := fun i hi => cd_k hs hQ (by omega) (by omega)
      have hcd2 : ∀ i, i < cq g → ∃ c, c < nc ∧ it_ M2 (cg_ M2 (rf_ M (rf_ M Q 0) g) i) 0 = nI c := fun i hi => by
        rw [ecg2, hX.it (fun z => wa_k (kcd i hi) (by decide) (sub _ z))]
        exact gc i hi
      have hB2 : BR_ M2 b k R := BR_sa (hX.it nb 2) (hX.rf _ _) (fun j _ => hX.it nb0 j) hB
      have hz2 : fr ≠ 0 → ZR_ M2 b nc := fun h => (hz h).ex hs hb hS.nc8 hX (fun a z e => wa_k e (by decide) (sub a z))
      have kSe2 : kd_ M2 Se = 8 := by rw [hX.kd]; exact hSe
      have kb2 : kd_ M2 b = 2 := by rw [hX.kd]; exact hb
      refine sp_select hS2 kSe2 (by rw [hX.kd]; exact kG) kb2 hR hB2 g4 (by rw [hX.it nG]; exact gn') hcd2 hz2 (fun M18 X18 f18 sl18 c18 _ => ?_)
      rw [A1_.eq hX.1] at X18
      have X18' : Ex_ (A2_ M Se) M M18 := hX.tr (X18.mono (fun a ha => Or.inl ha))
      have h18 : ∀ j, it_ M18 (rf_ M Se 7) j = it_ M2 (rf_ M Se 7) j := fun j => X18.it (fun z => by
        rcases z with z | z | z | z
        · exact kd_ne s7.1 hSe (by decide) z
        · exact n57 z.symm
        · exact kd_ne s7.1 s8.1 (by decide) z
        · exact kd_ne s7.1 s9.1 (by decide) z) j
      have eQ : (fun x => qa_ (fun i => me_ M2 T (cg_ M2 (rf_ M (rf_ M Q 0) g) i) x) (cq g)) = (fun x => qa_ (fun i => meQ_ M T Q g i x) (cq g)) := funext fun x => qa_congr (fun i hi => by
        rw [ecg2, me_wa hS hX sub (kcd i hi) (gc i hi)]
        rfl)
      rw [eQ] at sl18
      have hco18 : it_ M Se 4 = 0 → it_ M18 Se 2 = it_ M Se 2 + nI (co_ (cfQ_ M Q b fr) (meQ_ M T Q) (gsQ_ M Q b fr) cq (rl_ M b k) (g + 1)) := fun h4 => by
        rw [c18 (by rw [hfl 4 (by decide) (by decide)]; exact h4), hco h4, rl_wa hs hX sub hb, sl_wa hS hX sub hb kG g4 gc, Int32.add_assoc, nI_add]
        congr 2
        show _ = co_ _ _ _ _ _ g + (if cq g = 0 then 0 else _)
        rw [if_neg (by omega)]
        rfl
      have f18' : ∀ j, j ≠ 2 → j ≠ 6 → it_ M18 Se j = it_ M Se j := fun j h2 h6 => (f18 j h2 h6).trans (hfl j h2 h6)
      have kSe18 : kd_ M18 Se = 8 := by rw [X18'.kd]; exact hSe
      have kb18 : kd_ M18 b = 2 := by rw [X18'.kd]; exact hb
      have B18 : BR_ M18 b k R := BR_sa (X18'.it nb 2) (X18'.rf _ _) (fun j _ => X18'.it nb0 j) hB
      have r18 : ∀ j, it_ M18 (rf_ M18 b 0) j = it_ M (rf_ M b 0) j := fun j => by rw [X18'.rf, X18'.it nb0]
      have hit18 : ∀ j, j < k → it_ M18 (rf_ M18 Se 7) j = b2_ (hh_ (meQ_ M T Q) cq g (it_ M18 (rf_ M18 b 0) j)) := fun j hj => by
        rw [X18'.rf Se, h18, r18]
        exact hhit j hj
      -- the hits joined, and on
      have go : ∀ (y x5' : Int32), bz_ x5' → ∃ n51 : Nat, lp_X6_lookThrough_90 Se T Q b fr y (nI g) K (fun M52 => Nk_ M18 M52 → lp_X6_lookThrough_32 Se T Q b fr K E f x5' (nI (g + 1)) M52) n51 (0 : Int32) M18 := fun y x5' hx' => by
        refine ⟨k + 1, lp_hit_ok (X18'.1.sh hs) kSe18 kb18 B18 hit18 sl18 (fun M52 X52 h52 _ => ?_) (k + 1) 0 M18 (by omega) (by omega) (Ex_.refl _ _) (fun j hj => by omega) (fun j _ => rfl)⟩
        rw [X18'.rf Se] at X52 h52
        have o52 : ∀ j, it_ M52 Se j = it_ M18 Se j := fun j => X52.it (fun z => kd_ne hSe s7.1 (by decide) z) j
        refine ih (g + 1) x5' M52 (by omega) (q1 hgq) hx' (X18'.tr (X52.mono (fun a ha => Or.inr ha))) (fun j h2 h6 => by rw [o52]; exact f18' j h2 h6) (fun j hj => ?_) (fun h4 => by rw [o52]; exact hco18 h4)
        rw [h52 j hj, r18]
        congr 1
        show _ = (qe_ _ g || (decide (0 < cq g) && _))
        rw [decide_eq_true e0]
        rfl
      exact ⟨fun _ => ⟨fun _ => go 0 0 (Or.inl rfl), fun _ => go 1 1 (Or.inr rfl)⟩, fun _ => go 1 1 (Or.inr rfl)⟩
theorem sp_lookThrough {K : Mm → Int32 → Prop} (hS : TS_ ow M T nc m) (hSe : kd_ M Se = 8) (hQ : kd_ M Q = 6) (hb : kd_ M b = 2) (hR : R ≤ 600) (hB : BR_ M b k R) (hq : QI_ M Q nc nq cq) (hz : fr ≠ 0 → ZR_ M b nc)
    (hK : ∀ M' x, Ex_ (A2_ M Se) M M' → (∀ j, j ≠ 2 → j ≠ 6 → it_ M' Se j = it_ M Se j) → (∀ j, j < k → it_ M' (rf_ M Se 7) j = b2_ (hh_ (meQ_ M T Q) cq nq (it_ M (rf_ M b 0) j))) → (it_ M Se 4 = 0 → it_ M' Se 2 = it_ M Se 2 + nI (co_ (cfQ_ M Q b fr) (meQ_ M T Q) (gsQ_ M Q b fr) cq (rl_ M b k) nq)) → K M' x) : wp_X6_lookThrough Se T Q b fr M K := by
  have hs := hS.sh
  obtain ⟨s0, s5, s7, s8, s9⟩ := hs.sea hSe
  have hk6 := hB.2.1
  have nb : b ≠ rf_ M Se 7 := kd_ne hb s7.1 (by decide)
  have n7 : Se ≠ rf_ M Se 7 := kd_ne hSe s7.1 (by decide)
  refine ⟨hSe, hS.kT, hQ, hb, k + 1, ?_⟩
  have key : ∀ (f i : Nat) (M2 : Mm), i ≤ k → k - i < f → Ex_ (fun a => a = rf_ M Se 7) M M2 → (∀ j, j < i → it_ M2 (rf_ M Se 7) j = 0) → lp_X6_lookThrough_6 Se T Q b fr (0 : Int32) K (fun M6 => Nk_ M M6 → (∃ n67 : Nat, lp_X6_lookThrough_32 Se T Q b fr K (fun xv70 M68 => Nk_ M6 M68 → (bz_ xv70 ∧ (K M68 xv70))) n67 (0 : Int32) (0 : Int32) M6)) f (nI i) M2 := by
    intro f
    induction f with
    | zero => intro i M2 _ h; omega
    | succ f ih =>
      intro i M2 hi hf hX h1
      have q1 : i < k → k - (i + 1) < f := by omega
      unfold lp_X6_lookThrough_6
      rw [hX.it nb, hB.1, le_nI (by omega) (by omega)]
      refine ⟨fun hki => ?_, fun hki => ?_⟩
      · have : i = k := by omega
        subst this
        intro _
        refine ⟨nq + 1, lp_groups_ok (E := fun xv70 M68 => Nk_ M2 M68 → (bz_ xv70 ∧ (K M68 xv70))) hS hSe hQ hb hR hB hq hz (fun M' x hx x1 x2 x3 x4 _ => ⟨hx, hK M' x x1 x2 x3 x4⟩) (nq + 1) 0 0 M2 (by omega) (by omega) (Or.inl rfl) (hX.mono (fun a ha => Or.inr ha)) (fun j _ _ => hX.it n7 j) (fun j hj => ?_) (fun _ => ?_)⟩
        · rw [h1 j hj]
          rfl
        · rw [hX.it n7]
          exact (Int32.add_zero _).symm
      · rw [hX.rf, hX.kd, hX.ln, s7.2.1, ix_nI (by omega), nI_p1]
        refine ⟨s7.1, vi_ (by omega) (by decide), fun M13 e13 => ?_⟩
        subst e13
        refine ih (i + 1) _ (by omega) (q1 (by omega)) (hX.tr (Ex_.sI _ _ _ rfl)) (fun j hj => ?_)
        by_cases e : j = i
        · rw [e, it_sIs]
        · rw [it_sIk e]
          exact h1 j (by omega)
  exact key (k + 1) 0 M (by omega) (by omega) (Ex_.refl _ _) (fun j hj => by omega)
end LK
