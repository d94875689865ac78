/-! run, find, wouldFind, costWithout -/
section RU
variable {ow : Nat → Nat × Nat} {M M' : Mm} {T F Q nc m R sz nq i c r g k n Se b : Nat} {kk cq : Nat → Nat} {A : Nat → Prop} {fr x3 x4 : Int32}
theorem sp_condCount {K : Mm → Int32 → Prop} (hs : SH_ ow M) (hQ : kd_ M Q = 6) (hq : QI_ M Q nc nq cq) (hK : K M (nI (qn_ cq nq))) : wp_X4_conditionCount Q M K := by
  obtain ⟨q0, qk⟩ := hs.qry hQ
  obtain ⟨w1, w2, w3, w4⟩ := hq
  have key : ∀ (f g : Nat), g ≤ nq → nq - g < f → lp_X4_conditionCount_4 Q K (fun xv5 M6 => Nk_ M M6 → (K M6 xv5)) f (nI (qn_ cq g)) (nI g) M := by
    intro f
    induction f with
    | zero => intro g _ h; omega
    | succ f ih =>
      intro g hg hf
      have q1 : g < nq → nq - (g + 1) < f := by omega
      unfold lp_X4_conditionCount_4
      rw [w3, le_nI (by omega) (by omega)]
      refine ⟨fun h => ?_, fun h => ?_⟩
      · have : g = nq := by omega
        rw [this]
        exact fun _ => hK
      · have hgq : g < nq := by omega
        obtain ⟨g4, gn, -⟩ := w4 g hgq
        have gn' : it_ M (rf_ M (rf_ M Q 0) g) 1 = nI (cq g) := gn
        rw [ix_nI (n := g) (by omega), gn', nI_add, nI_p1, q0.2.1]
        exact ⟨q0.1, vi_ (by omega) (by decide), (qk g (by omega)).1, ih (g + 1) (by omega) (q1 hgq)⟩
  exact ⟨hQ, nq + 1, key (nq + 1) 0 (by omega) (by omega)⟩
/-- the state of a run ahead of block i -/
def RW_ (M : Mm) (T m : Nat) (kk : Nat → Nat) : Nat → List Int32 := fun i => rl_ M (bk_ M T m i) (kk i)
def CB_ (M : Mm) (T Q m nq : Nat) (kk cq : Nat → Nat) : Nat → Nat := cb_ (fun i => cfQ_ M Q (bk_ M T m i) (frf_ m i)) (meQ_ M T Q) (fun i => gsQ_ M Q (bk_ M T m i) (frf_ m i)) cq (RW_ M T m kk) nq
def RN_ (M : Mm) (T Q Se m nq : Nat) (kk cq : Nat → Nat) (x3 : Int32) (i : Nat) (M2 : Mm) : Prop := Ex_ (A3_ M Se) M M2 ∧ it_ M2 Se 4 = x3 ∧ FL_ M2 Se (ca_ (RW_ M T m kk) (FP_ M T Q nq cq) i) ∧ (x3 = 0 → it_ M2 Se 2 = nI (CB_ M T Q m nq kk cq i))
/-- behind a block's looking through, ahead of its collecting -/
def RM_ (M : Mm) (T Q Se m nq : Nat) (kk cq : Nat → Nat) (x3 : Int32) (i : Nat) (M2 : Mm) : Prop := Ex_ (A3_ M Se) M M2 ∧ it_ M2 Se 4 = x3 ∧ FL_ M2 Se (ca_ (RW_ M T m kk) (FP_ M T Q nq cq) i) ∧ (x3 = 0 → it_ M2 Se 2 = nI (CB_ M T Q m nq kk cq (i + 1))) ∧ ∀ j, j < kk i → it_ M2 (rf_ M Se 7) j = b2_ (hh_ (meQ_ M T Q) cq nq (it_ M (rf_ M (bk_ M T m i) 0) j))
theorem FL_.keep {L : List Int32} (h : FL_ M Se L) (hr : rf_ M' Se 0 = rf_ M Se 0) (h1 : it_ M' Se 1 = it_ M Se 1) (h0 : ∀ j, it_ M' (rf_ M Se 0) j = it_ M (rf_ M Se 0) j) : FL_ M' Se L := by
  have e : it_ M' (rf_ M Se 0) = it_ M (rf_ M Se 0) := funext h0
  unfold FL_ at h ⊢
  rw [hr, h1, e]
  exact h
theorem TI_.zr (h : TI_ ow M T nc m R sz kk (fun j => j < m)) (hi : i < m) : ZR_ M (bk_ M T m i) nc := by
  intro c hc
  have hk6 := (h.2.1.1 i (by omega)).2.1
  obtain ⟨-, ⟨nc', dc, rn, fm, a1, a2, a3, a4, a5, a6, a7, a8, -⟩, -⟩ := h.zn hi hc
  have e : bk_ M T m i = el_ M (rf_ M T 1) i := if_pos hi
  rw [e]
  exact ⟨rn, dc, by omega, by omega, a3, a2⟩
theorem rn_look {K : Mm → Int32 → Prop} {M2 : Mm} (h : TI_ ow M T nc m R sz kk (fun j => j < m)) (hSe : kd_ M Se = 8) (hQ : kd_ M Q = 6) (hq : QI_ M Q nc nq cq) (hi : i ≤ m) (hr : RN_ M T Q Se m nq kk cq x3 i M2)
    (hK : ∀ M' x, it_ M' Se 3 = it_ M2 Se 3 → RM_ M T Q Se m nq kk cq x3 i M' → K M' x) : wp_X6_lookThrough Se T Q (bk_ M T m i) (frf_ m i) M2 K := by
  obtain ⟨hX, h4, hL, hC⟩ := hr
  have hS := h.1
  have hs := hS.sh
  have hR := h.2.2.2.1.2.1
  have hB := h.2.1.1 i hi
  have hb := hS.bk i
  have b0 := (hS.bo i).1
  obtain ⟨s0, s5, s7, s8, s9⟩ := hs.sea hSe
  have sub : ∀ a, A3_ M Se a → WA_ ow M a := fun a h => (A3_.sa hs hSe h).wa
  have nb : ¬ A3_ M Se (bk_ M T m i) := fun z => wa_k hb (by decide) (sub _ z)
  have nb0 : ¬ A3_ M Se (rf_ M (bk_ M T m i) 0) := fun z => wa_o b0 (Or.inl hb) (by decide) (sub _ z)
  have h2 := h.wa hX sub
  have q2 := hq.wa hs hQ hX sub
  have kSe2 : kd_ M2 Se = 8 := by rw [hX.kd]; exact hSe
  have kQ2 : kd_ M2 Q = 6 := by rw [hX.kd]; exact hQ
  have kb2 : kd_ M2 (bk_ M T m i) = 2 := by rw [hX.kd]; exact hb
  have hB2 : BR_ M2 (bk_ M T m i) (kk i) R := BR_sa (hX.it nb 2) (hX.rf _ _) (fun j _ => hX.it nb0 j) hB
  refine sp_lookThrough h2.1 kSe2 kQ2 kb2 hR hB2 q2 (fun hf => ?_) (fun M' x X' f' hit' co' => ?_)
  · have hi' : i < m := by
      unfold frf_ at hf
      by_cases e : i < m
      · exact e
      · rw [if_neg e] at hf
        exact absurd rfl hf
    have := h2.zr hi'
    rw [hX.1.bk] at this
    exact this
  · rw [A2_.eq hX.1] at X'
    rw [hX.rf Se 7, hX.rf (bk_ M T m i) 0] at hit'
    have n0 : ∀ j, it_ M' (rf_ M Se 0) j = it_ M2 (rf_ M Se 0) j := fun j => X'.it (fun z => by
      rcases z with (z | z | z | z) | z
      · exact kd_ne s0.1 hSe (by decide) z
      · exact kd_ne s0.1 s5.1 (by decide) z
      · exact own_ne s0 s8 (Or.inr (by decide)) z
      · exact own_ne s0 s9 (Or.inr (by decide)) z
      · exact kd_ne s0.1 s7.1 (by decide) z) j
    have eme : ∀ g k, g < nq → k < cq g → meQ_ M2 T Q g k = meQ_ M T Q g k := fun g k hg hk => by
      obtain ⟨c1, c2⟩ := hq.cd hs hQ hg hk
      unfold meQ_
      rw [hX.1.cd]
      exact me_wa hS hX sub c1 c2
    refine hK M' x (f' 3 (by decide) (by decide)) ⟨hX.tr (X'.mono (fun a ha => A2_.a3 ha)), by rw [f' 4 (by decide) (by decide)]; exact h4, hL.keep ((X'.rf _ _)) (f' 1 (by decide) (by decide)) (fun j => by rw [hX.rf]; exact n0 j), fun h0 => ?_, fun j hj => ?_⟩
    · rw [co' (h4.trans h0), hC h0, nI_add]
      congr 2
      rw [rl_wa hs hX sub hb]
      refine co_congr (fun g k hg hk => ?_)
      obtain ⟨c1, c2⟩ := hq.cd hs hQ hg hk
      have b := cfB_wa (fr := frf_ m i) hs hX sub hb hS.nc8 c1 c2
      refine ⟨?_, eme g k hg hk, ?_⟩
      · unfold cfQ_
        rw [hX.1.cd]
        exact b.1
      · unfold gsQ_
        rw [hX.1.cd]
        exact b.2
    · rw [hit' j hj, hX.it nb0]
      congr 1
      unfold hh_
      exact qe_congr (fun g hg => by rw [qa_congr (fun k hk => by rw [eme g k hg hk])])
theorem rn_collect {K : Mm → Prop} {M2 : Mm} (h : TI_ ow M T nc m R sz kk (fun j => j < m)) (hSe : kd_ M Se = 8) (hi : i ≤ m) (hx4 : decide (x4 ≠ 0) = decide (qn_ cq nq = 0)) (hr : RM_ M T Q Se m nq kk cq x3 i M2)
    (hK : ∀ M', it_ M' Se 3 = it_ M2 Se 3 → RN_ M T Q Se m nq kk cq x3 (i + 1) M' → K M') : wp_X6_collect Se T (bk_ M T m i) x4 M2 K := by
  obtain ⟨hX, h4, hL, hC, hH⟩ := hr
  have hS := h.1
  have hs := hS.sh
  have hR := h.2.2.2.1.2.1
  have hB := h.2.1.1 i hi
  have hb := hS.bk i
  have b0 := (hS.bo i).1
  have sub : ∀ a, A3_ M Se a → WA_ ow M a := fun a h => (A3_.sa hs hSe h).wa
  have nb : ¬ A3_ M Se (bk_ M T m i) := fun z => wa_k hb (by decide) (sub _ z)
  have nb0 : ¬ A3_ M Se (rf_ M (bk_ M T m i) 0) := fun z => wa_o b0 (Or.inl hb) (by decide) (sub _ z)
  have h2 := h.wa hX sub
  have kSe2 : kd_ M2 Se = 8 := by rw [hX.kd]; exact hSe
  have kb2 : kd_ M2 (bk_ M T m i) = 2 := by rw [hX.kd]; exact hb
  have hB2 : BR_ M2 (bk_ M T m i) (kk i) R := BR_sa (hX.it nb 2) (hX.rf _ _) (fun j _ => hX.it nb0 j) hB
  refine sp_collect (h := hh_ (meQ_ M T Q) cq nq) h2.1.sh kSe2 h2.1.kT kb2 hR hB2 (fun _ j hj => ?_) hL (fun M' X' f' L' => ?_)
  · rw [hX.rf Se 7, hX.rf (bk_ M T m i) 0, hX.it nb0]
    exact hH j hj
  · have e0 : rf_ M2 Se 0 = rf_ M Se 0 := hX.rf _ _
    have eP : (fun x => alB_ M2 T x && (decide (x4 ≠ 0) || hh_ (meQ_ M T Q) cq nq x)) = FP_ M T Q nq cq := by
      rw [alB_wa hS hX sub, hx4]
      rfl
    rw [eP, rl_wa hs hX sub hb] at L'
    rw [e0] at X'
    exact hK M' (f' 3 (by decide)) ⟨hX.tr (X'.mono (fun a ha => by
      rcases ha with z | z
      · exact Or.inl (Or.inl (Or.inl z))
      · exact Or.inr z)), by rw [f' 4 (by decide)]; exact h4, L', fun h0 => by rw [f' 2 (by decide)]; exact hC h0⟩
theorem lp_run_ok {K E : Mm → Prop} (h : TI_ ow M T nc m R sz kk (fun j => j < m)) (hSe : kd_ M Se = 8) (hQ : kd_ M Q = 6) (hq : QI_ M Q nc nq cq) (hx4 : decide (x4 ≠ 0) = decide (qn_ cq nq = 0))
    (hE : ∀ M', RN_ M T Q Se m nq kk cq x3 m M' → (∃ p, p ≤ m ∧ it_ M' Se 3 = nI p) → E M') :
    ∀ (f i : Nat) (M2 : Mm), i ≤ m → m - i < f → RN_ M T Q Se m nq kk cq x3 i M2 → (∃ p, p ≤ i ∧ it_ M2 Se 3 = nI p) → lp_X6_run_37 Se T Q x4 K E f (nI i) M2 := by
  have hS := h.1
  have hs := hS.sh
  have m2 := hS.m2
  have sub : ∀ a, A3_ M Se a → WA_ ow M a := fun a h => (A3_.sa hs hSe h).wa
  intro f
  induction f with
  | zero => intro i M2 _ h; omega
  | succ f ih =>
    intro i M2 hi hf hr hp
    have q1 : i < m → m - (i + 1) < f := by omega
    have hX := hr.1
    have h2 := h.wa hX sub
    have hS2 := h2.1
    unfold lp_X6_run_37
    refine ⟨hS2.t.2.1.1, sp_size hS2.lf (fun _ => ?_)⟩
    rw [le_nI (by omega) (by omega)]
    refine ⟨fun hmi => ?_, fun hmi => ⟨hS2.t.2.1.1, ?_⟩⟩
    · have : i = m := by omega
      subst this
      exact hE M2 hr hp
    have him : i < m := by omega
    have ebk : el_ M2 (rf_ M2 T 1) i = bk_ M T m i := by
      rw [← hX.1.bk]
      exact (if_pos him).symm
    have efr : (1 : Int32) = frf_ m i := (if_pos him).symm
    refine sp_get hS2.lf him (by decide) (fun _ => ⟨hS2.lf.el him, ?_⟩)
    rw [ebk, efr]
    refine rn_look h hSe hQ hq (by omega) hr (fun M36 x e3 hm36 _ _ => ?_)
    obtain ⟨pz, hpz, epz⟩ := hp
    -- collecting, from any memory that differs in the count of passed ones alone
    have go : ∀ M83 : Mm, RM_ M T Q Se m nq kk cq x3 i M83 → (∃ p, p ≤ i + 1 ∧ it_ M83 Se 3 = nI p) → wp_Jx4a65c_get_915e3 (rf_ M36 T 1) (nI i) M83 (fun M85 r86 => Nk_ M83 M85 → (kd_ M85 r86 = 2 ∧ (wp_X6_collect Se T r86 x4 M85 (fun M95 => Nk_ M85 M95 → lp_X6_run_37 Se T Q x4 K E f ((nI i) + frf_ m i) M95)))) := fun M83 hm83 hp83 => by
      have X83 := hm83.1
      have h83 := h.wa X83 sub
      have ebk83 : el_ M83 (rf_ M83 T 1) i = bk_ M T m i := by
        rw [← X83.1.bk]
        exact (if_pos him).symm
      have er : rf_ M36 T 1 = rf_ M83 T 1 := by rw [hm36.1.rf, X83.rf]
      rw [er]
      refine sp_get h83.1.lf him (by decide) (fun _ => ⟨h83.1.lf.el him, ?_⟩)
      rw [ebk83]
      refine rn_collect h hSe (by omega) hx4 hm83 (fun M95 e95 hr95 _ => ?_)
      rw [← efr, nI_p1]
      exact ih (i + 1) M95 (by omega) (q1 him) hr95 (by rw [e95]; exact hp83)
    have k36 : kd_ M36 (rf_ M36 T 1) = 1 := by
      have := (h.wa hm36.1 sub).1.t.2.1.1
      exact this
    refine ⟨fun _ => ⟨fun _ M83 e83 => ⟨k36, ?_⟩, fun _ => ⟨k36, go M36 hm36 ⟨pz, by omega, e3.trans epz⟩⟩⟩, fun _ => ⟨k36, go M36 hm36 ⟨pz, by omega, e3.trans epz⟩⟩⟩
    obtain ⟨y1, y2, y3, y4, y5⟩ := hm36
    obtain ⟨s0, s5, s7, s8, s9⟩ := hs.sea hSe
    have nn : ∀ j, j ≠ 3 → it_ M83 Se j = it_ M36 Se j := fun j hj => by rw [e83, it_sIk hj]
    have no : ∀ a j, a ≠ Se → it_ M83 a j = it_ M36 a j := fun a j ha => by rw [e83, it_sIa ha]
    have X83 : Ex_ (A3_ M Se) M36 M83 := by rw [e83]; exact Ex_.sI _ _ _ (Or.inl (Or.inl (Or.inl rfl)))
    refine go M83 ⟨y1.tr X83, by rw [nn 4 (by decide)]; exact y2, y3.keep (X83.rf _ _) (nn 1 (by decide)) (fun j => no _ j ?_), fun h0 => by rw [nn 2 (by decide)]; exact y4 h0, fun j hj => ?_⟩ ⟨pz + 1, by omega, ?_⟩
    · rw [y1.rf]; exact kd_ne s0.1 hSe (by decide)
    · rw [no _ j (kd_ne s7.1 hSe (by decide))]; exact y5 j hj
    · rw [e83, it_sIs, e3, epz, ← efr, nI_p1]
theorem sp_run {K : Mm → Prop} (h : TI_ ow M T nc m R sz kk (fun j => j < m)) (hSe : kd_ M Se = 8) (hQ : kd_ M Q = 6) (hq : QI_ M Q nc nq cq) (hx3 : bz_ x3)
    (hK : ∀ M', Ex_ (A3_ M Se) M M' → it_ M' Se 1 = nI (FR_ M T Q m nq kk cq).length → sg_ (it_ M' (rf_ M Se 0)) 0 (FR_ M T Q m nq kk cq).length = FR_ M T Q m nq kk cq → (x3 = 0 → it_ M' Se 2 = nI (CW_ M T Q m nq kk cq)) → (∃ p, p ≤ m ∧ it_ M' Se 3 = nI p) → K M') : wp_X6_run Se T Q x3 M K := by
  have hS := h.1
  have hs := hS.sh
  obtain ⟨s0, s5, s7, s8, s9⟩ := hs.sea hSe
  have sub : ∀ a, A3_ M Se a → WA_ ow M a := fun a h => (A3_.sa hs hSe h).wa
  have n0 : rf_ M Se 0 ≠ Se := kd_ne s0.1 hSe (by decide)
  refine ⟨hSe, hS.kT, hQ, fun M1 e1 M2 e2 M3 e3 => ⟨hx3, fun M5 e5 => ?_⟩⟩
  have AS : A3_ M Se Se := Or.inl (Or.inl (Or.inl rfl))
  have X5 : Ex_ (A3_ M Se) M M5 := by
    rw [e5, e3, e2, e1]
    exact (((Ex_.sI _ _ _ AS).tr (Ex_.sI _ _ _ AS)).tr (Ex_.sI _ _ _ AS)).tr (Ex_.sI _ _ _ AS)
  have r5 : RN_ M T Q Se m nq kk cq x3 0 M5 := by
    refine ⟨X5, by rw [e5, it_sIs], ⟨?_, ?_⟩, fun _ => ?_⟩
    · rw [e5, it_sIk (by decide), e3, it_sIk (by decide), e2, it_sIk (by decide), e1, it_sIs]
      rfl
    · rfl
    · rw [e5, it_sIk (by decide), e3, it_sIk (by decide), e2, it_sIs]
      rfl
  have p5 : ∃ p, p ≤ 0 ∧ it_ M5 Se 3 = nI p := ⟨0, Nat.le_refl 0, by rw [e5, it_sIk (by decide), e3, it_sIs]; rfl⟩
  have q5 := hq.wa hs hQ X5 sub
  -- the BUFFER, and the end
  have fin : ∀ (x4 : Int32) (M128 : Mm), decide (x4 ≠ 0) = decide (qn_ cq nq = 0) → RN_ M T Q Se m nq kk cq x3 m M128 → (∃ p, p ≤ m ∧ it_ M128 Se 3 = nI p) → (kd_ M128 (rf_ M128 T 5) = 2 ∧ (wp_X6_lookThrough Se T Q (rf_ M128 T 5) (0 : Int32) M128 (fun M135 r136 => Nk_ M128 M135 → bz_ r136 → (kd_ M135 (rf_ M135 T 5) = 2 ∧ (wp_X6_collect Se T (rf_ M135 T 5) x4 M135 (fun M145 => Nk_ M135 M145 → K M145)))))) := fun x4 M128 hx4 hr hp => by
    have ebm : bk_ M T m m = rf_ M T 5 := if_neg (Nat.lt_irrefl m)
    have X := hr.1
    have efr : (0 : Int32) = frf_ m m := (if_neg (Nat.lt_irrefl m)).symm
    rw [X.rf, X.kd, ← ebm, efr]
    refine ⟨hS.bk m, rn_look h hSe hQ hq (Nat.le_refl m) hr (fun M135 x e3 hm _ _ => ?_)⟩
    rw [hm.1.rf, hm.1.kd, ← ebm]
    refine ⟨hS.bk m, rn_collect h hSe (Nat.le_refl m) hx4 hm (fun M145 e145 hr145 _ => ?_)⟩
    obtain ⟨z1, z2, ⟨z3, z4⟩, z5⟩ := hr145
    have el : (FR_ M T Q m nq kk cq).length = min 600 (ca_ (RW_ M T m kk) (FP_ M T Q nq cq) (m + 1)).length := List.length_take
    refine hK M145 z1 (by rw [el]; exact z3) ?_ (fun h0 => z5 h0) ?_
    · rw [el]
      rw [z1.rf] at z4
      exact z4
    · rw [e145, e3]; exact hp
  refine sp_condCount (X5.1.sh hs) (by rw [X5.kd]; exact hQ) q5 (fun _ => ⟨fun h0 => ⟨m + 1, ?_⟩, fun h0 => ⟨m + 1, ?_⟩⟩)
  · have e0 : qn_ cq nq = 0 := by
      have := qn_le (cq := cq) (n := nq) (fun g hg => (hq.2.2.2 g hg).1)
      have := hq.2.1
      exact nI_inj (a := qn_ cq nq) (b := 0) (by omega) (by omega) h0
    have hx : decide ((1 : Int32) ≠ 0) = decide (qn_ cq nq = 0) := by rw [decide_eq_true e0]; decide
    refine lp_run_ok h hSe hQ hq hx ?_ (m + 1) 0 M5 (by omega) (by omega) r5 p5
    intro M' hr hp _
    exact fin 1 M' hx hr hp
  · have e0 : ¬ qn_ cq nq = 0 := fun z => h0 (by rw [z]; rfl)
    have hx : decide ((0 : Int32) ≠ 0) = decide (qn_ cq nq = 0) := by rw [decide_eq_false e0]; decide
    refine lp_run_ok h hSe hQ hq hx ?_ (m + 1) 0 M5 (by omega) (by omega) r5 p5
    intro M' hr hp _
    exact fin 0 M' hx hr hp
theorem CW_le (h : TI_ ow M T nc m R sz kk (fun j => j < m)) (hs : SH_ ow M) (hQ : kd_ M Q = 6) (hq : QI_ M Q nc nq cq) : CW_ M T Q m nq kk cq ≤ 2048 * (m + 1) := by
  have hS := h.1
  unfold CW_
  refine cb_le (k := 64) hq.2.1 (fun g hg => (hq.2.2.2 g hg).1) (fun i hi => ?_) (fun i g j s hi hg hj hs' => ?_)
  · show (sg_ _ 0 (kk i)).length ≤ 64
    rw [sg_len]
    exact (h.2.1.1 i (by omega)).2.1
  · obtain ⟨c1, c, hc, ec⟩ := hq.cd hs hQ hg hj
    unfold cfB_ frf_
    have n8 := hS.nc8
    by_cases e : i < m
    · rw [if_pos e, if_neg (by decide)]
      obtain ⟨rn, dc, hrn, hdc, ern, edc⟩ := h.zr e c hc
      have ez : zc_ M (bk_ M T m i) (cd_ M Q g j) = rf_ M (rf_ M (bk_ M T m i) 1) c := by unfold zc_; rw [ec, ix_nI (by omega)]
      unfold cfN_
      rw [ez, ern, edc, ix_nI (by omega), ix_nI (by omega)]
      repeat' split
      all_goals omega
    · rw [if_neg e, if_pos rfl]
      omega
theorem FR_mem (h : TI_ ow M T nc m R sz kk (fun j => j < m)) {x : Int32} (hx : x ∈ FR_ M T Q m nq kk cq) : ∃ r, r < R ∧ x = nI r ∧ al_ M T r ≠ 0 := by
  have hR := h.2.2.2.1.2.1
  have hx := List.mem_of_mem_take hx
  have key : ∀ n, n ≤ m + 1 → x ∈ ca_ (fun i => rl_ M (bk_ M T m i) (kk i)) (FP_ M T Q nq cq) n → ∃ r, r < R ∧ x = nI r ∧ al_ M T r ≠ 0 := by
    intro n
    induction n with
    | zero => intro _ h; cases h
    | succ n ih =>
      intro hn hx
      rcases List.mem_append.mp hx with hx | hx
      · exact ih (by omega) hx
      · obtain ⟨h1, h2⟩ := List.mem_filter.mp hx
        obtain ⟨j, -, hj, ej⟩ := sg_mem.mp h1
        obtain ⟨r, hr, er⟩ := (h.2.1.1 n (by omega)).2.2 j (by omega)
        refine ⟨r, hr, ej.symm.trans er, ?_⟩
        have h3 : alB_ M T x = true := by
          unfold FP_ pr_ at h2
          rw [Bool.and_eq_true] at h2
          exact h2.1
        unfold alB_ lv_f at h3
        rw [← ej, er, ix_nI (by omega)] at h3
        exact of_decide_eq_true h3
  exact key (m + 1) (Nat.le_refl _) hx
theorem FR_len : (FR_ M T Q m nq kk cq).length ≤ 600 := by
  unfold FR_
  rw [List.length_take]
  omega
theorem sp_costWithout {K : Mm → Int32 → Prop} (hF : kd_ M F = 12) (h : TI_ ow M (rf_ M F 0) nc m R sz kk (fun j => j < m)) (hq : QI_ M (rf_ M F 1) nc nq cq) (hK : ∀ M', Ex_ (SA_ ow M) M M' → K M' (nI (CW_ M (rf_ M F 0) (rf_ M F 1) m nq kk cq))) : wp_X10_costWithout F M K := by
  have f := h.1.sh.cfr hF
  refine ⟨hF, f.2.2.1.1, h.1.kT, f.2.1.1, sp_run h f.2.2.1.1 f.2.1.1 hq (Or.inl rfl) (fun M' X _ _ c _ _ => ?_)⟩
  rw [X.rf, X.kd, c rfl]
  exact ⟨f.2.2.1.1, hK M' (X.mono (fun a ha => A3_.sa h.1.sh f.2.2.1.1 ha))⟩
theorem sp_wouldFind {K : Mm → Int32 → Prop} (hF : kd_ M F = 12) (h : TI_ ow M (rf_ M F 0) nc m R sz kk (fun j => j < m)) (hq : QI_ M (rf_ M F 1) nc nq cq) (hK : ∀ M', Ex_ (SA_ ow M) M M' → K M' (nI (FR_ M (rf_ M F 0) (rf_ M F 1) m nq kk cq).length)) : wp_X10_wouldFind F M K := by
  have f := h.1.sh.cfr hF
  refine ⟨hF, f.2.2.1.1, h.1.kT, f.2.1.1, sp_run h f.2.2.1.1 f.2.1.1 hq (Or.inr rfl) (fun M' X c _ _ _ _ => ?_)⟩
  rw [X.rf, X.kd, c]
  exact ⟨f.2.2.1.1, hK M' (X.mono (fun a ha => A3_.sa h.1.sh f.2.2.1.1 ha))⟩
/-- the result is L -/
def RS_ (M : Mm) (Re : Nat) (L : List Int32) : Prop := it_ M Re 1 = nI L.length ∧ sg_ (it_ M (rf_ M Re 0)) 0 L.length = L
def AF_ (ow : Nat → Nat × Nat) (M : Mm) (F a : Nat) : Prop := SA_ ow M a ∨ a = F ∨ a = rf_ M F 3 ∨ a = rf_ M (rf_ M F 3) 0
theorem AF_.wa (hs : SH_ ow M) (hF : kd_ M F = 12) {a : Nat} (h : AF_ ow M F a) : WA_ ow M a := by
  have f := hs.cfr hF
  have q := hs.res f.2.2.2.1
  rcases h with h | h | h | h
  · exact h.wa
  · rw [h]; exact Or.inr (Or.inr (Or.inr (Or.inl hF)))
  · rw [h]; exact Or.inr (Or.inl f.2.2.2.1)
  · rw [h]
    unfold WA_
    rw [q.1.1, q.1.2.2]
    exact Or.inr (Or.inr (Or.inr (Or.inr ⟨Or.inl rfl, Or.inl f.2.2.2.1⟩)))
theorem sp_find {K : Mm → Int32 → Prop} (hF : kd_ M F = 12) (h : TI_ ow M (rf_ M F 0) nc m R sz kk (fun j => j < m)) (hq : QI_ M (rf_ M F 1) nc nq cq) (hK : ∀ M', Ex_ (AF_ ow M F) M M' → RS_ M' (rf_ M F 3) (FR_ M (rf_ M F 0) (rf_ M F 1) m nq kk cq) → (∃ p, p ≤ m ∧ it_ M' F 5 = nI p) → K M' (nI (FR_ M (rf_ M F 0) (rf_ M F 1) m nq kk cq).length)) : wp_X10_find F M K := by
  have hs := h.1.sh
  have f := hs.cfr hF
  have q := hs.res f.2.2.2.1
  have s0 := (hs.sea f.2.2.1.1).1
  have l6 := FR_len (M := M) (T := rf_ M F 0) (Q := rf_ M F 1) (m := m) (nq := nq) (kk := kk) (cq := cq)
  have nSF : rf_ M F 2 ≠ F := kd_ne f.2.2.1.1 hF (by decide)
  have nRF : rf_ M F 3 ≠ F := kd_ne f.2.2.2.1 hF (by decide)
  have nR0 : rf_ M (rf_ M F 3) 0 ≠ rf_ M F 3 := kd_ne q.1.1 f.2.2.2.1 (by decide)
  have nR0F : rf_ M (rf_ M F 3) 0 ≠ F := kd_ne q.1.1 hF (by decide)
  have nS0F : rf_ M (rf_ M F 2) 0 ≠ F := kd_ne s0.1 hF (by decide)
  have nS0R : rf_ M (rf_ M F 2) 0 ≠ rf_ M (rf_ M F 3) 0 := own_ne s0 q.1 (Or.inl (kd_ne f.2.2.1.1 f.2.2.2.1 (by decide)))
  refine ⟨hF, f.2.2.1.1, h.1.kT, f.2.1.1, sp_run h f.2.2.1.1 f.2.1.1 hq (Or.inr rfl) (fun M4 X c1 c2 _ hp _ => ?_)⟩
  rw [X.rf F 2, X.rf F 3, X.rf (rf_ M F 2) 0, X.kd, X.kd, X.kd]
  refine ⟨f.2.2.1.1, fun M10 e10 M11 e11 => ⟨f.2.2.2.1, s0.1, ?_⟩⟩
  have X4 : Ex_ (AF_ ow M F) M M4 := X.mono (fun a ha => Or.inl (A3_.sa hs f.2.2.1.1 ha))
  have X11 : Ex_ (AF_ ow M F) M M11 := by
    rw [e11, e10]
    exact (X4.tr (Ex_.sI _ _ _ (Or.inr (Or.inl rfl)))).tr (Ex_.sI _ _ _ (Or.inr (Or.inl rfl)))
  have o11 : ∀ a j, a ≠ F → it_ M11 a j = it_ M4 a j := fun a j ha => by rw [e11, it_sIa ha, e10, it_sIa ha]
  rw [o11 _ _ nSF, c1]
  refine ⟨by rw [X11.kd]; exact f.2.2.2.1, by rw [X11.kd]; exact s0.1, ?_⟩
  rw [X11.rf, X11.kd, X11.ln, X11.ln, q.1.2.1, s0.2.1, ix_nI (by omega), show ix_ (0 : Int32) = 0 from rfl, Nat.zero_add]
  refine ⟨q.1.1, by decide, by decide, fun z => ?_, by omega, by omega, fun M2 e2 M8 e8 _ => ?_⟩
  · rw [show (0 : Int32) = nI 0 from rfl, lt_nI (by omega) (by omega)] at z
    omega
  · have X8 : Ex_ (AF_ ow M F) M M8 := by
      rw [e8, e2]
      exact (X11.tr (Ex_.aI _ _ (Or.inr (Or.inr (Or.inr rfl))))).tr (Ex_.sI _ _ _ (Or.inr (Or.inr (Or.inl rfl))))
    have c8 : it_ M8 (rf_ M F 3) 1 = nI (FR_ M (rf_ M F 0) (rf_ M F 1) m nq kk cq).length := by rw [e8, it_sIs]
    rw [X8.rf, X8.kd, c8]
    refine ⟨f.2.2.2.1, hK M8 X8 ⟨c8, ?_⟩ ?_⟩
    · rw [X8.rf]
      refine Eq.trans (sg_congr (fun j _ hj => ?_)) c2
      rw [e8, it_sIa nR0, e2, it_aI, if_pos rfl, pk_cpy_in (by omega) (by omega), o11 _ _ nS0F]
      congr 1
      omega
    · obtain ⟨p, hp1, hp2⟩ := hp
      refine ⟨p, hp1, ?_⟩
      rw [e8, it_sIa nRF.symm, e2, it_aI, if_neg nR0F.symm, e11, it_sIs, e10, it_sIa nSF, hp2]
end RU
