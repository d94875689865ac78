/-! rows coming in and going: what is outside of the frames, kill, the next row's cells, append -/
/-- cells of columns, conditions, groups, query, result, search, the object itself, and rows of theirs or of nobody's -/
def XA_ (ow : Nat → Nat × Nat) (M : Mm) (b : Nat) : Prop := kd_ M b = 3 ∨ kd_ M b = 4 ∨ kd_ M b = 5 ∨ kd_ M b = 6 ∨ kd_ M b = 7 ∨ kd_ M b = 8 ∨ kd_ M b = 12 ∨ ((kd_ M b = 20 ∨ kd_ M b = 21) ∧ (kd_ M (ow b).1 = 3 ∨ kd_ M (ow b).1 = 7 ∨ kd_ M (ow b).1 = 8 ∨ kd_ M (ow b).1 = 20))
section RO
variable {ow : Nat → Nat × Nat} {M M' : Mm} {T nc m R sz d i : Nat} {kk : Nat → Nat} {Z : Nat → Prop} {A : Nat → Prop}
theorem xa_k {b c : Nat} (h : kd_ M b = c) (hc : c = 1 ∨ c = 2 ∨ c = 9 ∨ c = 10 ∨ c = 11 ∨ c = 22 ∨ c = 23 ∨ c = 24 ∨ c = 25 ∨ c = 26 ∨ c = 30 ∨ c = 36) : ¬ XA_ ow M b := by
  unfold XA_
  omega
theorem xa_o {a k c n : Nat} (h : own_ ow M a k c n) (ha : kd_ M a = 2 ∨ kd_ M a = 9 ∨ kd_ M a = 10 ∨ kd_ M a = 11) (hc : c = 20 ∨ c = 21) : ¬ XA_ ow M (rf_ M a k) := by
  obtain ⟨h1, -, h3⟩ := h
  unfold XA_
  rw [h1, h3]
  simp only
  omega
/-- home, living, blocks' rows, columns up to R are the same, and the sizes: so is what TI_ says -/
theorem TH_.sa (hb : ∀ i, i ≤ m → bk_ M' T m i = bk_ M T m i) (h : ∀ i, i ≤ m → it_ M' (bk_ M T m i) 2 = it_ M (bk_ M T m i) 2 ∧ rf_ M' (bk_ M T m i) 0 = rf_ M (bk_ M T m i) 0 ∧ ∀ j, j < kk i → it_ M' (rf_ M (bk_ M T m i) 0) j = it_ M (rf_ M (bk_ M T m i) 0) j) (hh : ∀ r, hm_ M' T r = hm_ M T r) (ha : ∀ r, r < R → al_ M T r = 0 → al_ M' T r = 0) (g : TH_ M T m R kk) : TH_ M' T m R kk := by
  obtain ⟨g1, g2, g3, g4, g5⟩ := g
  refine ⟨fun i hi => ?_, fun i r hi hr hm => ?_, fun i r hi hr e => ?_, fun r hr => by rw [hh]; exact g4 r hr, fun r hr e => by rw [hh] at e; exact ha r hr (g5 r hr e)⟩
  · rw [hb i hi]
    exact BR_sa (h i hi).1 (h i hi).2.1 (h i hi).2.2 (g1 i hi)
  · rw [hb i hi, mb_sa (h i hi).2.1 (h i hi).2.2] at hm
    rw [hh]
    exact g2 i r hi hr hm
  · rw [hh] at e
    rw [hb i (by omega), mb_sa (h i (by omega)).2.1 (h i (by omega)).2.2]
    exact g3 i r hi hr e
theorem TZ_.sa (hS : TS_ ow M T nc m) (hH : ∀ i, i ≤ m → BR_ M (bk_ M T m i) (kk i) R) (hX : Ex_ A M M') (hb : ∀ i, i ≤ m → Z i → ¬ A (bk_ M T m i) ∧ ¬ A (rf_ M (bk_ M T m i) 0)) (h23 : ∀ b, A b → kd_ M b ≠ 23 ∧ kd_ M b ≠ 11) (hv : ∀ c r, c < nc → r < R → it_ M' (rf_ M (cl_ M T c) 0) r = it_ M (rf_ M (cl_ M T c) 0) r ∧ it_ M' (rf_ M (cl_ M T c) 1) r = it_ M (rf_ M (cl_ M T c) 1) r) (hR : R ≤ 600) (g : TZ_ M T nc m kk Z) : TZ_ M' T nc m kk Z := by
  intro i hi hz
  have e : cl_ M' T = cl_ M T := funext fun c => hX.1.cl T c
  obtain ⟨b0, b1, bz⟩ := hS.bo i
  obtain ⟨a0, a1⟩ := hb i hi hz
  have n8 := hS.nc8
  refine ⟨(g i hi hz).1, ?_⟩
  rw [hX.1.bk, e]
  refine FZ_.keep (hX.sa a0) (hX.sa (fun z => (h23 _ z).1 b1.1)) (fun c hc => hX.sa (fun z => (h23 _ z).2 (bz c (by omega)).1)) (fun j _ => hX.it a1 j) (fun c _ => ⟨hX.rf _ _, hX.rf _ _⟩) (fun c j r hc hj er hr => ?_) (g i hi hz).2
  obtain ⟨r2, g1, g2⟩ := (hH i hi).2.2 j hj
  rw [er] at g2
  have : r = r2 := nI_inj (by omega) (by omega) g2
  subst this
  exact hv c r hc g1
theorem TI_.out (h : TI_ ow M T nc m R sz kk Z) (hX : Ex_ A M M') (hA : ∀ b, A b → XA_ ow M b) (hv : ∀ c r, c < nc → r < R → it_ M' (rf_ M (cl_ M T c) 0) r = it_ M (rf_ M (cl_ M T c) 0) r ∧ it_ M' (rf_ M (cl_ M T c) 1) r = it_ M (rf_ M (cl_ M T c) 1) r) : TI_ ow M' T nc m R sz kk Z := by
  obtain ⟨hS, hH, hZ, hN, hC⟩ := h
  obtain ⟨t0, t1, t2, t3, t4, t5⟩ := hS.t
  have hT := hS.kT
  have nT : ¬ A T := fun z => xa_k hT (by decide) (hA _ z)
  have n2 : ¬ A (rf_ M T 2) := fun z => xa_o t2 (by omega) (by decide) (hA _ z)
  have n3 : ¬ A (rf_ M T 3) := fun z => xa_o t3 (by omega) (by decide) (hA _ z)
  have nb : ∀ i, ¬ A (bk_ M T m i) ∧ ¬ A (rf_ M (bk_ M T m i) 0) := fun i => ⟨fun z => xa_k (hS.bk i) (by decide) (hA _ z), fun z => xa_o (hS.bo i).1 (Or.inl (hS.bk i)) (by decide) (hA _ z)⟩
  have eal : ∀ r, al_ M' T r = al_ M T r := fun r => by unfold al_; rw [hX.rf]; exact hX.it n2 r
  have ehm : ∀ r, hm_ M' T r = hm_ M T r := fun r => by unfold hm_; rw [hX.rf]; exact hX.it n3 r
  refine ⟨hS.ex hX (fun b z e => xa_k e (by decide) (hA _ z)), hH.sa (fun i _ => hX.1.bk T m i) (fun i _ => ⟨hX.it (nb i).1 2, hX.rf _ _, fun j _ => hX.it (nb i).2 j⟩) ehm (fun r _ z => by rw [eal]; exact z), hZ.sa hS hH.1 hX (fun i _ _ => nb i) (fun b z => ⟨fun e => xa_k e (by decide) (hA _ z), fun e => xa_k e (by decide) (hA _ z)⟩) hv hN.2.1, ?_, fun c r hc hr hl => ?_⟩
  · obtain ⟨h1, h2, h3, h4, h5, h6, h7⟩ := hN
    exact ⟨by rw [hX.it nT]; exact h1, h2, by rw [hX.it nT]; exact h3, h4, h5, fun r hr => by rw [eal]; exact h6 r hr, by rw [hX.it nT, lvn_congr (fun r _ => eal r)]; exact h7⟩
  · rw [hX.1.cl, hX.rf] at hl ⊢
    rw [(hv c r hc hr).2] at hl
    rw [(hv c r hc hr).1]
    exact hC c r hc hr hl
/-! kill -/
theorem lvn_kill {al al' : Nat → Int32} {r n : Nat} (hr : r < n) (h1 : al r ≠ 0) (h2 : al' r = 0) (h3 : ∀ j, j ≠ r → al' j = al j) : lvn_ al n = lvn_ al' n + 1 := by
  induction n with
  | zero => omega
  | succ n ih =>
    unfold lvn_
    by_cases e : r = n
    · subst e
      rw [if_neg h1, if_pos h2, lvn_congr (al := al') (al' := al) (fun j hj => h3 j (by omega))]
    · rw [ih (by omega), h3 n (fun z => e z.symm)]
      omega
theorem sp_kill {K : Mm → Int32 → Prop} {r : Nat} (h : TI_ ow M T nc m R sz kk Z) (hr : r < R) (hK : ∀ M' x, Ex_ (fun b => b = rf_ M T 2 ∨ b = T) M M' → TI_ ow M' T nc m R sz kk Z → K M' x) : wp_X8_kill T (nI r) M K := by
  have hS := h.1
  obtain ⟨t0, t1, t2, t3, t4, t5⟩ := hS.t
  have hT := hS.kT
  have hN := h.2.2.2.1
  have hR := hN.2.1
  have v6 : vp_in (nI r) 600 := vi_ (by omega) (by decide)
  refine ⟨hT, t2.1, by rw [t2.2.1]; exact v6, fun _ => ?_⟩
  rw [ix_nI (by omega)]
  refine ⟨fun _ => hK M 0 (Ex_.refl _ _) h, fun h0 => ⟨by rw [t2.2.1]; exact v6, fun M6 e6 M7 e7 => ?_⟩⟩
  subst e6
  subst e7
  have n2 : T ≠ rf_ M T 2 := kd_ne hT t2.1 (by decide)
  have X : Ex_ (fun b => b = rf_ M T 2 ∨ b = T) M (sI_ (sI_ M (rf_ M T 2) r 0) T 8 (it_ (sI_ M (rf_ M T 2) r 0) T 8 - 1)) := (Ex_.sI _ _ _ (Or.inl rfl)).tr (Ex_.sI _ _ _ (Or.inr rfl))
  have e8 : it_ (sI_ M (rf_ M T 2) r 0) T 8 = it_ M T 8 := it_sIa n2
  rw [e8] at X ⊢
  generalize hM7 : sI_ (sI_ M (rf_ M T 2) r 0) T 8 (it_ M T 8 - 1) = M7 at X ⊢
  have al7 : ∀ j, al_ M7 T j = if j = r then 0 else al_ M T j := fun j => by
    unfold al_
    rw [X.rf, ← hM7, it_sIa n2.symm]
    by_cases e : j = r
    · rw [if_pos e, e, it_sIs]
    · rw [if_neg e, it_sIk e]
  have t7 : ∀ j, j ≠ 8 → it_ M7 T j = it_ M T j := fun j hj => by rw [← hM7, it_sIk hj, it_sIa n2]
  have t78 : it_ M7 T 8 = it_ M T 8 - 1 := by rw [← hM7, it_sIs]
  have no : ∀ b, kd_ M b ≠ 10 → kd_ M b ≠ 21 → ¬ (b = rf_ M T 2 ∨ b = T) := fun b h1 h2 z => by
    rcases z with z | z
    · rw [z, t2.1] at h2; exact h2 rfl
    · rw [z, hT] at h1; exact h1 rfl
  have no2 : ∀ c, c < nc → ¬ (rf_ M (cl_ M T c) 1 = rf_ M T 2 ∨ rf_ M (cl_ M T c) 1 = T) := fun c hc z => by
    have o := (hS.co hc).2
    rcases z with z | z
    · exact own_ne o t2 (Or.inl (kd_ne (hS.cl hc) hT (by decide))) z
    · exact kd_ne o.1 hT (by decide) z
  have hv : ∀ c r, c < nc → r < R → it_ M7 (rf_ M (cl_ M T c) 0) r = it_ M (rf_ M (cl_ M T c) 0) r ∧ it_ M7 (rf_ M (cl_ M T c) 1) r = it_ M (rf_ M (cl_ M T c) 1) r := fun c r hc _ => ⟨X.it (no _ (by rw [(hS.co hc).1.1]; decide) (by rw [(hS.co hc).1.1]; decide)) r, X.it (no2 c hc) r⟩
  have nb : ∀ i, ¬ (bk_ M T m i = rf_ M T 2 ∨ bk_ M T m i = T) ∧ ¬ (rf_ M (bk_ M T m i) 0 = rf_ M T 2 ∨ rf_ M (bk_ M T m i) 0 = T) := fun i => ⟨no _ (by rw [hS.bk i]; decide) (by rw [hS.bk i]; decide), no _ (by rw [(hS.bo i).1.1]; decide) (by rw [(hS.bo i).1.1]; decide)⟩
  refine hK M7 1 X ⟨hS.ex X (fun b z e => no b (by omega) (by omega) z), h.2.1.sa (fun i _ => X.1.bk T m i) (fun i _ => ⟨X.it (nb i).1 2, X.rf _ _, fun j _ => X.it (nb i).2 j⟩) (fun j => ?_) (fun j _ z => ?_), h.2.2.1.sa hS h.2.1.1 X (fun i _ _ => nb i) (fun b z => ⟨fun e => no b (by omega) (by omega) z, fun e => no b (by omega) (by omega) z⟩) hv hR, ?_, fun c j hc hj hl => ?_⟩
  · unfold hm_
    rw [X.rf]
    exact X.it (no _ (by rw [t3.1]; decide) (by rw [t3.1]; decide)) j
  · rw [al7]
    by_cases e : j = r
    · rw [if_pos e]
    · rw [if_neg e]; exact z
  · obtain ⟨g1, g2, g3, g4, g5, g6, g7⟩ := hN
    have lk := lvn_kill (al := al_ M T) (al' := al_ M7 T) hr h0 (by rw [al7, if_pos rfl]) (fun j hj => by rw [al7, if_neg hj])
    refine ⟨by rw [t7 7 (by decide)]; exact g1, g2, by rw [t7 6 (by decide)]; exact g3, g4, g5, fun j hj => ?_, ?_⟩
    · rw [al7]
      by_cases e : j = r
      · rw [if_pos e]; exact Or.inl rfl
      · rw [if_neg e]; exact g6 j hj
    · rw [t78, g7, lk, nI_s1 (by omega)]
      congr 1
  · rw [X.1.cl, X.rf] at hl ⊢
    rw [(hv c j hc hj).2] at hl
    rw [(hv c j hc hj).1]
    exact h.2.2.2.2 c j hc hj hl
/-! the cells of the next row -/
theorem sp_takeGiven {K : Mm → Prop} {C : Nat} (hs : SH_ ow M) (hC : kd_ M C = 3) (hR : R < 600) (hK : ∀ M', Ex_ (fun b => b = C ∨ b = rf_ M C 0 ∨ b = rf_ M C 1) M M' → (∀ r, r ≠ R → it_ M' (rf_ M C 0) r = it_ M (rf_ M C 0) r ∧ it_ M' (rf_ M C 1) r = it_ M (rf_ M C 1) r) → (it_ M' (rf_ M C 1) R ≠ 0 → it_ M' (rf_ M C 0) R = 0) → K M') : wp_X1_takeGiven C (nI R) M K := by
  obtain ⟨c0, c1⟩ := hs.col hC
  have n0 : C ≠ rf_ M C 0 := kd_ne hC c0.1 (by decide)
  have n1 : C ≠ rf_ M C 1 := kd_ne hC c1.1 (by decide)
  have n01 : rf_ M C 0 ≠ rf_ M C 1 := kd_ne c0.1 c1.1 (by decide)
  have v0 : vp_in (nI R) (ln_ M (rf_ M C 0)) := by rw [c0.2.1]; exact vi_ hR (by decide)
  have v1 : vp_in (nI R) (ln_ M (rf_ M C 1)) := by rw [c1.2.1]; exact vi_ hR (by decide)
  have fin : ∀ v w, (w ≠ 0 → v = 0) → K (sI_ (sI_ (sI_ M (rf_ M C 0) R v) (rf_ M C 1) R w) C 3 0) := fun v w hvw => by
    refine hK _ (((Ex_.sI _ _ _ (Or.inr (Or.inl rfl))).tr (Ex_.sI _ _ _ (Or.inr (Or.inr rfl)))).tr (Ex_.sI _ _ _ (Or.inl rfl))) (fun r hr => ⟨?_, ?_⟩) (fun z => ?_)
    · rw [it_sIa n0.symm, it_sIa n01, it_sIk hr]
    · rw [it_sIa n1.symm, it_sIk hr, it_sIa n01.symm]
    · rw [it_sIa n1.symm, it_sIs] at z
      rw [it_sIa n0.symm, it_sIa n01, it_sIs]
      exact hvw z
  refine ⟨hC, c0.1, fun _ => ⟨fun h => ⟨v0, fun M5 e5 => ⟨c1.1, fun _ => ⟨fun _ => ⟨v1, fun M10 e10 M11 e11 => ?_⟩, fun _ => ⟨v1, fun M10 e10 M11 e11 => ?_⟩⟩⟩⟩, fun h => ⟨v0, fun M5 e5 => ⟨c1.1, fun _ => ⟨fun g => ?_, fun _ => ⟨v1, fun M10 e10 M11 e11 => ?_⟩⟩⟩⟩⟩⟩
  · rw [ix_nI (by omega)] at e5 e10
    rw [e11, e10, e5]
    exact fin 0 1 (fun _ => rfl)
  · rw [ix_nI (by omega)] at e5 e10
    rw [e11, e10, e5]
    exact fin 0 0 (fun _ => rfl)
  · rw [e5, it_sIa n0] at g
    exact absurd g h
  · rw [ix_nI (by omega)] at e5 e10
    rw [e11, e10, e5]
    exact fin _ 0 (fun z => absurd rfl z)
theorem sp_put {K : Mm → Prop} {C : Nat} {x : Int32} (hs : SH_ ow M) (hC : kd_ M C = 3) (hR : R < 600) (hK : ∀ M', Ex_ (fun b => b = C ∨ b = rf_ M C 0 ∨ b = rf_ M C 1) M M' → (∀ r, r ≠ R → it_ M' (rf_ M C 0) r = it_ M (rf_ M C 0) r ∧ it_ M' (rf_ M C 1) r = it_ M (rf_ M C 1) r) → (it_ M' (rf_ M C 1) R ≠ 0 → it_ M' (rf_ M C 0) R = 0) → K M') : wp_X1_put C (nI R) x M K := by
  obtain ⟨c0, c1⟩ := hs.col hC
  have n01 : rf_ M C 0 ≠ rf_ M C 1 := kd_ne c0.1 c1.1 (by decide)
  have v0 : vp_in (nI R) (ln_ M (rf_ M C 0)) := by rw [c0.2.1]; exact vi_ hR (by decide)
  have v1 : vp_in (nI R) (ln_ M (rf_ M C 1)) := by rw [c1.2.1]; exact vi_ hR (by decide)
  refine ⟨hC, c0.1, v0, fun M3 e3 => ⟨c1.1, v1, fun M6 e6 => ?_⟩⟩
  rw [ix_nI (by omega)] at e3 e6
  subst e3
  subst e6
  refine hK _ ((Ex_.sI _ _ _ (Or.inr (Or.inl rfl))).tr (Ex_.sI _ _ _ (Or.inr (Or.inr rfl)))) (fun r hr => ⟨?_, ?_⟩) (fun z => ?_)
  · rw [it_sIa n01, it_sIk hr]
  · rw [it_sIk hr, it_sIa n01.symm]
  · rw [it_sIs] at z
    exact absurd rfl z
theorem sp_copy {K : Mm → Prop} {C r : Nat} (hs : SH_ ow M) (hC : kd_ M C = 3) (hr : r < R) (hR : R < 600) (hl : it_ M (rf_ M C 1) r ≠ 0 → it_ M (rf_ M C 0) r = 0) (hK : ∀ M', Ex_ (fun b => b = C ∨ b = rf_ M C 0 ∨ b = rf_ M C 1) M M' → (∀ r, r ≠ R → it_ M' (rf_ M C 0) r = it_ M (rf_ M C 0) r ∧ it_ M' (rf_ M C 1) r = it_ M (rf_ M C 1) r) → (it_ M' (rf_ M C 1) R ≠ 0 → it_ M' (rf_ M C 0) R = 0) → K M') : wp_X1_copy C (nI r) (nI R) M K := by
  obtain ⟨c0, c1⟩ := hs.col hC
  have n01 : rf_ M C 0 ≠ rf_ M C 1 := kd_ne c0.1 c1.1 (by decide)
  have v0 : ∀ j, j < 600 → vp_in (nI j) (ln_ M (rf_ M C 0)) := fun j hj => by rw [c0.2.1]; exact vi_ hj (by decide)
  have v1 : ∀ j, j < 600 → vp_in (nI j) (ln_ M (rf_ M C 1)) := fun j hj => by rw [c1.2.1]; exact vi_ hj (by decide)
  refine ⟨hC, c0.1, v0 r (by omega), v0 R hR, fun M4 e4 => ⟨c1.1, v1 r (by omega), fun _ => ⟨v1 R hR, fun M9 e9 => ?_⟩⟩⟩
  rw [ix_nI (by omega), ix_nI (by omega)] at e4 e9
  subst e4
  subst e9
  rw [it_sIa n01.symm]
  refine hK _ ((Ex_.sI _ _ _ (Or.inr (Or.inl rfl))).tr (Ex_.sI _ _ _ (Or.inr (Or.inr rfl)))) (fun j hj => ⟨?_, ?_⟩) (fun z => ?_)
  · rw [it_sIa n01, it_sIk hj]
  · rw [it_sIk hj, it_sIa n01.symm]
  · rw [it_sIs] at z
    rw [it_sIa n01, it_sIs]
    exact hl z
/-- the columns' cells -/
def CA_ (M : Mm) (T nc : Nat) (b : Nat) : Prop := ∃ c, c < nc ∧ (b = cl_ M T c ∨ b = rf_ M (cl_ M T c) 0 ∨ b = rf_ M (cl_ M T c) 1)
theorem CA_.xa (hS : TS_ ow M T nc m) {b : Nat} (h : CA_ M T nc b) : XA_ ow M b := by
  obtain ⟨c, hc, e | e | e⟩ := h
  · rw [e]; exact Or.inl (hS.cl hc)
  · have o := (hS.co hc).1
    rw [e]
    unfold XA_
    rw [o.1, o.2.2]
    exact Or.inr (Or.inr (Or.inr (Or.inr (Or.inr (Or.inr (Or.inr ⟨Or.inl rfl, Or.inl (hS.cl hc)⟩))))))
  · have o := (hS.co hc).2
    rw [e]
    unfold XA_
    rw [o.1, o.2.2]
    exact Or.inr (Or.inr (Or.inr (Or.inr (Or.inr (Or.inr (Or.inr ⟨Or.inr rfl, Or.inl (hS.cl hc)⟩))))))
theorem TS_.clne (hS : TS_ ow M T nc m) {c c' : Nat} (hc : c < nc) (hc' : c' < nc) (h : c' ≠ c) : ∀ b, (b = cl_ M T c' ∨ b = rf_ M (cl_ M T c') 0 ∨ b = rf_ M (cl_ M T c') 1) → ¬ (b = cl_ M T c ∨ b = rf_ M (cl_ M T c) 0 ∨ b = rf_ M (cl_ M T c) 1) := by
  have k := hS.cl hc
  have k' := hS.cl hc'
  obtain ⟨o0, o1⟩ := hS.co hc
  obtain ⟨p0, p1⟩ := hS.co hc'
  have ne : cl_ M T c' ≠ cl_ M T c := fun e => h (hS.lc.inj hc' hc e)
  intro b hb z
  rcases hb with e | e | e
  · rw [e] at z
    rcases z with z | z | z
    · exact ne z
    · exact kd_ne k' o0.1 (by decide) z
    · exact kd_ne k' o1.1 (by decide) z
  · rw [e] at z
    rcases z with z | z | z
    · exact kd_ne p0.1 k (by decide) z
    · exact own_ne p0 o0 (Or.inl ne) z
    · exact kd_ne p0.1 o1.1 (by decide) z
  · rw [e] at z
    rcases z with z | z | z
    · exact kd_ne p1.1 k (by decide) z
    · exact kd_ne p1.1 o0.1 (by decide) z
    · exact own_ne p1 o1 (Or.inl ne) z
/-- the next row's cells in the columns of which P holds say NULL with the value 0 alone -/
def NR_ (M : Mm) (T nc R : Nat) (P : Nat → Prop) : Prop := ∀ c, c < nc → P c → it_ M (rf_ M (cl_ M T c) 1) R ≠ 0 → it_ M (rf_ M (cl_ M T c) 0) R = 0
/-- one column's cells of the next row were written -/
theorem TI_.colR {c : Nat} {P : Nat → Prop} (h : TI_ ow M T nc m R sz kk Z) (hc : c < nc) (hn : NR_ M T nc R P) (X : Ex_ (fun b => b = cl_ M T c ∨ b = rf_ M (cl_ M T c) 0 ∨ b = rf_ M (cl_ M T c) 1) M M') (hr : ∀ r, r ≠ R → it_ M' (rf_ M (cl_ M T c) 0) r = it_ M (rf_ M (cl_ M T c) 0) r ∧ it_ M' (rf_ M (cl_ M T c) 1) r = it_ M (rf_ M (cl_ M T c) 1) r) (hl : it_ M' (rf_ M (cl_ M T c) 1) R ≠ 0 → it_ M' (rf_ M (cl_ M T c) 0) R = 0) :
    TI_ ow M' T nc m R sz kk Z ∧ NR_ M' T nc R (fun c' => P c' ∨ c' = c) ∧ Ex_ (CA_ M T nc) M M' := by
  have hS := h.1
  have X2 : Ex_ (CA_ M T nc) M M' := X.mono (fun b hb => ⟨c, hc, hb⟩)
  have hv : ∀ c' r, c' < nc → r < R → it_ M' (rf_ M (cl_ M T c') 0) r = it_ M (rf_ M (cl_ M T c') 0) r ∧ it_ M' (rf_ M (cl_ M T c') 1) r = it_ M (rf_ M (cl_ M T c') 1) r := fun c' r hc' hr' => by
    by_cases e : c' = c
    · rw [e]; exact hr r (by omega)
    · have n := hS.clne hc hc' e
      exact ⟨X.it (n _ (Or.inr (Or.inl rfl))) r, X.it (n _ (Or.inr (Or.inr rfl))) r⟩
  refine ⟨h.out X2 (fun b hb => CA_.xa hS hb) hv, fun c' hc' hp => ?_, X2⟩
  rw [X.1.cl, X.rf, X.rf]
  by_cases e : c' = c
  · rw [e]; exact hl
  · have n := hS.clne hc hc' e
    rw [X.it (n _ (Or.inr (Or.inl rfl))), X.it (n _ (Or.inr (Or.inr rfl)))]
    exact hn c' hc' (hp.resolve_right e)
theorem CA_.eq (hX : Sm_ M M') : CA_ M' T nc = CA_ M T nc := by
  funext b
  unfold CA_
  simp only [hX.cl, hX.rf]
theorem NR_.mono {P P' : Nat → Prop} (h : NR_ M T nc R P) (hp : ∀ c, c < nc → P' c → P c) : NR_ M T nc R P' := fun c hc hq => h c hc (hp c hc hq)
theorem lp_given_ok {K : Mm → Int32 → Prop} {E : Mm → Prop} (hR : R < 600) (hE : ∀ M', Ex_ (CA_ M T nc) M M' → TI_ ow M' T nc m R sz kk Z → NR_ M' T nc R (fun _ => True) → E M') :
    ∀ (n c : Nat) (M2 : Mm), c ≤ nc → nc - c < n → Ex_ (CA_ M T nc) M M2 → TI_ ow M2 T nc m R sz kk Z → NR_ M2 T nc R (fun c' => c' < c) → lp_X8_appendGiven_2 T K E n (nI c) M2 := by
  intro n
  induction n with
  | zero => intro c M2 _ h; omega
  | succ n ih =>
    intro c M2 hcn hn hX h2 hnr
    have q1 : c < nc → nc - (c + 1) < n := by omega
    have hS := h2.1
    have n8 := hS.nc8
    unfold lp_X8_appendGiven_2
    refine ⟨hS.t.1.1, sp_size hS.lc (fun _ => ⟨fun h => ?_, fun h => ⟨hS.t.1.1, ?_⟩⟩)⟩
    · rw [le_nI (by omega) (by omega)] at h
      exact hE M2 hX h2 (hnr.mono (fun c' h1 _ => by omega))
    · rw [le_nI (by omega) (by omega)] at h
      have hc : c < nc := by omega
      refine sp_get hS.lc hc (by decide) (fun _ => ⟨hS.cl hc, ?_⟩)
      rw [h2.2.2.2.1.1, nI_p1]
      refine sp_takeGiven hS.sh (hS.cl hc) hR (fun M' X hr hl _ => ?_)
      obtain ⟨a1, a2, a3⟩ := h2.colR hc hnr X hr hl
      rw [CA_.eq hX.1] at a3
      exact ih (c + 1) M' (by omega) (q1 hc) (hX.tr a3) a1 (a2.mono (fun c' _ h9 => by omega))
theorem lp_copy_ok {K : Mm → Int32 → Prop} {E : Mm → Prop} {r : Nat} {x2 x3 : Int32} (hr : r < R) (hR : R < 600) (hE : ∀ M', Ex_ (CA_ M T nc) M M' → TI_ ow M' T nc m R sz kk Z → NR_ M' T nc R (fun _ => True) → E M') :
    ∀ (n c : Nat) (M2 : Mm), c ≤ nc → nc - c < n → Ex_ (CA_ M T nc) M M2 → TI_ ow M2 T nc m R sz kk Z → NR_ M2 T nc R (fun c' => c' < c) → lp_X8_appendChanged_9 T (nI r) x2 x3 K E n (nI c) M2 := by
  intro n
  induction n with
  | zero => intro c M2 _ h; omega
  | succ n ih =>
    intro c M2 hcn hn hX h2 hnr
    have q1 : c < nc → nc - (c + 1) < n := by omega
    have hS := h2.1
    have n8 := hS.nc8
    unfold lp_X8_appendChanged_9
    refine ⟨hS.t.1.1, sp_size hS.lc (fun _ => ⟨fun h => ?_, fun h => ⟨hS.t.1.1, ?_⟩⟩)⟩
    · rw [le_nI (by omega) (by omega)] at h
      exact hE M2 hX h2 (hnr.mono (fun c' h1 _ => by omega))
    · rw [le_nI (by omega) (by omega)] at h
      have hc : c < nc := by omega
      refine sp_get hS.lc hc (by decide) (fun _ => ⟨hS.cl hc, ?_⟩)
      rw [h2.2.2.2.1.1, nI_p1]
      refine sp_copy hS.sh (hS.cl hc) hr hR (h2.2.2.2.2 c r hc hr) (fun M' X hr hl _ => ?_)
      obtain ⟨a1, a2, a3⟩ := h2.colR hc hnr X hr hl
      rw [CA_.eq hX.1] at a3
      exact ih (c + 1) M' (by omega) (q1 hc) (hX.tr a3) a1 (a2.mono (fun c' _ h9 => by omega))
end RO
