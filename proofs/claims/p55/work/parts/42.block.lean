/-! Block: append, reckon -/
/-- a cell's contents are the same -/
def Sa_ (M M' : Mm) (a : Nat) : Prop := ∀ k, rf_ M' a k = rf_ M a k ∧ it_ M' a k = it_ M a k ∧ lg_ M' a k = lg_ M a k
theorem Gw_.sa {A : Nat → Prop} {M M' : Mm} (h : Gw_ A M M') {a : Nat} (ha : kd_ M a ≠ 0) (hA : ¬ A a) : Sa_ M M' a := h.2 a ha hA
theorem Ex_.sa {A : Nat → Prop} {M M' : Mm} (h : Ex_ A M M') {a : Nat} (hA : ¬ A a) : Sa_ M M' a := fun k => ⟨h.rf a k, h.it hA k, h.lg hA k⟩
theorem bz_keep {M M' : Mm} {z : Nat} (h : ∀ j, it_ M' z j = it_ M z j) (hg : lg_ M' z 8 = lg_ M z 8) (o : Int32) : bz_F M' z o = bz_F M z o := by
  unfold bz_F
  rw [h, h, h, h, h, h, hg]
theorem Zn_.keep {M M' : Mm} {z ra k C : Nat} (hz : ∀ j, it_ M' z j = it_ M z j) (hg : lg_ M' z 8 = lg_ M z 8) (hr : ∀ j, j < k → it_ M' ra j = it_ M ra j) (hc0 : rf_ M' C 0 = rf_ M C 0) (hc1 : rf_ M' C 1 = rf_ M C 1)
    (hv : ∀ j r, j < k → it_ M ra j = nI r → r < 600 → it_ M' (rf_ M C 0) r = it_ M (rf_ M C 0) r ∧ it_ M' (rf_ M C 1) r = it_ M (rf_ M C 1) r) (h : Zn_ M z ra k C) : Zn_ M' z ra k C := by
  obtain ⟨h1, ⟨nc, dc, rn, fm, a1, a2, a3, a4, a5, a6, a7, a8, a9⟩, h3⟩ := h
  refine ⟨by rw [hz]; exact h1, ⟨nc, dc, rn, fm, by rw [hz]; exact a1, by rw [hz]; exact a2, by rw [hz]; exact a3, by rw [hz]; exact a4, a5, a6, a7, a8, ?_⟩, fun j r hj hjr hr6 hl => ?_⟩
  · unfold fm_ok at a9 ⊢
    simp only [bz_keep hz hg]
    exact a9
  · rw [hr j hj] at hjr
    obtain ⟨v1, v2⟩ := hv j r hj hjr hr6
    rw [hc1, v2] at hl
    rw [hc0, v1, hz, hz]
    exact h3 j r hj hjr hr6 hl
theorem sp_append {ow : Nat → Nat × Nat} {M : Mm} {K : Mm → Prop} {b k : Nat} {x : Int32} (hs : SH_ ow M) (hb : kd_ M b = 2) (hk : it_ M b 2 = nI k) (hk6 : k < 64)
    (hK : ∀ M', Ex_ (fun a => a = b ∨ a = rf_ M b 0) M M' → it_ M' b 2 = nI (k + 1) → (∀ j, j ≠ 2 → it_ M' b j = it_ M b j) → it_ M' (rf_ M b 0) k = x → (∀ j, j ≠ k → it_ M' (rf_ M b 0) j = it_ M (rf_ M b 0) j) → K M') : wp_X0_append b x M K := by
  obtain ⟨o1, -⟩ := hs.blk hb
  have hne : rf_ M b 0 ≠ b := fun e => by have := o1.1; rw [e] at this; omega
  refine ⟨hb, fun h => ?_, fun h => ⟨o1.1, ?_, fun M4 e4 M5 e5 => ?_⟩⟩
  · rw [hk] at h
    have := (le_nI (a := 64) (by omega) (by omega)).mp h
    omega
  · rw [hk, o1.2.1]
    exact vi_ hk6 (by omega)
  · subst e4
    subst e5
    rw [hk, ix_nI (by omega), it_sIa hne.symm, hk, nI_p1]
    refine hK _ ((Ex_.sI _ _ _ (Or.inr rfl)).tr (Ex_.sI _ _ _ (Or.inl rfl))) (it_sIs _ _ _ _) (fun j hj => by rw [it_sIk hj, it_sIa hne.symm]) ?_ (fun j hj => ?_)
    · rw [it_sIa hne, it_sIs]
    · rw [it_sIa hne, it_sIk hj]
/-- the sum of the bytes of the first c zones -/
def sb_ (M : Mm) (b : Nat) : Nat → Int32
  | 0 => 0
  | c + 1 => sb_ M b c + bz_F M (rf_ M (rf_ M b 1) c) (it_ M (rf_ M (rf_ M b 1) c) 6)
/-- the zones of a frame are those of its k rows -/
def FZ_ (M : Mm) (b k nc : Nat) (C : Nat → Nat) : Prop := (∀ c, c < nc → Zn_ M (rf_ M (rf_ M b 1) c) (rf_ M b 0) k (C c)) ∧ it_ M b 3 = sb_ M b nc
theorem sb_keep {M M' : Mm} {b : Nat} (hb : Sa_ M M' b) (hb1 : Sa_ M M' (rf_ M b 1)) : ∀ c, (∀ j, j < c → Sa_ M M' (rf_ M (rf_ M b 1) j)) → sb_ M' b c = sb_ M b c := by
  intro c
  induction c with
  | zero => intro _; rfl
  | succ c ih =>
    intro hz
    have z := hz c (by omega)
    simp only [sb_]
    rw [ih (fun j hj => hz j (by omega)), (hb 1).1, (hb1 c).1, bz_keep (fun j => (z j).2.1) (z 8).2.2, (z 6).2.1]
theorem FZ_.keep {M M' : Mm} {b k nc : Nat} {C : Nat → Nat} (hb : Sa_ M M' b) (hb1 : Sa_ M M' (rf_ M b 1)) (hz : ∀ c, c < nc → Sa_ M M' (rf_ M (rf_ M b 1) c)) (hr : ∀ j, j < k → it_ M' (rf_ M b 0) j = it_ M (rf_ M b 0) j) (hc : ∀ c, c < nc → rf_ M' (C c) 0 = rf_ M (C c) 0 ∧ rf_ M' (C c) 1 = rf_ M (C c) 1)
    (hv : ∀ c j r, c < nc → j < k → it_ M (rf_ M b 0) j = nI r → r < 600 → it_ M' (rf_ M (C c) 0) r = it_ M (rf_ M (C c) 0) r ∧ it_ M' (rf_ M (C c) 1) r = it_ M (rf_ M (C c) 1) r) (h : FZ_ M b k nc C) : FZ_ M' b k nc C := by
  refine ⟨fun c hcn => ?_, ?_⟩
  · have z := hz c hcn
    rw [(hb 1).1, (hb1 c).1, (hb 0).1]
    exact Zn_.keep (fun j => (z j).2.1) (z 8).2.2 hr (hc c hcn).1 (hc c hcn).2 (fun j r hj hjr hr6 => hv c j r hcn hj hjr hr6) (h.1 c hcn)
  · rw [(hb 3).2.1, sb_keep hb hb1 nc hz]
    exact h.2
/-- what a block's reckoning writes -/
def Ab_ (M : Mm) (b so srt : Nat) : Nat → Prop := fun a => a = b ∨ a = so ∨ a = rf_ M srt 0 ∨ a = rf_ M srt 1 ∨ ∃ j, j < 8 ∧ (a = rf_ M (rf_ M b 1) j ∨ a = rf_ M (rf_ M (rf_ M b 1) j) 7)
theorem lp_breckon_ok {ow : Nat → Nat × Nat} {M : Mm} {K E : Mm → Prop} {b cols so srt T nc k : Nat} (hs : SH_ ow M) (hb : kd_ M b = 2) (hT : kd_ M T = 10) (hso : own_ ow M T 10 20 64) (eso : so = rf_ M T 10) (hsrt : kd_ M srt = 9) (hl : Ls_ ow M cols nc 3) (hnc : nc ≤ 8) (hk0 : 0 < k) (hk6 : k ≤ 64) (hrow : ∀ j, j < k → ∃ r, it_ M (rf_ M b 0) j = nI r ∧ r < 600)
    (hE : ∀ M', Ex_ (Ab_ M b so srt) M M' → it_ M' b 2 = nI k → FZ_ M' b k nc (el_ M cols) → E M') :
    ∀ (n c : Nat) (M2 : Mm), c ≤ nc → nc - c < n → Ex_ (Ab_ M b so srt) M M2 → it_ M2 b 2 = nI k → FZ_ M2 b k c (el_ M cols) → lp_X0_reckon_8 b cols so srt K E n (nI c) M2 := by
  subst eso
  obtain ⟨b0, b1, bz⟩ := hs.blk hb
  obtain ⟨s0, s1⟩ := hs.sor hsrt
  have hle := hl.le
  intro n
  induction n with
  | zero => intro c M2 _ h; omega
  | succ n ih =>
    intro c M2 hcn hn hX hk hF
    have hTb : T ≠ b := fun e => by rw [e] at hT; omega
    have hsb : srt ≠ b := fun e => by rw [e] at hsrt; omega
    have hTs : T ≠ srt := fun e => by rw [e] at hT; omega
    have nrb : rf_ M b 0 ≠ b := fun e => by have := b0.1; rw [e] at this; omega
    have l2 : Ls_ ow M2 cols nc 3 := hX.1.ls (hX.it (fun e => by
      have k1 := hl.k1
      rcases e with e | e | e | e | ⟨j, hj, e | e⟩
      · rw [e] at k1; omega
      · rw [e, hso.1] at k1; omega
      · rw [e, s0.1] at k1; omega
      · rw [e, s1.1] at k1; omega
      · rw [e, (bz j hj).1] at k1; omega
      · rw [e, (hs.zon (bz j hj).1).1] at k1; omega) 2) hl
    unfold lp_X0_reckon_8
    refine sp_size l2 (fun _ => ⟨fun h => ?_, fun h => ?_⟩)
    · have : nc ≤ c := (le_nI (by omega) (by omega)).mp h
      have : c = nc := by omega
      subst this
      exact hE M2 hX hk hF
    have hlt : c < nc := by
      have : ¬ nc ≤ c := fun z => h ((le_nI (by omega) (by omega)).mpr z)
      omega
    have hn1 : nc - (c + 1) < n := by omega
    have hc1 : c + 1 ≤ nc := by omega
    have hz := bz c (by omega)
    have hz7 := hs.zon hz.1
    have hC := hl.el hlt
    obtain ⟨c0, c1⟩ := hs.col hC
    have hCb : el_ M cols c ≠ b := fun e => by rw [e] at hC; omega
    have hCT : el_ M cols c ≠ T := fun e => by rw [e] at hC; omega
    have hCs : el_ M cols c ≠ srt := fun e => by rw [e] at hC; omega
    have hZb : rf_ M (rf_ M b 1) c ≠ b := fun e => by have := hz.1; rw [e] at this; omega
    have hZT : rf_ M (rf_ M b 1) c ≠ T := fun e => by have := hz.1; rw [e] at this; omega
    have hZs : rf_ M (rf_ M b 1) c ≠ srt := fun e => by have := hz.1; rw [e] at this; omega
    have hZC : rf_ M (rf_ M b 1) c ≠ el_ M cols c := fun e => by have := hz.1; rw [e] at this; omega
    -- who is who
    have n1 : rf_ M b 0 ≠ rf_ M T 10 := own_ne b0 hso (Or.inl hTb.symm)
    have n2 : rf_ M b 0 ≠ rf_ M srt 1 := own_ne b0 s1 (Or.inl hsb.symm)
    have n3 : rf_ M T 10 ≠ rf_ M srt 1 := own_ne hso s1 (Or.inl hTs)
    have n4 : rf_ M b 0 ≠ rf_ M (rf_ M (rf_ M b 1) c) 7 := own_ne b0 hz7 (Or.inl hZb.symm)
    have n5 : rf_ M T 10 ≠ rf_ M (rf_ M (rf_ M b 1) c) 7 := own_ne hso hz7 (Or.inl hZT.symm)
    have n6 : rf_ M (rf_ M (rf_ M b 1) c) 7 ≠ rf_ M (el_ M cols c) 0 := own_ne hz7 c0 (Or.inl hZC)
    have vne : ∀ j, j < nc → rf_ M (el_ M cols j) 0 ≠ rf_ M T 10 ∧ rf_ M (el_ M cols j) 0 ≠ rf_ M srt 1 := fun j hj => by
      have hCj := hl.el hj
      obtain ⟨d0, d1⟩ := hs.col hCj
      exact ⟨own_ne d0 hso (Or.inl fun e => by rw [e] at hCj; omega), own_ne d0 s1 (Or.inl fun e => by rw [e] at hCj; omega)⟩
    have vz : ∀ j, j < nc → rf_ M (el_ M cols j) 0 ≠ rf_ M (rf_ M (rf_ M b 1) c) 7 := fun j hj => by
      have hCj := hl.el hj
      obtain ⟨d0, d1⟩ := hs.col hCj
      exact own_ne d0 hz7 (Or.inl fun e => by rw [e] at hCj; have := hz.1; omega)
    have er : ∀ a k, rf_ M2 a k = rf_ M a k := fun a k => hX.rf a k
    have ek : ∀ a, kd_ M2 a = kd_ M a := fun a => hX.kd a
    have eln : ∀ a, ln_ M2 a = ln_ M a := fun a => hX.ln a
    have erow : ∀ j, it_ M2 (rf_ M b 0) j = it_ M (rf_ M b 0) j := fun j => hX.it (fun e => by
      rcases e with e | e | e | e | ⟨j, hj, e | e⟩
      · exact nrb e
      · exact n1 e
      · have := b0.1; rw [e, s0.1] at this; omega
      · exact n2 e
      · have := b0.1; rw [e, (bz j hj).1] at this; omega
      · exact own_ne b0 (hs.zon (bz j hj).1) (Or.inl fun e2 => by have := (bz j hj).1; rw [← e2] at this; omega) e) j
    refine sp_get l2 hlt (by decide) (fun _ => ?_)
    rw [hX.1.el, er, ek, ek, eln, eln, hk]
    refine ⟨hC, b0.1, by decide, by decide, fun z => ?_, ?_, ?_, fun M29 e29 => ?_⟩
    · rw [i_lt, nI_t (by omega)] at z
      have : (0 : Int32).toInt = 0 := rfl
      omega
    · rw [ix_nI (by omega), b0.2.1]
      show 0 + k ≤ 64
      omega
    · rw [ix_nI (by omega), hso.2.1]
      show 0 + k ≤ 64
      omega
    rw [ix_nI (by omega), show ix_ (0 : Int32) = 0 from rfl] at e29
    have X29 : Ex_ (fun a => a = rf_ M T 10) M2 M29 := by rw [e29]; exact Ex_.aI _ _ rfl
    have so29 : sg_ (it_ M29 (rf_ M T 10)) 0 k = sg_ (it_ M (rf_ M b 0)) 0 k := sg_congr fun j _ hj => by
      rw [e29, it_aI, if_pos rfl, pk_cpy_in (by omega) (by omega), erow]
      congr 1
      omega
    clear e29
    have S29 : Sm_ M M29 := hX.1.tr X29.1
    have b29 : it_ M29 b 2 = nI k := by rw [X29.it (fun e => by have := hso.1; rw [← e] at this; omega)]; exact hk
    rw [b29]
    have ra := @sp_arrange srt (rf_ M T 10) (el_ M cols c) k 1 M29
    simp only [S29.rf, S29.kd, S29.ln] at ra
    refine ra hsrt s1.1 s1.2.1 s0.1 s0.2.1 hso.1 n3 (by rw [hso.2.1]; exact hk6) (by omega) (by rw [hso.2.1]; decide) hC c0.1 c1.1 c0.2.1 c1.2.1 (fun j hj => ?_) (fun M30 X30 p30 _ _ => ?_)
    · have e := sg_eq_get so29 hj
      rw [e]
      exact hrow j hj
    have S30 : Sm_ M M30 := S29.tr X30.1
    have X230 : Ex_ (fun a => a = rf_ M srt 1 ∨ a = rf_ M T 10 ∨ a = rf_ M srt 0) M2 M30 := (X29.mono fun a ha => Or.inr (Or.inl ha)).tr X30
    have row30 : ∀ j, it_ M30 (rf_ M b 0) j = it_ M (rf_ M b 0) j := fun j => by
      rw [X230.it (fun e => by
        rcases e with e | e | e
        · exact n2 e
        · exact n1 e
        · have := b0.1; rw [e, s0.1] at this; omega)]
      exact erow j
    have v29 : it_ M29 (rf_ M (el_ M cols c) 0) = it_ M2 (rf_ M (el_ M cols c) 0) := funext fun j => X29.it (vne c hlt).1 j
    have lc29 : it_ M29 (rf_ M (el_ M cols c) 1) = it_ M2 (rf_ M (el_ M cols c) 1) := funext fun j => X29.it (fun e => by have := c1.1; rw [e, hso.1] at this; omega) j
    have v30 : it_ M30 (rf_ M (el_ M cols c) 0) = it_ M2 (rf_ M (el_ M cols c) 0) := funext fun j => X230.it (fun e => by
      rcases e with e | e | e
      · exact (vne c hlt).2 e
      · exact (vne c hlt).1 e
      · have := c0.1; rw [e, s0.1] at this; omega) j
    have lc30 : it_ M30 (rf_ M (el_ M cols c) 1) = it_ M2 (rf_ M (el_ M cols c) 1) := funext fun j => X230.it (fun e => by
      have := c1.1
      rcases e with e | e | e
      · rw [e, s1.1] at this; omega
      · rw [e, hso.1] at this; omega
      · rw [e, s0.1] at this; omega) j
    have b30 : it_ M30 b 2 = nI k := by
      rw [X30.it (fun e => by
        rcases e with e | e | e
        · have := s1.1; rw [← e] at this; omega
        · have := hso.1; rw [← e] at this; omega
        · have := s0.1; rw [← e] at this; omega)]
      exact b29
    simp only [S30.rf, S30.kd, S30.ln]
    rw [ix_nI (by omega), b1.2.1, b30]
    refine ⟨b1.1, vi_ (by omega) (by omega), hz.1, b0.1, ?_⟩
    have zr := @sp_zreckon (rf_ M (rf_ M b 1) c) (el_ M cols c) (rf_ M b 0) (rf_ M T 10) k M30
    simp only [Zh_, S30.rf, S30.kd, S30.ln] at zr
    refine zr ⟨hz.1, hz7.1, hz7.2.1, hC, c0.1, c0.2.1, c1.1, c1.2.1, n6⟩ hso.1 (by rw [hso.2.1]; exact hk6) (by rw [hso.2.1]; decide) b0.1 (by rw [b0.2.1]; exact hk6) (by rw [b0.2.1]; decide) hk6 hk0 n5 n4 (fun j hj => by rw [row30]; exact hrow j hj) ?_ (fun M43 X43 Z43 _ => ?_)
    · rw [p30, so29, sg_congr (f := it_ M30 (rf_ M b 0)) (g := it_ M (rf_ M b 0)) (fun j _ _ => row30 j), v29, lc29, v30, lc30]
    have S43 : Sm_ M M43 := S30.tr X43.1
    simp only [S43.rf, S43.kd, S43.ln]
    refine ⟨b1.1, by rw [b1.2.1]; exact vi_ (by omega) (by omega), hz.1, by rw [b1.2.1]; exact vi_ (by omega) (by omega), sp_bytesIn (by rw [S43.kd]; exact hz.1) (fun _ M64 e64 => ?_)⟩
    have X243 : Ex_ (Ab_ M b (rf_ M T 10) srt) M2 M43 := (X230.mono fun a ha => by
      rcases ha with e | e | e
      · exact Or.inr (Or.inr (Or.inr (Or.inl e)))
      · exact Or.inr (Or.inl e)
      · exact Or.inr (Or.inr (Or.inl e))).tr (X43.mono fun a ha => Or.inr (Or.inr (Or.inr (Or.inr ⟨c, by omega, ha⟩))))
    have bf : ∀ j, it_ M43 b j = it_ M2 b j := fun j => by
      rw [X43.it (fun e => by
        rcases e with e | e
        · exact hZb e.symm
        · have := hz7.1; rw [← e] at this; omega), X230.it (fun e => by
        rcases e with e | e | e
        · have := s1.1; rw [← e] at this; omega
        · have := hso.1; rw [← e] at this; omega
        · have := s0.1; rw [← e] at this; omega)]
    -- other zones stay
    have zs : ∀ j, j < 8 → j ≠ c → ∀ i, it_ M43 (rf_ M (rf_ M b 1) j) i = it_ M2 (rf_ M (rf_ M b 1) j) i ∧ lg_ M43 (rf_ M (rf_ M b 1) j) i = lg_ M2 (rf_ M (rf_ M b 1) j) i := fun j hj hjc i => by
      have zj := bz j hj
      have a1 : ¬ (rf_ M (rf_ M b 1) j = rf_ M (rf_ M b 1) c ∨ rf_ M (rf_ M b 1) j = rf_ M (rf_ M (rf_ M b 1) c) 7) := fun e => by
        rcases e with e | e
        · exact own_ne zj hz (Or.inr hjc) e
        · have := zj.1; rw [e, hz7.1] at this; omega
      have a2 : ¬ (rf_ M (rf_ M b 1) j = rf_ M srt 1 ∨ rf_ M (rf_ M b 1) j = rf_ M T 10 ∨ rf_ M (rf_ M b 1) j = rf_ M srt 0) := fun e => by
        have := zj.1
        rcases e with e | e | e
        · rw [e, s1.1] at this; omega
        · rw [e, hso.1] at this; omega
        · rw [e, s0.1] at this; omega
      exact ⟨(X43.it a1 i).trans (X230.it a2 i), (X43.lg a1 i).trans (X230.lg a2 i)⟩
    have nZ : ∀ j, j < 8 → rf_ M (rf_ M b 1) j ≠ b := fun j hj e => by have := (bz j hj).1; rw [e] at this; omega
    rw [nI_p1]
    subst e64
    have S64 : Sm_ M M43 := S43
    refine ih (c + 1) _ hc1 hn1 ((hX.tr X243).tr (Ex_.sI _ _ _ (Or.inl rfl))) (by rw [it_sIk (by decide), bf]; exact hk) ⟨fun c' hc' => ?_, ?_⟩
    · show Zn_ _ (rf_ M43 (rf_ M43 b 1) c') (rf_ M43 b 0) k (el_ M cols c')
      rw [S43.rf, S43.rf, S43.rf]
      have z64 : ∀ i, it_ (sI_ M43 b 3 (it_ M43 b 3 + bz_F M43 (rf_ M (rf_ M b 1) c) (it_ M43 (rf_ M (rf_ M b 1) c) 6))) (rf_ M (rf_ M b 1) c') i = it_ M43 (rf_ M (rf_ M b 1) c') i := fun i => it_sIa (nZ c' (by omega))
      have hCc' := hl.el (show c' < nc by omega)
      obtain ⟨d0, d1⟩ := hs.col hCc'
      have dv : ∀ i, it_ M43 (rf_ M (el_ M cols c') 0) i = it_ M2 (rf_ M (el_ M cols c') 0) i ∧ it_ M43 (rf_ M (el_ M cols c') 1) i = it_ M2 (rf_ M (el_ M cols c') 1) i := fun i => by
        have k0 := d0.1
        have k1 := d1.1
        have v1 := vne c' (by omega)
        constructor
        · rw [X43.it (fun e => by
            rcases e with e | e
            · rw [e, hz.1] at k0; omega
            · exact vz c' (by omega) e), X230.it (fun e => by
            rcases e with e | e | e
            · exact v1.2 e
            · exact v1.1 e
            · rw [e, s0.1] at k0; omega)]
        · rw [X43.it (fun e => by
            rcases e with e | e
            · rw [e, hz.1] at k1; omega
            · rw [e, hz7.1] at k1; omega), X230.it (fun e => by
            rcases e with e | e | e
            · rw [e, s1.1] at k1; omega
            · rw [e, hso.1] at k1; omega
            · rw [e, s0.1] at k1; omega)]
      have nvb : rf_ M (el_ M cols c') 0 ≠ b ∧ rf_ M (el_ M cols c') 1 ≠ b := ⟨fun e => by have := d0.1; rw [e] at this; omega, fun e => by have := d1.1; rw [e] at this; omega⟩
      have row43 : ∀ j, it_ M43 (rf_ M b 0) j = it_ M (rf_ M b 0) j := fun j => by
        rw [X43.it (fun e => by
          rcases e with e | e
          · have := b0.1; rw [e, hz.1] at this; omega
          · exact n4 e)]
        exact row30 j
      by_cases hcc : c' = c
      · subst hcc
        refine Zn_.keep (M := M43) z64 rfl (fun j _ => it_sIa nrb) rfl rfl (fun j r _ _ _ => ?_) Z43
        rw [S43.rf, S43.rf]
        exact ⟨it_sIa nvb.1, it_sIa nvb.2⟩
      · have zz := hF.1 c' (by omega)
        rw [er, er, er] at zz
        refine Zn_.keep (M := M2) (fun i => (z64 i).trans (zs c' (by omega) hcc i).1) (zs c' (by omega) hcc 8).2 (fun j _ => ?_) ?_ ?_ (fun j r _ _ _ => ?_) zz
        · rw [it_sIa nrb, row43, erow]
        · exact (S43.rf _ _).trans (er _ _).symm
        · exact (S43.rf _ _).trans (er _ _).symm
        · rw [er, er]
          exact ⟨(it_sIa nvb.1).trans (dv r).1, (it_sIa nvb.2).trans (dv r).2⟩
    · rw [it_sIs, bf 3, hF.2]
      have hsb : ∀ j, j ≤ c → sb_ (sI_ M43 b 3 (sb_ M2 b c + bz_F M43 (rf_ M (rf_ M b 1) c) (it_ M43 (rf_ M (rf_ M b 1) c) 6))) b j = sb_ M2 b j := by
        intro j
        induction j with
        | zero => intro _; rfl
        | succ j ihj =>
          intro hj
          simp only [sb_]
          rw [ihj (by omega)]
          show sb_ M2 b j + bz_F (sI_ M43 b 3 _) (rf_ M43 (rf_ M43 b 1) j) (it_ (sI_ M43 b 3 _) (rf_ M43 (rf_ M43 b 1) j) 6) = sb_ M2 b j + bz_F M2 (rf_ M2 (rf_ M2 b 1) j) (it_ M2 (rf_ M2 (rf_ M2 b 1) j) 6)
          rw [S43.rf, S43.rf, er, er]
          have e1 : ∀ i, it_ (sI_ M43 b 3 (sb_ M2 b c + bz_F M43 (rf_ M (rf_ M b 1) c) (it_ M43 (rf_ M (rf_ M b 1) c) 6))) (rf_ M (rf_ M b 1) j) i = it_ M2 (rf_ M (rf_ M b 1) j) i := fun i => (it_sIa (nZ j (by omega))).trans (zs j (by omega) (by omega) i).1
          rw [bz_keep e1 (zs j (by omega) (by omega) 8).2, e1]
      simp only [sb_]
      rw [hsb c (Nat.le_refl _)]
      show _ = sb_ M2 b c + bz_F (sI_ M43 b 3 _) (rf_ M43 (rf_ M43 b 1) c) (it_ (sI_ M43 b 3 _) (rf_ M43 (rf_ M43 b 1) c) 6)
      rw [S43.rf, S43.rf]
      have e1 : ∀ i, it_ (sI_ M43 b 3 (sb_ M2 b c + bz_F M43 (rf_ M (rf_ M b 1) c) (it_ M43 (rf_ M (rf_ M b 1) c) 6))) (rf_ M (rf_ M b 1) c) i = it_ M43 (rf_ M (rf_ M b 1) c) i := fun i => it_sIa hZb
      rw [bz_keep e1 rfl, e1]
theorem sp_breckon {ow : Nat → Nat × Nat} {M : Mm} {K : Mm → Prop} {b cols so srt T nc k : Nat} (hs : SH_ ow M) (hb : kd_ M b = 2) (hT : kd_ M T = 10) (eso : so = rf_ M T 10) (hsrt : kd_ M srt = 9) (hl : Ls_ ow M cols nc 3) (hnc : nc ≤ 8) (hk : it_ M b 2 = nI k) (hk0 : 0 < k) (hk6 : k ≤ 64) (hrow : ∀ j, j < k → ∃ r, it_ M (rf_ M b 0) j = nI r ∧ r < 600)
    (hK : ∀ M', Ex_ (Ab_ M b so srt) M M' → it_ M' b 2 = nI k → FZ_ M' b k nc (el_ M cols) → K M') : wp_X0_reckon b cols so srt M K := by
  have hso := (hs.tab hT).2.2.2.2.2
  refine ⟨hb, hl.k1, by rw [eso]; exact hso.1, hsrt, fun M1 e1 => ⟨nc + 1, ?_⟩⟩
  have X1 : Ex_ (Ab_ M b so srt) M M1 := by rw [e1]; exact Ex_.sI _ _ _ (Or.inl rfl)
  exact lp_breckon_ok (E := fun M66 => Nk_ M1 M66 → K M66) hs hb hT hso eso hsrt hl hnc hk0 hk6 hrow (fun M' x1 x2 x3 _ => hK M' x1 x2 x3) (nc + 1) 0 M1 (by omega) (by omega) X1 (by rw [e1, it_sIk (by decide)]; exact hk) ⟨fun c hc => by omega, by rw [e1, it_sIs]; rfl⟩
