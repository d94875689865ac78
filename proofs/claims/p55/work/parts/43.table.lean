/-! Table: the rows that are in a block, dead rows dropped, frames numbered -/
/-- r is among the first k rows of b -/
def mb_ (M : Mm) (b k r : Nat) : Prop := ∃ j, j < k ∧ it_ M (rf_ M b 0) j = nI r
def BR_ (M : Mm) (b k R : Nat) : Prop := it_ M b 2 = nI k ∧ k ≤ 64 ∧ ∀ j, j < k → ∃ r, r < R ∧ it_ M (rf_ M b 0) j = nI r
theorem mb_lt {M : Mm} {b k R r : Nat} (h : BR_ M b k R) (hR : R ≤ 600) (hr : r < 2147483648) (hm : mb_ M b k r) : r < R := by
  obtain ⟨j, hj, e⟩ := hm
  obtain ⟨r2, h1, h2⟩ := h.2.2 j hj
  rw [h2] at e
  have := nI_inj (by omega) hr e
  omega
theorem mb_sg {M : Mm} {b k r : Nat} : mb_ M b k r ↔ nI r ∈ sg_ (it_ M (rf_ M b 0)) 0 k := by
  rw [sg_mem]
  constructor
  · rintro ⟨j, h1, h2⟩
    exact ⟨j, Nat.zero_le _, by omega, h2⟩
  · rintro ⟨j, -, h1, h2⟩
    exact ⟨j, by omega, h2⟩
/-- alive: what the row of living tells -/
def al_ (M : Mm) (T r : Nat) : Int32 := it_ M (rf_ M T 2) r
def hm_ (M : Mm) (T r : Nat) : Int32 := it_ M (rf_ M T 3) r
def lv_f (al : Nat → Int32) : Int32 → Bool := fun x => decide (al (ix_ x) ≠ 0)
theorem lp_dropDead_ok {ow : Nat → Nat × Nat} {M : Mm} {K : Mm → Prop} {E : Int32 → Mm → Prop} {T b k R : Nat} (hs : SH_ ow M) (hT : kd_ M T = 10) (hb : kd_ M b = 2) (hR : R ≤ 600) (hk : BR_ M b k R)
    (hE : ∀ M' k', Ex_ (fun a => a = rf_ M b 0 ∨ a = rf_ M T 3) M M' → k' ≤ k → sg_ (it_ M' (rf_ M b 0)) 0 k' = (sg_ (it_ M (rf_ M b 0)) 0 k).filter (lv_f (it_ M (rf_ M T 2))) →
      (∀ r, r < 600 → mb_ M b k r → al_ M T r = 0 → it_ M' (rf_ M T 3) r = -2) → (∀ r, r < 600 → ¬ (mb_ M b k r ∧ al_ M T r = 0) → it_ M' (rf_ M T 3) r = it_ M (rf_ M T 3) r) → E (nI k') M') :
    ∀ (n i k' : Nat) (M2 : Mm), i ≤ k → k - i < n → k' ≤ i → Ex_ (fun a => a = rf_ M b 0 ∨ a = rf_ M T 3) M M2 → (∀ j, i ≤ j → it_ M2 (rf_ M b 0) j = it_ M (rf_ M b 0) j) → sg_ (it_ M2 (rf_ M b 0)) 0 k' = (sg_ (it_ M (rf_ M b 0)) 0 i).filter (lv_f (it_ M (rf_ M T 2))) →
      (∀ r, r < 600 → mb_ M b i r → al_ M T r = 0 → it_ M2 (rf_ M T 3) r = -2) → (∀ r, r < 600 → ¬ (mb_ M b i r ∧ al_ M T r = 0) → it_ M2 (rf_ M T 3) r = it_ M (rf_ M T 3) r) →
      lp_X8_dropDead_4 T b K E n (nI k') (nI i) M2 := by
  obtain ⟨b0, b1, bz⟩ := hs.blk hb
  obtain ⟨t0, t1, t2, t3, t4, t5⟩ := hs.tab hT
  have hTb : T ≠ b := kd_ne hT hb (by decide)
  have nb : b ≠ rf_ M b 0 := kd_ne hb b0.1 (by decide)
  have nb3 : b ≠ rf_ M T 3 := kd_ne hb t3.1 (by decide)
  have n2a : rf_ M T 2 ≠ rf_ M b 0 := kd_ne t2.1 b0.1 (by decide)
  have n2b : rf_ M T 2 ≠ rf_ M T 3 := kd_ne t2.1 t3.1 (by decide)
  have n03 : rf_ M b 0 ≠ rf_ M T 3 := own_ne b0 t3 (Or.inl hTb.symm)
  have hk6 := hk.2.1
  intro n
  induction n with
  | zero => intro i k' M2 _ h; omega
  | succ n ih =>
    intro i k' M2 hik hn hki hX htail hlist hm1 hm2
    have q1 : i < k → k - (i + 1) < n := by omega
    have e2 : it_ M2 b 2 = nI k := by rw [hX.it (fun e => e.elim nb nb3)]; exact hk.1
    have el : ∀ r, it_ M2 (rf_ M T 2) r = it_ M (rf_ M T 2) r := fun r => hX.it (fun e => e.elim n2a n2b) r
    unfold lp_X8_dropDead_4
    rw [e2, hX.rf, hX.rf, hX.rf, hX.kd, hX.kd, hX.kd, hX.ln, hX.ln, hX.ln, le_nI (by omega) (by omega), ix_nI (n := i) (by omega)]
    refine ⟨fun h => ?_, fun h => ?_⟩
    · have : i = k := by omega
      subst this
      exact hE M2 k' hX hki hlist hm1 hm2
    have hi : i < k := by omega
    have hn' := q1 hi
    obtain ⟨r, hr, er⟩ := hk.2.2 i hi
    have hr6 : r < 600 := by omega
    rw [htail i (Nat.le_refl _), er, ix_nI (n := r) (by omega), el, b0.2.1, t2.2.1, t3.2.1, nI_p1, nI_p1, ix_nI (n := k') (by omega)]
    have v6 : vp_in (nI r) 600 := vi_ hr6 (by omega)
    have hmi : mb_ M b (i + 1) r := ⟨i, by omega, er⟩
    have up : ∀ r', r' ≠ r → r' < 600 → (mb_ M b (i + 1) r' ↔ mb_ M b i r') := fun r' h1 h2 => by
      constructor
      · rintro ⟨j, g1, g2⟩
        by_cases e : j = i
        · rw [e, er] at g2
          exact absurd (nI_inj (by omega) (by omega) g2).symm h1
        · exact ⟨j, by omega, g2⟩
      · rintro ⟨j, g1, g2⟩
        exact ⟨j, by omega, g2⟩
    have hsn : (sg_ (it_ M (rf_ M b 0)) 0 (i + 1)).filter (lv_f (it_ M (rf_ M T 2))) = (sg_ (it_ M (rf_ M b 0)) 0 i).filter (lv_f (it_ M (rf_ M T 2))) ++ (if it_ M (rf_ M T 2) r = 0 then [] else [nI r]) := by
      rw [sg_snoc, List.filter_append, Nat.zero_add, er]
      congr 1
      by_cases e : it_ M (rf_ M T 2) r = 0
      · rw [if_pos e]
        simp [lv_f, ix_nI (show r < 2147483648 by omega), e]
      · rw [if_neg e]
        simp [lv_f, ix_nI (show r < 2147483648 by omega), e]
    refine ⟨b0.1, vi_ (by omega) (by omega), t2.1, v6, fun _ => ⟨fun hz => ⟨t3.1, v6, fun M10 e10 => ?_⟩, fun hz => ⟨vi_ (by omega) (by omega), fun M12 e12 => ?_⟩⟩⟩
    · subst e10
      refine ih (i + 1) k' _ (by omega) hn' (by omega) (hX.tr (Ex_.sI _ _ _ (Or.inr rfl))) (fun j hj => by rw [it_sIa n03]; exact htail j (by omega)) ?_ (fun r' h1 h2 h3 => ?_) (fun r' h1 h2 => ?_)
      · rw [hsn, if_pos hz, List.append_nil, ← hlist]
        exact sg_congr fun j _ _ => it_sIa n03
      · by_cases e : r' = r
        · subst e
          exact it_sIs _ _ _ _
        · rw [it_sIk e]
          exact hm1 r' h1 ((up r' e h1).mp h2) h3
      · by_cases e : r' = r
        · subst e
          exact absurd ⟨hmi, hz⟩ h2
        · rw [it_sIk e]
          exact hm2 r' h1 (fun z => h2 ⟨(up r' e h1).mpr z.1, z.2⟩)
    · subst e12
      refine ih (i + 1) (k' + 1) _ (by omega) hn' (by omega) (hX.tr (Ex_.sI _ _ _ (Or.inl rfl))) (fun j hj => by rw [it_sIk (by omega)]; exact htail j (by omega)) ?_ (fun r' h1 h2 h3 => ?_) (fun r' h1 h2 => ?_)
      · rw [hsn, if_neg hz, ← hlist, sg_snoc, Nat.zero_add, it_sIs]
        congr 1
        exact sg_congr fun j _ hj => it_sIk (by omega)
      · have e : r' ≠ r := fun e => by rw [e] at h3; exact hz h3
        rw [it_sIa n03.symm]
        exact hm1 r' h1 ((up r' e h1).mp h2) h3
      · rw [it_sIa n03.symm]
        by_cases e : r' = r
        · subst e
          exact hm2 r' h1 (fun z => hz z.2)
        · exact hm2 r' h1 (fun z => h2 ⟨(up r' e h1).mpr z.1, z.2⟩)
theorem sp_dropDead {ow : Nat → Nat × Nat} {M : Mm} {K : Mm → Prop} {T b k R : Nat} (hs : SH_ ow M) (hT : kd_ M T = 10) (hb : kd_ M b = 2) (hR : R ≤ 600) (hk : BR_ M b k R)
    (hK : ∀ M' k', Ex_ (fun a => a = b ∨ a = rf_ M b 0 ∨ a = rf_ M T 3) M M' → k' ≤ k → it_ M' b 2 = nI k' → (∀ j, j ≠ 2 → it_ M' b j = it_ M b j) → sg_ (it_ M' (rf_ M b 0)) 0 k' = (sg_ (it_ M (rf_ M b 0)) 0 k).filter (lv_f (it_ M (rf_ M T 2))) →
      (∀ r, r < 600 → mb_ M b k r → al_ M T r = 0 → it_ M' (rf_ M T 3) r = -2) → (∀ r, r < 600 → ¬ (mb_ M b k r ∧ al_ M T r = 0) → it_ M' (rf_ M T 3) r = it_ M (rf_ M T 3) r) → K M') : wp_X8_dropDead T b M K := by
  obtain ⟨b0, b1, bz⟩ := hs.blk hb
  obtain ⟨t0, t1, t2, t3, t4, t5⟩ := hs.tab hT
  have nb : b ≠ rf_ M b 0 := kd_ne hb b0.1 (by decide)
  have nb3 : b ≠ rf_ M T 3 := kd_ne hb t3.1 (by decide)
  refine ⟨hT, hb, k + 1, lp_dropDead_ok (E := fun xv16 M14 => Nk_ M M14 → (∀ M19, M19 = sI_ M14 b 2 xv16 → K M19)) hs hT hb hR hk (fun M14 k' X h1 h2 h3 h4 _ M19 e19 => ?_) (k + 1) 0 0 M (by omega) (by omega) (by omega) (Ex_.refl _ _) (fun _ _ => rfl) rfl (fun r _ h _ => ?_) (fun _ _ _ => rfl)⟩
  · subst e19
    refine hK _ k' ((X.mono fun a ha => Or.inr ha).tr (Ex_.sI _ _ _ (Or.inl rfl))) h1 (it_sIs _ _ _ _) (fun j hj => by rw [it_sIk hj]; exact X.it (fun e => e.elim nb nb3) j) ?_ (fun r hr g1 g2 => ?_) (fun r hr g => ?_)
    · rw [← h2]
      exact sg_congr fun j _ _ => it_sIa nb.symm
    · rw [it_sIa nb3.symm]
      exact h3 r hr g1 g2
    · rw [it_sIa nb3.symm]
      exact h4 r hr g
  · obtain ⟨j, hj, -⟩ := h
    omega
/-! numberFrom -/
theorem lp_number1_ok {ow : Nat → Nat × Nat} {M : Mm} {K E : Mm → Prop} {T b k R f : Nat} (hs : SH_ ow M) (hT : kd_ M T = 10) (hb : kd_ M b = 2) (hR : R ≤ 600) (hk : BR_ M b k R)
    (hE : ∀ M', Ex_ (fun a => a = rf_ M T 3) M M' → (∀ r, r < 600 → mb_ M b k r → it_ M' (rf_ M T 3) r = nI f) → (∀ r, r < 600 → ¬ mb_ M b k r → it_ M' (rf_ M T 3) r = it_ M (rf_ M T 3) r) → E M') :
    ∀ (n i : Nat) (M2 : Mm), i ≤ k → k - i < n → Ex_ (fun a => a = rf_ M T 3) M M2 → (∀ r, r < 600 → mb_ M b i r → it_ M2 (rf_ M T 3) r = nI f) → (∀ r, r < 600 → ¬ mb_ M b i r → it_ M2 (rf_ M T 3) r = it_ M (rf_ M T 3) r) →
      lp_X8_numberFrom_28 T (nI f) b K E n (nI i) M2 := by
  obtain ⟨b0, b1, bz⟩ := hs.blk hb
  obtain ⟨t0, t1, t2, t3, t4, t5⟩ := hs.tab hT
  have nb3 : b ≠ rf_ M T 3 := kd_ne hb t3.1 (by decide)
  have n03 : rf_ M b 0 ≠ rf_ M T 3 := own_ne b0 t3 (Or.inl (kd_ne hb hT (by decide)))
  have hk6 := hk.2.1
  intro n
  induction n with
  | zero => intro i M2 _ h; omega
  | succ n ih =>
    intro i M2 hik hn hX hm1 hm2
    have q1 : i < k → k - (i + 1) < n := by omega
    unfold lp_X8_numberFrom_28
    rw [hX.it nb3, hk.1, hX.rf, hX.rf, hX.kd, hX.kd, hX.ln, hX.ln, hX.it n03, le_nI (by omega) (by omega), ix_nI (n := i) (by omega)]
    refine ⟨fun h => ?_, fun h => ?_⟩
    · have : i = k := by omega
      subst this
      exact hE M2 hX hm1 hm2
    have hi : i < k := by omega
    have hn' := q1 hi
    obtain ⟨r, hr, er⟩ := hk.2.2 i hi
    have hr6 : r < 600 := by omega
    rw [er, ix_nI (n := r) (by omega), b0.2.1, t3.2.1, nI_p1]
    refine ⟨t3.1, b0.1, vi_ (by omega) (by omega), vi_ hr6 (by omega), fun M23 e23 => ?_⟩
    subst e23
    have up : ∀ r', r' ≠ r → r' < 600 → (mb_ M b (i + 1) r' ↔ mb_ M b i r') := fun r' h1 h2 => by
      constructor
      · rintro ⟨j, g1, g2⟩
        by_cases e : j = i
        · rw [e, er] at g2
          exact absurd (nI_inj (by omega) (by omega) g2).symm h1
        · exact ⟨j, by omega, g2⟩
      · rintro ⟨j, g1, g2⟩
        exact ⟨j, by omega, g2⟩
    refine ih (i + 1) _ (by omega) hn' (hX.tr (Ex_.sI _ _ _ rfl)) (fun r' h1 h2 => ?_) (fun r' h1 h2 => ?_)
    · by_cases e : r' = r
      · subst e
        exact it_sIs _ _ _ _
      · rw [it_sIk e]
        exact hm1 r' h1 ((up r' e h1).mp h2)
    · have e : r' ≠ r := fun e => h2 (by rw [e]; exact ⟨i, by omega, er⟩)
      rw [it_sIk e]
      exact hm2 r' h1 (fun z => h2 ((up r' e h1).mpr z))
/-- the rows of different frames from f0 on are different ones, as a mark of every row tells -/
theorem lp_number_ok {ow : Nat → Nat × Nat} {M : Mm} {K E : Mm → Prop} {T m R f0 : Nat} {kk : Nat → Nat} {tag : Nat → Nat} (hs : SH_ ow M) (hT : kd_ M T = 10) (hl : Ls_ ow M (rf_ M T 1) m 2) (hR : R ≤ 600) (hk : ∀ f, f0 ≤ f → f < m → BR_ M (el_ M (rf_ M T 1) f) (kk f) R) (htag : ∀ f r, f0 ≤ f → f < m → r < 600 → mb_ M (el_ M (rf_ M T 1) f) (kk f) r → tag r = f)
    (hE : ∀ M', Ex_ (fun a => a = rf_ M T 3) M M' → (∀ f r, f0 ≤ f → f < m → r < 600 → mb_ M (el_ M (rf_ M T 1) f) (kk f) r → it_ M' (rf_ M T 3) r = nI f) → (∀ r, r < 600 → (∀ f, f0 ≤ f → f < m → ¬ mb_ M (el_ M (rf_ M T 1) f) (kk f) r) → it_ M' (rf_ M T 3) r = it_ M (rf_ M T 3) r) → E M') :
    ∀ (n f : Nat) (M2 : Mm), f0 ≤ f → f ≤ m → m - f < n → Ex_ (fun a => a = rf_ M T 3) M M2 → (∀ g r, f0 ≤ g → g < f → r < 600 → mb_ M (el_ M (rf_ M T 1) g) (kk g) r → it_ M2 (rf_ M T 3) r = nI g) → (∀ r, r < 600 → (∀ g, f0 ≤ g → g < f → ¬ mb_ M (el_ M (rf_ M T 1) g) (kk g) r) → it_ M2 (rf_ M T 3) r = it_ M (rf_ M T 3) r) →
      lp_X8_numberFrom_2 T K E n (nI f) M2 := by
  obtain ⟨t0, t1, t2, t3, t4, t5⟩ := hs.tab hT
  have hle := hl.le
  have n1 : rf_ M T 1 ≠ rf_ M T 3 := kd_ne t1.1 t3.1 (by decide)
  intro n
  induction n with
  | zero => intro f M2 _ _ h; omega
  | succ n ih =>
    intro f M2 hf0 hfm hn hX hm1 hm2
    have q1 : f < m → m - (f + 1) < n := by omega
    have l2 : Ls_ ow M2 (rf_ M T 1) m 2 := hX.1.ls (hX.it n1 2) hl
    unfold lp_X8_numberFrom_2
    rw [hX.rf, hX.kd]
    refine ⟨t1.1, sp_size l2 (fun _ => ⟨fun h => ?_, fun h => ⟨by rw [hX.rf, hX.kd]; exact t1.1, ?_⟩⟩)⟩
    · have : m ≤ f := (le_nI (by omega) (by omega)).mp h
      have : f = m := by omega
      subst this
      exact hE M2 hX hm1 hm2
    have hf : f < m := by
      have : ¬ m ≤ f := fun z => h ((le_nI (by omega) (by omega)).mpr z)
      omega
    have hn' := q1 hf
    have hF := hl.el hf
    have hB := hk f hf0 hf
    have nF : el_ M (rf_ M T 1) f ≠ rf_ M T 3 := kd_ne hF t3.1 (by decide)
    have nR : rf_ M (el_ M (rf_ M T 1) f) 0 ≠ rf_ M T 3 := own_ne (hs.blk hF).1 t3 (Or.inl (kd_ne hF hT (by decide)))
    rw [hX.rf]
    refine sp_get l2 hf (by decide) (fun _ => ?_)
    rw [hX.1.el, hX.kd]
    have hmb : ∀ r, mb_ M2 (el_ M (rf_ M T 1) f) (kk f) r ↔ mb_ M (el_ M (rf_ M T 1) f) (kk f) r := fun r => by
      unfold mb_
      simp only [hX.rf, hX.it nR]
    have hB2 : BR_ M2 (el_ M (rf_ M T 1) f) (kk f) R := by
      unfold BR_
      simp only [hX.rf, hX.it nR, hX.it nF]
      exact hB
    refine ⟨hF, kk f + 1, ?_⟩
    have n1' := @lp_number1_ok ow M2 K (fun M25 => Nk_ M2 M25 → lp_X8_numberFrom_2 T K E n ((nI f) + (1 : Int32)) M25) T (el_ M (rf_ M T 1) f) (kk f) R f (hX.1.sh hs) (by rw [hX.kd]; exact hT) (by rw [hX.kd]; exact hF) hR hB2 (fun M' X' g1 g2 _ => ?_) (kk f + 1) 0 M2 (by omega) (by omega) (Ex_.refl _ _) (fun r _ z => ?_) (fun _ _ _ => rfl)
    · exact n1'
    · rw [hX.rf] at X' g1 g2
      rw [nI_p1]
      refine ih (f + 1) M' (by omega) (by omega) hn' (hX.tr X') (fun g r g0 g3 hr hm => ?_) (fun r hr hm => ?_)
      · by_cases e : g = f
        · subst e
          exact g1 r hr ((hmb r).mpr hm)
        · have hg : g < f := by omega
          rw [g2 r hr (fun z => e ?_)]
          · exact hm1 g r g0 hg hr hm
          · have a1 := htag g r g0 (by omega) hr hm
            have a2 := htag f r hf0 hf hr ((hmb r).mp z)
            omega
      · rw [g2 r hr (fun z => hm f hf0 (by omega) ((hmb r).mp z))]
        exact hm2 r hr (fun g g0 g3 => hm g g0 (by omega))
    · obtain ⟨j, hj, -⟩ := z
      omega
theorem sp_numberFrom {ow : Nat → Nat × Nat} {M : Mm} {K : Mm → Prop} {T m R f0 : Nat} {kk : Nat → Nat} {tag : Nat → Nat} (hs : SH_ ow M) (hT : kd_ M T = 10) (hl : Ls_ ow M (rf_ M T 1) m 2) (hR : R ≤ 600) (hf : f0 ≤ m) (hk : ∀ f, f0 ≤ f → f < m → BR_ M (el_ M (rf_ M T 1) f) (kk f) R) (htag : ∀ f r, f0 ≤ f → f < m → r < 600 → mb_ M (el_ M (rf_ M T 1) f) (kk f) r → tag r = f)
    (hK : ∀ M', Ex_ (fun a => a = rf_ M T 3) M M' → (∀ f r, f0 ≤ f → f < m → r < 600 → mb_ M (el_ M (rf_ M T 1) f) (kk f) r → it_ M' (rf_ M T 3) r = nI f) → (∀ r, r < 600 → (∀ f, f0 ≤ f → f < m → ¬ mb_ M (el_ M (rf_ M T 1) f) (kk f) r) → it_ M' (rf_ M T 3) r = it_ M (rf_ M T 3) r) → K M') : wp_X8_numberFrom T (nI f0) M K :=
  ⟨hT, m - f0 + 1, lp_number_ok (E := fun M30 => Nk_ M M30 → K M30) hs hT hl hR hk htag (fun M' x1 x2 x3 _ => hK M' x1 x2 x3) (m - f0 + 1) f0 M (Nat.le_refl _) hf (by omega) (Ex_.refl _ _) (fun g r g0 g3 => by omega) (fun _ _ _ => rfl)⟩
