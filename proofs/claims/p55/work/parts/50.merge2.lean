/-! mergeNext, whole -/
section MG2
variable {ow : Nat → Nat × Nat} {M M' : Mm} {T nc m R sz d i : Nat} {kk : Nat → Nat} {vh : Nat → Int32} {Z : Nat → Prop}
/-- the living ones among a block's first k rows -/
def lvl_ (M : Mm) (T b k : Nat) : Nat := ((sg_ (it_ M (rf_ M b 0)) 0 k).filter (lv_f (it_ M (rf_ M T 2)))).length
def mvh_ (M : Mm) (T i : Nat) : Nat → Int32 := fun r => if hm_ M T r = nI (i + 1) then nI i else hm_ M T r
theorem mg_tv (h : TI_ ow M T nc m R sz kk Z) (hi : i + 1 < m) (h64 : kk i + kk (i + 1) ≤ 64) (hZ : ∀ j, Z j → j ≠ i) (X : Ex_ (fun x => x = bk_ M T m i ∨ x = rf_ M (bk_ M T m i) 0) M M') (e2 : it_ M' (bk_ M T m i) 2 = nI (kk i + kk (i + 1))) (f1 : ∀ j, j < kk i → it_ M' (rf_ M (bk_ M T m i) 0) j = it_ M (rf_ M (bk_ M T m i) 0) j) (f2 : ∀ j, j < kk (i + 1) → it_ M' (rf_ M (bk_ M T m i) 0) (kk i + j) = it_ M (rf_ M (bk_ M T m (i + 1)) 0) j) :
    Gw_ (AK_ ow M T) M M' ∧ TS_ ow M' T nc m ∧ TV_ M' T m R (up_ kk i (kk i + kk (i + 1))) (mvh_ M T i) (i + 1) ∧ TZ_ M' T nc m (up_ kk i (kk i + kk (i + 1))) Z ∧ (∀ r, hm_ M' T r = hm_ M T r) := by
  obtain ⟨hS, hH, hZZ, hN, hC⟩ := h
  obtain ⟨b0, b1, bz⟩ := hS.bo i
  have hb := hS.bk i
  have hm2 := hS.m2
  have X2 : Gw_ (AK_ ow M T) M M' := X.gw.mono (fun b _ hb' => by
    rcases hb' with e | e
    · exact Or.inl (by rw [e]; exact hb)
    · rw [e]; exact own_AK b0 (Or.inl hb))
  have hsj : ∀ j, j ≤ m → j ≠ i → Sa_ M M' (bk_ M T m j) ∧ Sa_ M M' (rf_ M (bk_ M T m j) 0) ∧ Sa_ M M' (rf_ M (bk_ M T m j) 1) ∧ ∀ q, q < 8 → Sa_ M M' (rf_ M (rf_ M (bk_ M T m j) 1) q) := fun j hj hji => by
    obtain ⟨c0, c1, cz⟩ := hS.bo j
    have hbj := hS.bk j
    have ne := hS.bkne hj (by omega) hji
    refine ⟨X.sa (fun e => ?_), X.sa (fun e => ?_), X.sa (fun e => ?_), fun q hq => X.sa (fun e => ?_)⟩
    · rcases e with e | e
      · exact ne e
      · exact kd_ne hbj b0.1 (by decide) e
    · rcases e with e | e
      · exact kd_ne c0.1 hb (by decide) e
      · exact own_ne c0 b0 (Or.inl ne) e
    · rcases e with e | e
      · exact kd_ne c1.1 hb (by decide) e
      · exact kd_ne c1.1 b0.1 (by decide) e
    · rcases e with e | e
      · exact kd_ne (cz q hq).1 hb (by decide) e
      · exact kd_ne (cz q hq).1 b0.1 (by decide) e
  have t3 := hS.t.2.2.2.1
  have ehm : ∀ r, hm_ M' T r = hm_ M T r := fun r => by
    unfold hm_
    rw [X.rf]
    refine X.it (fun e => ?_) r
    rcases e with e | e
    · exact kd_ne t3.1 hb (by decide) e
    · exact own_ne t3 b0 (Or.inl (kd_ne hS.kT hb (by decide))) e
  have eal := fun r => ak_al X2 hS r
  have hS' : TS_ ow M' T nc m := hS.ex X (fun b hb' => by
    rcases hb' with e | e
    · rw [e, hb]; decide
    · rw [e, b0.1]; decide)
  have hBi := hH.1 i (by omega)
  have hBn := hH.1 (i + 1) (by omega)
  have hmi : ∀ r, mb_ M' (bk_ M T m i) (kk i + kk (i + 1)) r ↔ mb_ M (bk_ M T m i) (kk i) r ∨ mb_ M (bk_ M T m (i + 1)) (kk (i + 1)) r := fun r => by
    unfold mb_
    rw [X.rf]
    constructor
    · rintro ⟨j, hj, e⟩
      by_cases h : j < kk i
      · exact Or.inl ⟨j, h, by rw [← f1 j h]; exact e⟩
      · have := f2 (j - kk i) (by omega)
        rw [show kk i + (j - kk i) = j by omega] at this
        exact Or.inr ⟨j - kk i, by omega, by rw [← this]; exact e⟩
    · rintro (⟨j, hj, e⟩ | ⟨j, hj, e⟩)
      · exact ⟨j, by omega, by rw [f1 j hj]; exact e⟩
      · exact ⟨kk i + j, by omega, by rw [f2 j hj]; exact e⟩
  have hvi : hv_ m i = nI i := if_pos (by omega)
  have hvn : hv_ m (i + 1) = nI (i + 1) := if_pos hi
  have inn : nI i ≠ nI (i + 1) := fun e => by have := nI_inj (by omega) (by omega) e; omega
  have ebk : ∀ j, bk_ M' T m j = bk_ M T m j := fun j => X.1.bk T m j
  refine ⟨X2, hS', ⟨fun j hj hd => ?_, fun j r hj hd hr hm => ?_, fun j r hj hr e => ?_, fun r hr => ?_, fun r hr e => ?_⟩, fun j hj hz => ?_, ehm⟩
  · rw [ebk]
    by_cases e : j = i
    · rw [e, up_s]
      refine ⟨e2, h64, fun q hq => ?_⟩
      rw [X.rf]
      by_cases h : q < kk i
      · rw [f1 q h]; exact hBi.2.2 q h
      · have := f2 (q - kk i) (by omega)
        rw [show kk i + (q - kk i) = q by omega] at this
        rw [this]
        exact hBn.2.2 (q - kk i) (by omega)
    · obtain ⟨s1, s2, -⟩ := hsj j hj e
      rw [up_o _ _ e]
      exact BR_sa (s1 2).2.1 (s1 0).1 (fun q _ => (s2 q).2.1) (hH.1 j hj)
  · rw [ebk] at hm
    unfold mvh_
    by_cases e : j = i
    · rw [e, up_s] at hm
      rw [e, hvi]
      rcases (hmi r).mp hm with z | z
      · have q := hH.2.1 i r (by omega) hr z
        rw [hvi] at q
        rw [q, if_neg inn]
      · have q := hH.2.1 (i + 1) r (by omega) hr z
        rw [hvn] at q
        rw [if_pos q]
    · obtain ⟨s1, s2, -⟩ := hsj j hj e
      rw [up_o _ _ e, mb_sa (s1 0).1 (fun q _ => (s2 q).2.1)] at hm
      have q := hH.2.1 j r hj hr hm
      rw [q, if_neg]
      rw [← hvn]
      exact fun z => hd (nhv hj hm2 (by omega) z)
  · unfold mvh_ at e
    rw [ebk]
    by_cases q : hm_ M T r = nI (i + 1)
    · rw [if_pos q] at e
      have eji : j = i := (nI_inj (by omega) (by omega) e).symm
      refine ⟨by omega, ?_⟩
      rw [eji, up_s]
      exact (hmi r).mpr (Or.inr (hH.2.2.1 (i + 1) r hi hr q))
    · rw [if_neg q] at e
      have hj2 := hH.2.2.1 j r hj hr e
      refine ⟨fun z => q (by rw [e, z]), ?_⟩
      by_cases e' : j = i
      · rw [e', up_s]
        rw [e'] at hj2
        exact (hmi r).mpr (Or.inl hj2)
      · obtain ⟨s1, s2, -⟩ := hsj j (by omega) e'
        rw [up_o _ _ e', mb_sa (s1 0).1 (fun q _ => (s2 q).2.1)]
        exact hj2
  · unfold mvh_
    by_cases q : hm_ M T r = nI (i + 1)
    · rw [if_pos q]
      exact Or.inr (Or.inr ⟨i, by omega, rfl⟩)
    · rw [if_neg q]
      exact hH.2.2.2.1 r hr
  · unfold mvh_ at e
    rw [eal]
    by_cases q : hm_ M T r = nI (i + 1)
    · rw [if_pos q] at e
      exact absurd e (nI_ne1 (by omega)).2
    · rw [if_neg q] at e
      exact hH.2.2.2.2 r hr e
  · obtain ⟨s1, s2, s3, s4⟩ := hsj j hj (hZ j hz)
    rw [ebk, up_o _ _ (hZ j hz)]
    have g := hZZ j hj hz
    exact ⟨g.1, FZ_.ak X2 hS s1 (fun q _ => (s2 q).2.1) s3 s4 g.2⟩
theorem sp_mergeNext {K : Mm → Int32 → Prop} (h : TI_ ow M T nc m R sz kk (fun j => j < m)) (hi : i + 1 < m) (hlv : lvl_ M T (bk_ M T m i) (kk i) + lvl_ M T (bk_ M T m (i + 1)) (kk (i + 1)) ≤ 64) (hK : ∀ M' m' r, Gw_ (TA_ ow M) M M' → m' ≤ m → TF_ ow M' T nc m' R sz → K M' r) : wp_X8_mergeNext T (nI i) M K := by
  have hS := h.1
  have hm2 := hS.m2
  have hR := h.2.2.2.1.2.1
  have eb : el_ M (rf_ M T 1) i = bk_ M T m i := (if_pos (by omega)).symm
  have eb2 : el_ M (rf_ M T 1) (i + 1) = bk_ M T m (i + 1) := (if_pos hi).symm
  refine ⟨hS.kT, hS.t.2.1.1, sp_get hS.lf (show i < m by omega) (by decide) ?_⟩
  rw [eb, nI_p1]
  refine fun _ => ⟨hS.bk i, hS.t.2.1.1, sp_get hS.lf hi (by decide) ?_⟩
  rw [eb2]
  refine fun _ => ⟨hS.bk (i + 1), sp_drop h (show i ≤ m by omega) (fun M1 k1 X1 Y1 h1 ek1 al1 _ o1 _ => ?_)⟩
  rw [← Y1.bk T m (i + 1)]
  refine sp_drop h1 (show i + 1 ≤ m by omega) (fun M2 k2 X2 Y2 h2 ek2 _ _ _ _ => ?_)
  rw [up_o _ _ (by omega)] at ek2
  have e2 : k2 = lvl_ M T (bk_ M T m (i + 1)) (kk (i + 1)) := by
    have q1 : it_ M1 (rf_ M1 T 2) = it_ M (rf_ M T 2) := funext al1
    rw [ek2, q1]
    unfold lvl_
    rw [Y1.bk, Y1.rf, sg_congr (fun j _ _ => o1 (i + 1) (by omega) (by omega) j)]
  have e1 : k1 = lvl_ M T (bk_ M T m i) (kk i) := ek1
  have h64 : k1 + k2 ≤ 64 := by omega
  have u1 : up_ (up_ kk i k1) (i + 1) k2 i = k1 := by rw [up_o _ _ (by omega), up_s]
  have u2 : up_ (up_ kk i k1) (i + 1) k2 (i + 1) = k2 := up_s _ _ _
  rw [← Y1.bk T m i, ← Y2.bk T m (i + 1), ← Y2.bk T m i]
  have hS2 := h2.1
  have B1 := h2.2.1.1 i (by omega)
  have B2 := h2.2.1.1 (i + 1) (by omega)
  rw [u1] at B1
  rw [u2] at B2
  have Y12 : M2.1 = M.1 := Y2.1.trans Y1.1
  have G2 : Gw_ (TA_ ow M) M M2 := X1.tr' X2 (fun b _ z => (TA_eq Y1.1 b).mp z)
  refine ⟨k2 + 1, lp_merge_ok hS2.sh (hS2.bk i) (hS2.bk (i + 1)) (hS2.bkne (by omega) (by omega) (by omega)) B1.1 B2.1 h64 (fun M3 X3 c3 f1 f2 _ => ?_) (k2 + 1) 0 M2 (by omega) (by omega) (Ex_.refl _ _) (by rw [B1.1]; rfl) (fun _ _ => rfl) (fun q hq => by omega)⟩
  obtain ⟨G3, hS3, V3, Z3, hm3⟩ := mg_tv h2 hi (by rw [u1, u2]; exact h64) (fun j z => z.1.2) X3 (by rw [u1, u2]; exact c3) (by rw [u1]; exact f1) (by rw [u1, u2]; exact f2)
  have hN3 := h2.2.2.2.1.ak G3 hS2
  have hC3 := h2.2.2.2.2.ak G3 hS2
  rw [u1, u2] at V3 Z3
  have eb3 : bk_ M3 T m i = bk_ M2 T m i := X3.1.bk T m i
  have hr3 : ∀ r, r < R → hm_ M3 T r = mvh_ M2 T i r ∨ ∃ f, i ≤ f ∧ f < m ∧ mvh_ M2 T i r = nI f := fun r hr => by
    rw [hm3]
    unfold mvh_
    by_cases q : hm_ M2 T r = nI (i + 1)
    · rw [if_pos q]; exact Or.inr ⟨i, by omega, by omega, rfl⟩
    · rw [if_neg q]; exact Or.inl rfl
  have G23 : Gw_ (TA_ ow M) M M3 := G2.ta Y12 hS2 G3
  have Y13 : M3.1 = M.1 := X3.1.1.trans Y12
  refine sp_removeV hS3 hi hR V3 Z3 (fun M4 X4 E4 hS4 V4 Z4 hb4 a1 a2 _ => ?_)
  have G4 : Gw_ (TA_ ow M) M M4 := G23.ta Y13 hS3 X4
  have Y14 : M4.1 = M.1 := E4.trans Y13
  have hN4 := hN3.ak X4 hS3
  have hC4 := hC3.ak X4 hS3
  have hr4 : ∀ r, r < R → hm_ M4 T r = sh_ (i + 1) (mvh_ M2 T i r) ∨ ∃ f, i ≤ f ∧ f < i + 1 ∧ sh_ (i + 1) (mvh_ M2 T i r) = nI f := fun r hr => rm_hr (hm := hm_ M3 T) (hm' := hm_ M4 T) V3 hm2 hi hr (hr3 r hr) (a1 r hr) (a2 r hr)
  have B4 := V4.1 i (by omega) (by omega)
  have ub : sk_ (i + 1) (up_ (up_ (up_ kk i k1) (i + 1) k2) i (k1 + k2)) i = k1 + k2 := by rw [sk_lt _ (by omega), up_s]
  rw [ub] at B4
  have eb4 : bk_ M4 T (m - 1) i = bk_ M2 T m i := by rw [hb4 i (by omega), sk_lt _ (by omega), eb3]
  rw [← eb4]
  have V4' : TV_ M4 T (m - 1) R (sk_ (i + 1) (up_ (up_ (up_ kk i k1) (i + 1) k2) i (k1 + k2))) (fun r => sh_ (i + 1) (mvh_ M2 T i r)) (m - 1 + 1) := by
    rw [show m - 1 + 1 = m by omega]; exact V4
  refine ⟨fun e => ?_, fun e => ?_⟩
  · rw [B4.1] at e
    have e0 : k1 + k2 = 0 := nI_inj (by omega) (by omega) e
    have Z4' : TZ_ M4 T nc (m - 1) (sk_ (i + 1) (up_ (up_ (up_ kk i k1) (i + 1) k2) i (k1 + k2))) (fun j => j < m - 1 ∧ j ≠ i) := fun j hj z => Z4 j hj (by
      have z1 := z.1
      have z2 := z.2
      rw [sk_ix]
      have q := ix_sk (d := i + 1) hi (show j ≤ m - 1 by omega)
      refine ⟨⟨q.2.2.1.mp z1, ?_⟩, q.2.1⟩
      by_cases h : j < i + 1
      · rw [if_pos h]; exact z2
      · rw [if_neg h]; omega)
    refine sp_removeV hS4 (show i < m - 1 by omega) hR (V4'.void' (by omega) (by rw [ub]; exact e0)) Z4' (fun M5 X5 E5 hS5 V5 Z5 hb5 c1 c2 _ => ?_)
    refine hK M5 (m - 1 - 1) _ (G4.ta Y14 hS4 X5) (by omega) ⟨sk_ i (sk_ (i + 1) (up_ (up_ (up_ kk i k1) (i + 1) k2) i (k1 + k2))), hS5, TV_.th (vh := fun r => sh_ i (sh_ (i + 1) (mvh_ M2 T i r))) ?_ hR (fun r hr => ?_), ?_, hN4.ak X5 hS4, hC4.ak X5 hS4⟩
    · rw [show m - 1 - 1 + 1 = m - 1 by omega]; exact V5
    · have q := rm_hr (hm := hm_ M4 T) (hm' := hm_ M5 T) (f0 := i) (V4'.void' (d := i) (by omega) (by rw [ub]; exact e0)) (by omega) (show i < m - 1 by omega) hr (by
        rcases hr4 r hr with z | ⟨f, z1, z2, z3⟩
        · exact Or.inl z
        · exact Or.inr ⟨f, z1, by omega, z3⟩) (c1 r hr) (c2 r hr)
      rcases q with q | ⟨f, q1, q2, -⟩
      · exact q
      · omega
    · intro j hj z
      refine Z5 j hj ?_
      rw [sk_ix]
      have q := ix_sk (d := i) (show i < m - 1 by omega) hj
      have z : j < m - 1 - 1 := z
      exact ⟨q.2.2.1.mp z, q.2.1⟩
  · rw [B4.1] at e
    have hk0 : 0 < k1 + k2 := by
      rcases Nat.eq_zero_or_pos (k1 + k2) with z | z
      · exact absurd (by rw [z]; rfl) e
      · exact z
    refine sp_numberV hS4 hR V4' (by omega) (show i ≤ m - 1 by omega) (fun M5 X5 c1 c2 _ => ?_)
    have X5' := hS4.hX X5
    have hS5 := hS4.home X5
    have t5 := hS5.t
    refine ⟨t5.1.1, t5.2.2.2.2.2.1, t5.2.2.2.2.1.1, ?_⟩
    rw [← X5.1.bk T (m - 1) i]
    have h5 : TI_ ow M5 T nc (m - 1) R sz (sk_ (i + 1) (up_ (up_ (up_ kk i k1) (i + 1) k2) i (k1 + k2))) (fun j => j < m - 1 ∧ j ≠ i) := ⟨hS5, TV_.th (TV_.home hS4 X5 V4') hR (fun r hr => ?_), ?_, hN4.ak X5' hS4, hC4.ak X5' hS4⟩
    · refine h5.reckon (by omega) (by rw [ub]; exact hk0) (fun M6 X6 E6 h6 _ => hK M6 (m - 1) _ ((G4.ta Y14 hS4 X5').ta (X5.1.1.trans Y14) hS5 X6) (by omega) ⟨_, h6.zmono (fun j _ z => ?_)⟩)
      by_cases e : j = i
      · exact Or.inr e
      · exact Or.inl ⟨z, e⟩
    · by_cases q : ∃ f, i ≤ f ∧ f < m - 1 ∧ sh_ (i + 1) (mvh_ M2 T i r) = nI f
      · exact c1 r hr q
      · rw [c2 r hr q]
        rcases hr4 r hr with z | ⟨f, z1, z2, z3⟩
        · exact z
        · exact absurd ⟨f, z1, by omega, z3⟩ q
    · refine TZ_.home hS4 X5 (fun j hj z => Z4 j hj ?_)
      have z1 := z.1
      have z2 := z.2
      rw [sk_ix]
      have q := ix_sk (d := i + 1) hi (show j ≤ m - 1 by omega)
      refine ⟨⟨q.2.2.1.mp z1, ?_⟩, q.2.1⟩
      by_cases h : j < i + 1
      · rw [if_pos h]; exact z2
      · rw [if_neg h]; omega
end MG2
