/-! reckoning a block; clusterBy -/
section CB
variable {ow : Nat → Nat × Nat} {M M' : Mm} {T nc m R sz d i : Nat} {kk : Nat → Nat} {vh : Nat → Int32} {Z : Nat → Prop}
theorem ab_no (hS : TS_ ow M T nc m) (hk : kd_ M (bk_ M T m i) = 2) {a k c n : Nat} (h : own_ ow M a k c n) (hc : c ≠ 2) (h10 : kd_ M a ≠ 10 ∨ k ≠ 10) (h9 : kd_ M a ≠ 9) (h11 : kd_ M a ≠ 11) (hb : a ≠ rf_ M (bk_ M T m i) 1) : ¬ Ab_ M (bk_ M T m i) (rf_ M T 10) (rf_ M T 4) (rf_ M a k) := by
  obtain ⟨b0, b1, bz⟩ := hS.bo i
  obtain ⟨t0, t1, t2, t3, t4, t5⟩ := hS.t
  have s := hS.sh.sor t4.1
  rintro (e | e | e | e | ⟨j, hj, e | e⟩)
  · exact hc (by rw [← h.1, e]; exact hk)
  · refine own_ne h t5 ?_ e
    rcases h10 with z | z
    · exact Or.inl (fun e => z (by rw [e]; exact hS.kT))
    · exact Or.inr z
  · exact own_ne h s.1 (Or.inl (fun e => h9 (by rw [e]; exact t4.1))) e
  · exact own_ne h s.2 (Or.inl (fun e => h9 (by rw [e]; exact t4.1))) e
  · exact own_ne h (bz j hj) (Or.inl hb) e
  · exact own_ne h (hS.sh.zon (bz j hj).1) (Or.inl (fun e => h11 (by rw [e]; exact (bz j hj).1))) e
theorem ab_no2 (hS : TS_ ow M T nc m) {b : Nat} (hk : b ≠ bk_ M T m i) (h20 : kd_ M b ≠ 20) (h22 : kd_ M b ≠ 22) (h11 : kd_ M b ≠ 11) : ¬ Ab_ M (bk_ M T m i) (rf_ M T 10) (rf_ M T 4) b := by
  obtain ⟨b0, b1, bz⟩ := hS.bo i
  obtain ⟨t0, t1, t2, t3, t4, t5⟩ := hS.t
  have s := hS.sh.sor t4.1
  rintro (e | e | e | e | ⟨j, hj, e | e⟩)
  · exact hk e
  · exact h20 (by rw [e]; exact t5.1)
  · exact h22 (by rw [e]; exact s.1.1)
  · exact h20 (by rw [e]; exact s.2.1)
  · exact h11 (by rw [e]; exact (bz j hj).1)
  · exact h20 (by rw [e]; exact (hS.sh.zon (bz j hj).1).1)
theorem ab_ak (hS : TS_ ow M T nc m) {b : Nat} (h : Ab_ M (bk_ M T m i) (rf_ M T 10) (rf_ M T 4) b) : AK_ ow M T b := by
  obtain ⟨b0, b1, bz⟩ := hS.bo i
  obtain ⟨t0, t1, t2, t3, t4, t5⟩ := hS.t
  have s := hS.sh.sor t4.1
  rcases h with e | e | e | e | ⟨j, hj, e | e⟩
  · exact Or.inl (by rw [e]; exact hS.bk i)
  · rw [e]; exact own_AK t5 (Or.inr (Or.inr (Or.inl hS.kT)))
  · exact Or.inr (Or.inr (Or.inl ⟨by rw [e]; exact s.1.1, by rw [e, s.1.2.2]; exact t4.1⟩))
  · rw [e]; exact own_AK s.2 (Or.inr (Or.inl t4.1))
  · exact Or.inr (Or.inl (by rw [e]; exact (bz j hj).1))
  · rw [e]; exact own_AK (hS.sh.zon (bz j hj).1) (Or.inr (Or.inr (Or.inr (bz j hj).1)))
theorem sp_reckonT {K : Mm → Prop} {k : Nat} (hS : TS_ ow M T nc m) (hi : i ≤ m) (hR : R ≤ 600) (hB : BR_ M (bk_ M T m i) k R) (hk : 0 < k)
    (hK : ∀ M', Ex_ (Ab_ M (bk_ M T m i) (rf_ M T 10) (rf_ M T 4)) M M' → Gw_ (AK_ ow M T) M M' → TS_ ow M' T nc m → it_ M' (bk_ M T m i) 2 = nI k → FZ_ M' (bk_ M T m i) k nc (cl_ M T) → (∀ r, hm_ M' T r = hm_ M T r) → (∀ r, al_ M' T r = al_ M T r) →
      (∀ j, j ≤ m → j ≠ i → Sa_ M M' (bk_ M T m j) ∧ Sa_ M M' (rf_ M (bk_ M T m j) 0) ∧ Sa_ M M' (rf_ M (bk_ M T m j) 1) ∧ ∀ q, q < 8 → Sa_ M M' (rf_ M (rf_ M (bk_ M T m j) 1) q)) → (∀ q, it_ M' (rf_ M (bk_ M T m i) 0) q = it_ M (rf_ M (bk_ M T m i) 0) q) → K M') : wp_X0_reckon (bk_ M T m i) (rf_ M T 0) (rf_ M T 10) (rf_ M T 4) M K := by
  obtain ⟨b0, b1, bz⟩ := hS.bo i
  obtain ⟨t0, t1, t2, t3, t4, t5⟩ := hS.t
  have hb := hS.bk i
  have hT := hS.kT
  refine sp_breckon hS.sh hb hT rfl t4.1 hS.lc hS.nc8 hB.1 hk hB.2.1 (fun j hj => ?_) (fun M' X e2 z => ?_)
  · obtain ⟨r, h1, h2⟩ := hB.2.2 j hj
    exact ⟨r, h2, by omega⟩
  · have X2 : Gw_ (AK_ ow M T) M M' := X.gw.mono (fun b _ hb' => ab_ak hS hb')
    refine hK M' X X2 (hS.ex X (fun b hb' e => ?_)) e2 z (fun r => ?_) (fun r => ak_al X2 hS r) (fun j hj hji => ?_) (fun q => X.it (ab_no hS hb b0 (by decide) (Or.inr (by decide)) (by omega) (by omega) (kd_ne hb b1.1 (by decide))) q)
    · rcases hb' with q | q | q | q | ⟨j, hj, q | q⟩
      · rw [q] at e; omega
      · rw [q] at e; have := t5.1; omega
      · rw [q] at e; have := (hS.sh.sor t4.1).1.1; omega
      · rw [q] at e; have := (hS.sh.sor t4.1).2.1; omega
      · rw [q] at e; have := (bz j hj).1; omega
      · rw [q] at e; have := (hS.sh.zon (bz j hj).1).1; omega
    · unfold hm_
      rw [X.rf]
      exact X.it (ab_no hS hb t3 (by decide) (Or.inr (by decide)) (by omega) (by omega) (kd_ne hT b1.1 (by decide))) r
    · obtain ⟨c0, c1, cz⟩ := hS.bo j
      have hbj := hS.bk j
      have kz := c1.1
      refine ⟨X.sa (ab_no2 hS (hS.bkne hj hi hji) (by omega) (by omega) (by omega)), X.sa (ab_no hS hb c0 (by decide) (Or.inr (by decide)) (by omega) (by omega) (kd_ne hbj b1.1 (by decide))), X.sa (ab_no2 hS (kd_ne c1.1 hb (by decide)) (by omega) (by omega) (by omega)), fun q hq => X.sa (ab_no hS hb (cz q hq) (by decide) (Or.inl (by omega)) (by omega) (by omega) (own_ne c1 b1 (Or.inl (hS.bkne hj hi hji))))⟩
/-- with the whole table -/
theorem TI_.reckon {K : Mm → Prop} (h : TI_ ow M T nc m R sz kk Z) (hi : i ≤ m) (hk : 0 < kk i) (hK : ∀ M', Gw_ (AK_ ow M T) M M' → M'.1 = M.1 → TI_ ow M' T nc m R sz kk (fun j => Z j ∨ j = i) → K M') : wp_X0_reckon (bk_ M T m i) (rf_ M T 0) (rf_ M T 10) (rf_ M T 4) M K := by
  obtain ⟨hS, hH, hZ, hN, hC⟩ := h
  have hB := hH.1 i hi
  refine sp_reckonT hS hi hN.2.1 hB hk (fun M' X X2 hS' e2 fz eh ea so sr => ?_)
  refine hK M' X2 X.1.1 ⟨hS', ?_, fun j hj hz => ?_, hN.ak X2 hS, hC.ak X2 hS⟩
  · have V := TV_.of hH
    refine TV_.th (vh := hm_ M T) (V.sa (fun j _ _ => X.1.bk T m j) (fun j hj _ => ?_) (fun r _ => ea r)) hN.2.1 (fun r _ => eh r)
    by_cases e : j = i
    · rw [e]
      exact ⟨e2.trans hB.1.symm, X.rf _ _, fun q _ => sr q⟩
    · obtain ⟨s1, s2, -⟩ := so j hj e
      exact ⟨(s1 2).2.1, (s1 0).1, fun q _ => (s2 q).2.1⟩
  · have ecl : cl_ M' T = cl_ M T := funext (fun c => X.1.cl T c)
    rw [X.1.bk]
    by_cases e : j = i
    · rw [e, ecl]
      exact ⟨hk, fz⟩
    · obtain ⟨s1, s2, s3, s4⟩ := so j hj e
      have g := hZ j hj (by rcases hz with z | z; exact z; exact absurd z e)
      exact ⟨g.1, FZ_.ak X2 hS s1 (fun q _ => (s2 q).2.1) s3 s4 g.2⟩
theorem TI_.zmono {Z' : Nat → Prop} (h : TI_ ow M T nc m R sz kk Z) (hz : ∀ j, j ≤ m → Z' j → Z j) : TI_ ow M T nc m R sz kk Z' := ⟨h.1, h.2.1, fun j hj z => h.2.2.1 j hj (hz j hj z), h.2.2.2⟩
/-- an empty frame is none -/
theorem TV_.void (h : TH_ M T m R kk) (hd : kk d = 0) : TV_ M T m R kk (hm_ M T) d := ⟨fun i hi _ => h.1 i hi, fun i r hi _ => h.2.1 i r hi, fun i r hi hr e => by
  have q := h.2.2.1 i r hi hr e
  refine ⟨fun z => ?_, q⟩
  obtain ⟨j, hj, -⟩ := q
  rw [z, hd] at hj
  omega, h.2.2.2.1, h.2.2.2.2⟩
/-- homes behind a removed frame are as they are to be, if they were so before -/
theorem rm_home {vh' : Nat → Int32} (g : TV_ M T m R kk vh d) (hm2 : m ≤ 200) (hd : d < m) {r : Nat} (hr : r < R) (a1 : (∃ f, d ≤ f ∧ f < m - 1 ∧ sh_ d (vh r) = nI f) → vh' r = sh_ d (vh r)) (a2 : ¬ (∃ f, d ≤ f ∧ f < m - 1 ∧ sh_ d (vh r) = nI f) → vh' r = vh r) : vh' r = sh_ d (vh r) := by
  have n12 := sh_n d (by omega)
  by_cases q : ∃ f, d ≤ f ∧ f < m - 1 ∧ sh_ d (vh r) = nI f
  · exact a1 q
  · rw [a2 q]
    rcases g.2.2.2.1 r hr with z | z | ⟨i, hi, z⟩
    · rw [z, n12.1]
    · rw [z, n12.2]
    · obtain ⟨hid, -⟩ := g.2.2.1 i r hi hr z
      rw [z, sh_i (by omega) (by omega) hid]
      by_cases h : i < d
      · rw [if_pos h]
      · refine absurd ⟨i - 1, by omega, by omega, ?_⟩ q
        rw [z, sh_i (by omega) (by omega) hid, if_neg h]
/-- an empty frame removed -/
theorem TI_.remove {K : Mm → Prop} (h : TI_ ow M T nc m R sz kk Z) (hd : d < m) (h0 : kk d = 0) (hK : ∀ M', Gw_ (AK_ ow M T) M M' → M'.1 = M.1 → TI_ ow M' T nc (m - 1) R sz (sk_ d kk) (sk_ d Z) → K M') : wp_X8_removeFrame T (nI d) M K := by
  obtain ⟨hS, hH, hZ, hN, hC⟩ := h
  have V := TV_.void hH h0
  refine sp_removeV hS hd hN.2.1 V hZ (fun M' X e1 S' V' Z' _ a1 a2 => ?_)
  have e : m = m - 1 + 1 := by omega
  rw [show (TV_ M' T (m - 1) R (sk_ d kk) (fun r => sh_ d (hm_ M T r)) m) = TV_ M' T (m - 1) R (sk_ d kk) (fun r => sh_ d (hm_ M T r)) (m - 1 + 1) by rw [← e]] at V'
  exact hK M' X e1 ⟨S', V'.th hN.2.1 (fun r hr => rm_home (vh' := hm_ M' T) V hS.m2 hd hr (a1 r hr) (a2 r hr)), Z', hN.ak X hS, hC.ak X hS⟩
/-- the rows of a block in another order -/
theorem TI_.perm (h : TI_ ow M T nc m R sz kk Z) (hi : i ≤ m) (hX : Ex_ (fun b => b = rf_ M (rf_ M T 4) 1 ∨ b = rf_ M (bk_ M T m i) 0 ∨ b = rf_ M (rf_ M T 4) 0) M M') (hp : (sg_ (it_ M' (rf_ M (bk_ M T m i) 0)) 0 (kk i)).Perm (sg_ (it_ M (rf_ M (bk_ M T m i) 0)) 0 (kk i))) (hZi : ∀ j, j ≤ m → Z j → j ≠ i) : TI_ ow M' T nc m R sz kk Z ∧ Gw_ (AK_ ow M T) M M' := by
  obtain ⟨hS, hH, hZ, hN, hC⟩ := h
  obtain ⟨b0, b1, bz⟩ := hS.bo i
  obtain ⟨t0, t1, t2, t3, t4, t5⟩ := hS.t
  have hb := hS.bk i
  have hT := hS.kT
  have s := hS.sh.sor t4.1
  have X2 : Gw_ (AK_ ow M T) M M' := hX.gw.mono (fun b _ hb' => by
    rcases hb' with e | e | e
    · rw [e]; exact own_AK s.2 (Or.inr (Or.inl t4.1))
    · rw [e]; exact own_AK b0 (Or.inl hb)
    · exact Or.inr (Or.inr (Or.inl ⟨by rw [e]; exact s.1.1, by rw [e, s.1.2.2]; exact t4.1⟩)))
  have no : ∀ {a k c n : Nat}, own_ ow M a k c n → kd_ M a ≠ 9 → (a ≠ bk_ M T m i ∨ k ≠ 0) → ¬ (rf_ M a k = rf_ M (rf_ M T 4) 1 ∨ rf_ M a k = rf_ M (bk_ M T m i) 0 ∨ rf_ M a k = rf_ M (rf_ M T 4) 0) := fun h h9 hne e => by
    rcases e with e | e | e
    · exact own_ne h s.2 (Or.inl (fun e => h9 (by rw [e]; exact t4.1))) e
    · exact own_ne h b0 hne e
    · exact own_ne h s.1 (Or.inl (fun e => h9 (by rw [e]; exact t4.1))) e
  have no2 : ∀ {b : Nat}, kd_ M b ≠ 20 → kd_ M b ≠ 22 → ¬ (b = rf_ M (rf_ M T 4) 1 ∨ b = rf_ M (bk_ M T m i) 0 ∨ b = rf_ M (rf_ M T 4) 0) := fun h20 h22 e => by
    rcases e with e | e | e
    · exact h20 (by rw [e]; exact s.2.1)
    · exact h20 (by rw [e]; exact b0.1)
    · exact h22 (by rw [e]; exact s.1.1)
  have hsj : ∀ j, j ≤ m → j ≠ i → Sa_ M M' (bk_ M T m j) ∧ Sa_ M M' (rf_ M (bk_ M T m j) 0) ∧ Sa_ M M' (rf_ M (bk_ M T m j) 1) ∧ ∀ q, q < 8 → Sa_ M M' (rf_ M (rf_ M (bk_ M T m j) 1) q) := fun j hj hji => by
    obtain ⟨c0, c1, cz⟩ := hS.bo j
    have hbj := hS.bk j
    have k1 := c1.1
    exact ⟨hX.sa (no2 (by omega) (by omega)), hX.sa (no c0 (by omega) (Or.inl (hS.bkne hj hi hji))), hX.sa (no2 (by omega) (by omega)), fun q hq => hX.sa (no2 (by rw [(cz q hq).1]; decide) (by rw [(cz q hq).1]; decide))⟩
  have hmb : ∀ r, mb_ M' (bk_ M T m i) (kk i) r ↔ mb_ M (bk_ M T m i) (kk i) r := fun r => by
    rw [mb_sg, mb_sg, hX.rf]
    exact hp.mem_iff
  have eal := fun r => ak_al X2 hS r
  have ehm : ∀ r, hm_ M' T r = hm_ M T r := fun r => by
    unfold hm_
    rw [hX.rf]
    exact hX.it (no t3 (by omega) (Or.inr (by decide))) r
  have h2 : it_ M' (bk_ M T m i) 2 = it_ M (bk_ M T m i) 2 := hX.it (no2 (by omega) (by omega)) 2
  refine ⟨⟨hS.ex hX (fun b hb' => ?_), ⟨fun j hj => ?_, fun j r hj hr hm => ?_, fun j r hj hr hm => ?_, fun r hr => by rw [ehm]; exact hH.2.2.2.1 r hr, fun r hr e => by rw [ehm] at e; rw [eal]; exact hH.2.2.2.2 r hr e⟩, fun j hj hz => ?_, hN.ak X2 hS, hC.ak X2 hS⟩, X2⟩
  · rcases hb' with e | e | e
    · rw [e, s.2.1]; decide
    · rw [e, b0.1]; decide
    · rw [e, s.1.1]; decide
  · rw [hX.1.bk]
    by_cases e : j = i
    · rw [e]
      have hB := hH.1 i hi
      refine ⟨h2.trans hB.1, hB.2.1, fun q hq => ?_⟩
      rw [hX.rf]
      have q1 : it_ M' (rf_ M (bk_ M T m i) 0) q ∈ sg_ (it_ M' (rf_ M (bk_ M T m i) 0)) 0 (kk i) := sg_mem.mpr ⟨q, by omega, by omega, rfl⟩
      obtain ⟨q2, -, h3, h4⟩ := sg_mem.mp (hp.mem_iff.mp q1)
      rw [← h4]
      exact hB.2.2 q2 (by omega)
    · obtain ⟨s1, s2, -⟩ := hsj j hj e
      exact BR_sa (s1 2).2.1 (s1 0).1 (fun q _ => (s2 q).2.1) (hH.1 j hj)
  · rw [hX.1.bk] at hm
    rw [ehm]
    by_cases e : j = i
    · rw [e] at hm ⊢
      exact hH.2.1 i r hi hr ((hmb r).mp hm)
    · obtain ⟨s1, s2, -⟩ := hsj j hj e
      exact hH.2.1 j r hj hr ((mb_sa (s1 0).1 (fun q _ => (s2 q).2.1)).mp hm)
  · rw [ehm] at hm
    rw [hX.1.bk]
    have g := hH.2.2.1 j r hj hr hm
    by_cases e : j = i
    · rw [e] at g ⊢
      exact (hmb r).mpr g
    · obtain ⟨s1, s2, -⟩ := hsj j (by omega) e
      exact (mb_sa (s1 0).1 (fun q _ => (s2 q).2.1)).mpr g
  · obtain ⟨s1, s2, s3, s4⟩ := hsj j hj (hZi j hj hz)
    rw [hX.1.bk]
    have g := hZ j hj hz
    exact ⟨g.1, FZ_.ak X2 hS s1 (fun q _ => (s2 q).2.1) s3 s4 g.2⟩
end CB
