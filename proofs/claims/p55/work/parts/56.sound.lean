/-! the law's first check: the table is sound -/
section TB
variable {ow : Nat → Nat × Nat} {M : Mm} {F nc m R sz : Nat} {kk : Nat → Nat} {K : Mm → Int32 → Prop}
theorem ts_cols (hF : kd_ M F = 12) (h : TI_ ow M (rf_ M F 0) nc m R sz kk (fun j => j < m)) {x2 : Int32} {r : Nat} (hr : r < R) (E : Mm → Prop) (hE : E M) : ∀ (n c : Nat), c ≤ nc → nc - c < n → lp_L_isTableSound_71 F (nI nc) x2 (nI r) (hm_ M (rf_ M F 0) r) K E n (nI c) M := by
  have hS := h.1
  have n8 := hS.nc8
  have hR := h.2.2.2.1.2.1
  intro n
  induction n with
  | zero => intro c _ h; omega
  | succ n ih =>
    intro c hcn hn
    have q1 : c < nc → nc - (c + 1) < n := by omega
    unfold lp_L_isTableSound_71
    rw [le_nI (by omega) (by omega)]
    refine ⟨fun _ => hE, fun hc => ?_⟩
    have hc : c < nc := by omega
    have next := ih (c + 1) (by omega) (q1 hc)
    rw [← nI_p1] at next
    -- the zone's bounds
    have bnd : ¬ hm_ M (rf_ M F 0) r < 0 → ∃ f, f < m ∧ hm_ M (rf_ M F 0) r = nI f ∧ (nu_ M (rf_ M F 0) c r = 0 → (it_ M (zo_ M (rf_ M F 0) f c) 4).toInt ≤ (vl_ M (rf_ M F 0) c r).toInt ∧ (vl_ M (rf_ M F 0) c r).toInt ≤ (it_ M (zo_ M (rf_ M F 0) f c) 5).toInt) := by
      intro h0
      rcases h.2.1.2.2.2.1 r hr with z | z | ⟨f, hf, z⟩
      · exact absurd (by rw [z]; decide) h0
      · exact absurd (by rw [z]; decide) h0
      · refine ⟨f, hf, z, fun hn0 => ?_⟩
        obtain ⟨j, hj, ej⟩ := h.2.1.2.2.1 f r hf hr z
        exact (h.zn hf hc).2.2 j r hj ej (by omega) hn0
    refine sp_isNull hF h hr hc (fun _ hb => ⟨fun h0 => ⟨fun _ => next, fun hp => ?_⟩, fun h0 => sp_valueOf hF h hr hc (fun _ => ⟨fun _ => ⟨fun _ => next, fun hp => ?_⟩, fun hv => ?_⟩)⟩)
    · obtain ⟨f, hf, ef, hz⟩ := bnd hp
      obtain ⟨z1, z2⟩ := hz h0
      rw [ef] at next ⊢
      refine sp_isNull hF h hr hc (fun _ _ => ⟨fun _ => sp_valueOf hF h hr hc (fun _ => sp_least hF hS hf hc (fun _ => ⟨fun hlt => ?_, fun _ => sp_valueOf hF h hr hc (fun _ => sp_greatest hF hS hf hc (fun _ => ⟨fun _ => next, fun hgt => ?_⟩))⟩)), fun _ => next⟩)
      · rw [i_lt] at hlt
        omega
      · rw [i_le] at hgt
        omega
    · obtain ⟨f, hf, ef, hz⟩ := bnd hp
      rw [ef] at next ⊢
      exact sp_isNull hF h hr hc (fun _ _ => ⟨fun z => absurd z h0, fun _ => next⟩)
    · exact absurd (h.2.2.2.2 c r hc hr h0) hv
theorem ts_rows (hF : kd_ M F = 12) (h : TI_ ow M (rf_ M F 0) nc m R sz kk (fun j => j < m)) (E : Int32 → Mm → Prop) (hE : E (nI (lvn_ (al_ M (rf_ M F 0)) R)) M) : ∀ (n r : Nat), r ≤ R → R - r < n → lp_L_isTableSound_4 F (nI nc) K E n (nI (lvn_ (al_ M (rf_ M F 0)) r)) (nI r) M := by
  have hS := h.1
  have n8 := hS.nc8
  have m2 := hS.m2
  have hR := h.2.2.2.1.2.1
  intro n
  induction n with
  | zero => intro c _ h; omega
  | succ n ih =>
    intro r hrn hn
    have q1 : r < R → R - (r + 1) < n := by omega
    unfold lp_L_isTableSound_4
    refine sp_rows hF h (fun _ => ?_)
    rw [le_nI (by omega) (by omega)]
    refine ⟨fun hc => ?_, fun hc => ?_⟩
    · have : r = R := by omega
      rw [this]; exact hE
    have hr : r < R := by omega
    have next := ih (r + 1) (by omega) (q1 hr)
    rw [← nI_p1 r] at next
    have h2 : ¬ hm_ M (rf_ M F 0) r < -2 := by
      rw [i_lt, show (-2 : Int32).toInt = -2 from rfl]
      rcases h.2.1.2.2.2.1 r hr with z | z | ⟨f, hf, z⟩
      · rw [z]; decide
      · rw [z]; decide
      · rw [z, nI_t (by omega)]; omega
    have hfr : hm_ M (rf_ M F 0) r < nI m := by
      rw [i_lt, nI_t (by omega)]
      rcases h.2.1.2.2.2.1 r hr with z | z | ⟨f, hf, z⟩
      · rw [z, show (-1 : Int32).toInt = -1 from rfl]; omega
      · rw [z, show (-2 : Int32).toInt = -2 from rfl]; omega
      · rw [z, nI_t (by omega)]; omega
    refine sp_frameOf hF h hr (fun _ => sp_isAlive hF h hr (fun _ _ => ⟨fun h0 => ⟨fun z => absurd z h2, fun _ => sp_frames hF hS (fun _ => ⟨fun _ => sp_isAlive hF h hr (fun _ _ => ⟨fun _ => ⟨nc + 1, ?_⟩, fun z => absurd h0 z⟩), fun z => absurd hfr z⟩)⟩, fun h0 => ⟨fun z => absurd (h.2.1.2.2.2.2 r hr z) h0, fun _ => ⟨fun z => absurd z h2, fun _ => sp_frames hF hS (fun _ => ⟨fun _ => sp_isAlive hF h hr (fun _ _ => ⟨fun z => absurd z h0, fun _ => ⟨nc + 1, ?_⟩⟩), fun z => absurd hfr z⟩)⟩⟩⟩))
    · have e : lvn_ (al_ M (rf_ M F 0)) (r + 1) = lvn_ (al_ M (rf_ M F 0)) r + 0 := by
        show _ + (if al_ M (rf_ M F 0) r = 0 then 0 else 1) = _
        rw [if_pos h0]
      rw [e, ← nI_add] at next
      exact ts_cols hF h hr _ (fun _ => next) (nc + 1) 0 (by omega) (by omega)
    · have e : lvn_ (al_ M (rf_ M F 0)) (r + 1) = lvn_ (al_ M (rf_ M F 0)) r + 1 := by
        show _ + (if al_ M (rf_ M F 0) r = 0 then 0 else 1) = _
        rw [if_neg h0]
      rw [e, ← nI_p1] at next
      exact ts_cols hF h hr _ (fun _ => next) (nc + 1) 0 (by omega) (by omega)
theorem ts_places (hF : kd_ M F = 12) (h : TI_ ow M (rf_ M F 0) nc m R sz kk (fun j => j < m)) {x2 x3 x5 : Int32} {f : Nat} (hf : f < m) (E : Mm → Prop) (hE : E M) : ∀ (n j : Nat), j ≤ kk f → kk f - j < n → lp_L_isTableSound_184 F (nI nc) x2 x3 (nI f) x5 K E n (nI j) M := by
  have hB := h.2.1.1 f (by omega)
  have hk6 := hB.2.1
  have hR := h.2.2.2.1.2.1
  have m2 := h.1.m2
  intro n
  induction n with
  | zero => intro c _ h; omega
  | succ n ih =>
    intro j hjn hn
    have q1 : j < kk f → kk f - (j + 1) < n := by omega
    unfold lp_L_isTableSound_184
    refine sp_rowsIn hF h hf (fun _ => ?_)
    rw [le_nI (by omega) (by omega)]
    refine ⟨fun _ => hE, fun hc => ?_⟩
    have hj : j < kk f := by omega
    obtain ⟨r, hr, er⟩ := hB.2.2 j hj
    have hh : hm_ M (rf_ M F 0) r = nI f := (h.2.1.2.1 f r (by omega) (by omega) ⟨j, hj, er⟩).trans (if_pos hf)
    refine sp_rowAt hF h hf hj (fun _ => ?_)
    rw [er, nI_p1]
    exact sp_frameOf hF h hr (fun _ => ⟨fun _ => ih (j + 1) (by omega) (q1 hj), fun z => absurd hh z⟩)
theorem ts_forms (hF : kd_ M F = 12) (h : TI_ ow M (rf_ M F 0) nc m R sz kk (fun j => j < m)) {x2 x3 x5 : Int32} {f c fm : Nat} (hf : f < m) (hc : c < nc) (hfm : fm_ok M (zo_ M (rf_ M F 0) f c) fm 5) (E : Mm → Prop) (hE : E M) : ∀ (n o : Nat), o ≤ 5 → 5 - o < n → lp_L_isTableSound_242 F (nI nc) x2 x3 (nI f) x5 (nI c) (nI fm) K E n (nI o) M := by
  have hS := h.1
  obtain ⟨f5, f0, f264, fmin⟩ := hfm
  intro n
  induction n with
  | zero => intro c _ h; omega
  | succ n ih =>
    intro o ho hn
    have q1 : o < 5 → 5 - (o + 1) < n := by omega
    unfold lp_L_isTableSound_242
    refine ⟨fun _ => hE, fun hc5 => ?_⟩
    have ho5 : o < 5 := by
      have : ¬ 5 ≤ o := fun z => hc5 ((le_nI (a := 5) (by omega) (by omega)).mpr z)
      omega
    have next := ih (o + 1) (by omega) (q1 ho5)
    rw [← nI_p1] at next
    refine sp_bytesAs hF hS hf hc ho5 (fun _ => ⟨fun _ => next, fun hp => sp_bytesAs hF hS hf hc f5 (fun _ => ⟨fun hlt => ?_, fun _ => sp_bytesAs hF hS hf hc f5 (fun _ => ⟨fun he => ⟨fun _ => next, fun hno => ?_⟩, fun _ => next⟩)⟩)⟩)
    · rw [i_lt, show (0 : Int32).toInt = 0 from rfl] at hp
      rw [i_lt] at hlt
      have := (fmin o ho5 (by omega)).1
      omega
    · rw [i_lt, show (0 : Int32).toInt = 0 from rfl] at hp
      rw [le_nI (by omega) (by omega)] at hno
      have := (fmin o ho5 (by omega)).2 (by rw [he])
      omega
theorem sb_le (h : TI_ ow M (rf_ M F 0) nc m R sz kk (fun j => j < m)) {f : Nat} (hf : f < m) : ∀ c, c ≤ nc → ∃ s, s ≤ 264 * c ∧ sb_ M (bk_ M (rf_ M F 0) m f) c = nI s := by
  intro c
  induction c with
  | zero => intro _; exact ⟨0, by omega, rfl⟩
  | succ c ih =>
    intro hc
    obtain ⟨s, hs, es⟩ := ih (by omega)
    obtain ⟨-, ⟨nc', dc, rn, fm, a1, a2, a3, a4, a5, a6, a7, a8, f5, f0, f264, -⟩, -⟩ := h.zn (i := f) hf (c := c) (by omega)
    have e : bk_ M (rf_ M F 0) m f = el_ M (rf_ M (rf_ M F 0) 1) f := if_pos hf
    unfold sb_
    rw [es, e]
    show ∃ s', s' ≤ 264 * (c + 1) ∧ nI s + bz_F M (zo_ M (rf_ M F 0) f c) (it_ M (zo_ M (rf_ M F 0) f c) 6) = nI s'
    rw [a4]
    obtain ⟨g1, g2⟩ := i_nI f0
    refine ⟨s + (bz_F M (zo_ M (rf_ M F 0) f c) (nI fm)).toInt.toNat, by omega, ?_⟩
    rw [← nI_add, ← g1]
theorem ts_sums (hF : kd_ M F = 12) (h : TI_ ow M (rf_ M F 0) nc m R sz kk (fun j => j < m)) {x2 x3 : Int32} {f : Nat} (hf : f < m) (E : Int32 → Mm → Prop) (hE : E (sb_ M (bk_ M (rf_ M F 0) m f) nc) M) : ∀ (n c : Nat), c ≤ nc → nc - c < n → lp_L_isTableSound_223 F (nI nc) x2 x3 (nI f) K E n (sb_ M (bk_ M (rf_ M F 0) m f) c) (nI c) M := by
  have hS := h.1
  have n8 := hS.nc8
  have hk6 := (h.2.1.1 f (by omega)).2.1
  intro n
  induction n with
  | zero => intro c _ h; omega
  | succ n ih =>
    intro c hcn hn
    have q1 : c < nc → nc - (c + 1) < n := by omega
    unfold lp_L_isTableSound_223
    rw [le_nI (by omega) (by omega)]
    refine ⟨fun hc => ?_, fun hc => ?_⟩
    · have : c = nc := by omega
      rw [this]; exact hE
    have hc : c < nc := by omega
    have next := ih (c + 1) (by omega) (q1 hc)
    rw [← nI_p1] at next
    obtain ⟨g0, ⟨nc', dc, rn, fm, a1, a2, a3, a4, a5, a6, a7, a8, hfm⟩, -⟩ := h.zn (i := f) hf hc
    refine sp_formOf hF hS hf hc (fun _ => ⟨6, ?_⟩)
    rw [a4]
    have fin : lp_L_isTableSound_242 F (nI nc) x2 x3 (nI f) (sb_ M (bk_ M (rf_ M F 0) m f) c) (nI c) (nI fm) K (fun M230 => Nk_ M M230 → (wp_X10_bytesAs F (nI f) (nI c) (nI fm) M230 (fun M234 r235 => Nk_ M230 M234 → (wp_X10_nulls F (nI f) (nI c) M234 (fun M240 r241 => Nk_ M234 M240 → (wp_X10_distinct F (nI f) (nI c) M240 (fun M246 r247 => Nk_ M240 M246 → (wp_X10_rowsIn F (nI f) M246 (fun M252 r253 => Nk_ M246 M252 → ((r253 < (r241 + r247) → (K M252 (0 : Int32))) ∧ (¬ r253 < (r241 + r247) → (wp_X10_runs F (nI f) (nI c) M252 (fun M259 r260 => Nk_ M252 M259 → ((r260 < (1 : Int32) → (K M259 (0 : Int32))) ∧ (¬ r260 < (1 : Int32) → (wp_X10_runs F (nI f) (nI c) M259 (fun M266 r267 => Nk_ M259 M266 → (wp_X10_distinct F (nI f) (nI c) M266 (fun M272 r273 => Nk_ M266 M272 → ((r273 ≤ r267 → lp_L_isTableSound_223 F (nI nc) x2 x3 (nI f) K E n (sb_ M (bk_ M (rf_ M F 0) m f) c + r235) ((nI c) + (1 : Int32)) M272) ∧ (¬ r273 ≤ r267 → (K M272 (0 : Int32))))))))))))))))))))))) 6 (nI 0) M := by
      refine ts_forms hF h hf hc hfm _ (fun _ => sp_bytesAs hF hS hf hc hfm.1 (fun _ => sp_nulls hF hS hf hc (fun _ => sp_distinct hF hS hf hc (fun _ => sp_rowsIn hF h hf (fun _ => ?_))))) 6 0 (by omega) (by omega)
      rw [a1, a2, nI_add, lt_nI (by omega) (by omega)]
      refine ⟨fun z => absurd z (by omega), fun _ => sp_runs hF hS hf hc (fun _ => ?_)⟩
      rw [a3, show (1 : Int32) = nI 1 from rfl, lt_nI (by omega) (by omega)]
      refine ⟨fun z => absurd z (by omega), fun _ => sp_runs hF hS hf hc (fun _ => sp_distinct hF hS hf hc (fun _ => ?_))⟩
      rw [a2, a3, le_nI (by omega) (by omega)]
      refine ⟨fun _ => ?_, fun z => absurd a7 z⟩
      have e : bk_ M (rf_ M F 0) m f = el_ M (rf_ M (rf_ M F 0) 1) f := if_pos hf
      have e2 : sb_ M (bk_ M (rf_ M F 0) m f) (c + 1) = sb_ M (bk_ M (rf_ M F 0) m f) c + bz_F M (zo_ M (rf_ M F 0) f c) (nI fm) := by
        rw [← a4, e]
        rfl
      rw [e2] at next
      exact next
    exact fin
theorem ts_frames (hF : kd_ M F = 12) (h : TI_ ow M (rf_ M F 0) nc m R sz kk (fun j => j < m)) {x2 : Int32} (E : Int32 → Mm → Prop) (hE : ∀ s, s ≤ 2112 * m → E (nI s) M) : ∀ (n f s : Nat), f ≤ m → m - f < n → s ≤ 2112 * f → lp_L_isTableSound_169 F (nI nc) x2 K E n (nI s) (nI f) M := by
  have hS := h.1
  have n8 := hS.nc8
  have m2 := hS.m2
  intro n
  induction n with
  | zero => intro c s _ h; omega
  | succ n ih =>
    intro f s hfn hn hs
    have q1 : f < m → m - (f + 1) < n := by omega
    unfold lp_L_isTableSound_169
    refine sp_frames hF hS (fun _ => ?_)
    rw [le_nI (by omega) (by omega)]
    refine ⟨fun hc => hE s (by have : f = m := by omega
                               omega), fun hc => ⟨kk f + 1, ?_⟩⟩
    have hf : f < m := by omega
    have hk6 := (h.2.1.1 f (by omega)).2.1
    have hk1 := (h.2.2.1 f (by omega) hf).1
    obtain ⟨s2, hs2, es2⟩ := sb_le h hf nc (Nat.le_refl nc)
    have next := ih (f + 1) (s + s2) (by omega) (q1 hf) (by omega)
    rw [← nI_p1, ← nI_add, ← es2] at next
    refine ts_places hF h hf _ (fun _ => ⟨nc + 1, ts_sums (x2 := x2) (x3 := nI s) hF h hf _ (fun _ => sp_bytes hF hS hf (fun _ => ⟨fun _ => sp_rowsIn hF h hf (fun _ => ?_), fun z => absurd (h.2.2.1 f (by omega) hf).2.2 z⟩)) (nc + 1) 0 (by omega) (by omega)⟩) (kk f + 1) 0 (by omega) (by omega)
    rw [show (1 : Int32) = nI 1 from rfl, lt_nI (by omega) (by omega)]
    refine ⟨fun z => absurd z (by omega), fun _ => sp_rowsIn hF h hf (fun _ => ⟨fun _ => next, fun z => absurd ((le_nI (b := 64) (by omega) (by omega)).mpr hk6) z⟩)⟩
theorem sp_isTableSound (hF : kd_ M F = 12) (h : TI_ ow M (rf_ M F 0) nc m R sz kk (fun j => j < m)) (hK : K M 1) : wp_L_isTableSound F (nI nc) M K := by
  have hS := h.1
  have n8 := hS.nc8
  have m2 := hS.m2
  refine ⟨hF, R + 1, ts_rows hF h _ (fun _ => ⟨m + 1, ts_frames hF h _ (fun s hs _ => sp_alive hF h (fun _ => ⟨fun _ => sp_bitmapBytes hF h (fun _ => ?_), fun z => absurd rfl z⟩)) (m + 1) 0 0 (by omega) (by omega) (by omega)⟩) (R + 1) 0 (by omega) (by omega)⟩
  obtain ⟨b, hb, eb⟩ := bmt_le h nc (Nat.le_refl nc)
  have hb2 : b ≤ 204800 := Nat.le_trans hb (by
    calc 128 * m * nc ≤ 128 * 200 * 8 := Nat.mul_le_mul (Nat.mul_le_mul (Nat.le_refl _) m2) n8
      _ = 204800 := rfl)
  rw [eb, show (0 : Int32) = nI 0 from rfl, lt_nI (by omega) (by omega), lt_nI (by omega) (by omega)]
  exact ⟨fun z => absurd z (by omega), fun _ => ⟨fun z => absurd z (by omega), fun _ => hK⟩⟩
end TB
