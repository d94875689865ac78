/-! the object's methods that only look -/
section FC
variable {ow : Nat → Nat × Nat} {M M' : Mm} {F nc m R sz i c r : Nat} {kk : Nat → Nat} {Z : Nat → Prop}
/-- the zone of a column of a frame; whether NULL, and the value -/
def zo_ (M : Mm) (T i c : Nat) : Nat := rf_ M (rf_ M (el_ M (rf_ M T 1) i) 1) c
def nu_ (M : Mm) (T c r : Nat) : Int32 := it_ M (rf_ M (cl_ M T c) 1) r
def vl_ (M : Mm) (T c r : Nat) : Int32 := it_ M (rf_ M (cl_ M T c) 0) r
theorem sp_needColumn {K : Mm → Prop} (hF : kd_ M F = 12) (hS : TS_ ow M (rf_ M F 0) nc m) (hc : c < nc) (hK : K M) : wp_X10_needColumn F (nI c) M K := by
  have n8 := hS.nc8
  refine ⟨hF, fun z => ?_, fun _ => ⟨hS.kT, hS.t.1.1, sp_size hS.lc (fun _ => ⟨fun _ => hK, fun z => z ((lt_nI (by omega) (by omega)).mpr hc)⟩)⟩⟩
  rw [show (0 : Int32) = nI 0 from rfl, lt_nI (by omega) (by omega)] at z
  omega
theorem sp_needRow {K : Mm → Prop} (hF : kd_ M F = 12) (h : TI_ ow M (rf_ M F 0) nc m R sz kk Z) (hr : r < R) (hK : K M) : wp_X10_needRow F (nI r) M K := by
  have hR := h.2.2.2.1.2.1
  refine ⟨hF, fun z => ?_, fun _ => ⟨h.1.kT, fun _ => hK, fun z => ?_⟩⟩
  · rw [show (0 : Int32) = nI 0 from rfl, lt_nI (by omega) (by omega)] at z
    omega
  · rw [h.2.2.2.1.1, lt_nI (by omega) (by omega)] at z
    omega
theorem sp_needFrame {K : Mm → Prop} (hF : kd_ M F = 12) (hS : TS_ ow M (rf_ M F 0) nc m) (hi : i < m) (hK : K M) : wp_X10_needFrame F (nI i) M K := by
  have m2 := hS.m2
  refine ⟨hF, fun z => ?_, fun _ => ⟨hS.kT, hS.t.2.1.1, sp_size hS.lf (fun _ => ⟨fun _ => hK, fun z => z ((lt_nI (by omega) (by omega)).mpr hi)⟩)⟩⟩
  rw [show (0 : Int32) = nI 0 from rfl, lt_nI (by omega) (by omega)] at z
  omega
theorem sp_needRoom {K : Mm → Prop} (hF : kd_ M F = 12) (h : TI_ ow M (rf_ M F 0) nc m R sz kk Z) (hr : R < 600) (hK : K M) : wp_X10_needRoom F M K := by
  refine ⟨hF, h.1.kT, fun _ => hK, fun z => ?_⟩
  rw [h.2.2.2.1.1] at z
  exact z ((lt_nI (b := 600) (by omega) (by omega)).mpr hr)
theorem zo_k (hS : TS_ ow M (rf_ M F 0) nc m) (hi : i < m) (hc : c < nc) : kd_ M (zo_ M (rf_ M F 0) i c) = 11 := by
  have b := hS.bo i
  have e : bk_ M (rf_ M F 0) m i = el_ M (rf_ M (rf_ M F 0) 1) i := if_pos hi
  rw [e] at b
  exact (b.2.2 c (by have := hS.nc8; omega)).1
theorem sp_zoneOf {K : Mm → Nat → Prop} (hF : kd_ M F = 12) (hS : TS_ ow M (rf_ M F 0) nc m) (hi : i < m) (hc : c < nc) (hK : K M (zo_ M (rf_ M F 0) i c)) : wp_X10_zoneOf F (nI i) (nI c) M K := by
  have b := hS.bo i
  have e : bk_ M (rf_ M F 0) m i = el_ M (rf_ M (rf_ M F 0) 1) i := if_pos hi
  have n8 := hS.nc8
  rw [e] at b
  refine ⟨hF, sp_needFrame hF hS hi (fun _ => sp_needColumn hF hS hc (fun _ => ⟨hS.kT, hS.t.2.1.1, sp_get hS.lf hi (by decide) (fun _ => ⟨hS.lf.el hi, b.2.1.1, ?_, ?_, ?_⟩)⟩))⟩
  · rw [b.2.1.2.1]; exact vi_ (by omega) (by decide)
  · rw [ix_nI (by omega)]; exact zo_k hS hi hc
  · rw [ix_nI (by omega)]; exact hK
theorem sp_rows {K : Mm → Int32 → Prop} (hF : kd_ M F = 12) (h : TI_ ow M (rf_ M F 0) nc m R sz kk Z) (hK : K M (nI R)) : wp_X10_rows F M K := ⟨hF, h.1.kT, by rw [h.2.2.2.1.1]; exact hK⟩
theorem sp_alive {K : Mm → Int32 → Prop} (hF : kd_ M F = 12) (h : TI_ ow M (rf_ M F 0) nc m R sz kk Z) (hK : K M (nI (lvn_ (al_ M (rf_ M F 0)) R))) : wp_X10_alive F M K := ⟨hF, h.1.kT, by rw [h.2.2.2.1.2.2.2.2.2.2]; exact hK⟩
theorem sp_frames {K : Mm → Int32 → Prop} (hF : kd_ M F = 12) (hS : TS_ ow M (rf_ M F 0) nc m) (hK : K M (nI m)) : wp_X10_frames F M K := ⟨hF, hS.kT, hS.t.2.1.1, sp_size hS.lf (fun _ => hK)⟩
theorem sp_isAlive {K : Mm → Int32 → Prop} (hF : kd_ M F = 12) (h : TI_ ow M (rf_ M F 0) nc m R sz kk Z) (hr : r < R) (hK : K M (al_ M (rf_ M F 0) r)) : wp_X10_isAlive F (nI r) M K := by
  have hR := h.2.2.2.1.2.1
  have t := h.1.t
  refine ⟨hF, sp_needRow hF h hr (fun _ => ⟨h.1.kT, t.2.2.1.1, by rw [t.2.2.1.2.1]; exact vi_ (by omega) (by decide), fun _ => ?_⟩)⟩
  rw [ix_nI (by omega)]
  exact hK
theorem sp_isNull {K : Mm → Int32 → Prop} (hF : kd_ M F = 12) (h : TI_ ow M (rf_ M F 0) nc m R sz kk Z) (hr : r < R) (hc : c < nc) (hK : K M (nu_ M (rf_ M F 0) c r)) : wp_X10_isNull F (nI r) (nI c) M K := by
  have hR := h.2.2.2.1.2.1
  have hS := h.1
  have o := (hS.co hc).2
  refine ⟨hF, sp_needRow hF h hr (fun _ => sp_needColumn hF hS hc (fun _ => ⟨hS.kT, hS.t.1.1, sp_get hS.lc hc (by decide) (fun _ => ⟨hS.cl hc, o.1, ?_, fun _ => ?_⟩)⟩))⟩
  · have e := o.2.1
    unfold cl_ at e
    rw [e]; exact vi_ (by omega) (by decide)
  · rw [ix_nI (by omega)]
    exact hK
theorem sp_valueOf {K : Mm → Int32 → Prop} (hF : kd_ M F = 12) (h : TI_ ow M (rf_ M F 0) nc m R sz kk Z) (hr : r < R) (hc : c < nc) (hK : K M (vl_ M (rf_ M F 0) c r)) : wp_X10_valueOf F (nI r) (nI c) M K := by
  have hR := h.2.2.2.1.2.1
  have hS := h.1
  have o := (hS.co hc).1
  refine ⟨hF, sp_needRow hF h hr (fun _ => sp_needColumn hF hS hc (fun _ => ⟨hS.kT, hS.t.1.1, sp_get hS.lc hc (by decide) (fun _ => ⟨hS.cl hc, o.1, ?_, ?_⟩)⟩))⟩
  · have e := o.2.1
    unfold cl_ at e
    rw [e]; exact vi_ (by omega) (by decide)
  · rw [ix_nI (by omega)]
    exact hK
theorem sp_frameOf {K : Mm → Int32 → Prop} (hF : kd_ M F = 12) (h : TI_ ow M (rf_ M F 0) nc m R sz kk Z) (hr : r < R) (hK : K M (hm_ M (rf_ M F 0) r)) : wp_X10_frameOf F (nI r) M K := by
  have hR := h.2.2.2.1.2.1
  have t := h.1.t
  refine ⟨hF, sp_needRow hF h hr (fun _ => ⟨h.1.kT, t.2.2.2.1.1, by rw [t.2.2.2.1.2.1]; exact vi_ (by omega) (by decide), ?_⟩)⟩
  rw [ix_nI (by omega)]
  exact hK
theorem sp_rowsIn {K : Mm → Int32 → Prop} (hF : kd_ M F = 12) (h : TI_ ow M (rf_ M F 0) nc m R sz kk Z) (hi : i < m) (hK : K M (nI (kk i))) : wp_X10_rowsIn F (nI i) M K := by
  have hS := h.1
  have hB := h.2.1.1 i (by omega)
  have e : bk_ M (rf_ M F 0) m i = el_ M (rf_ M (rf_ M F 0) 1) i := if_pos hi
  rw [e] at hB
  refine ⟨hF, sp_needFrame hF hS hi (fun _ => ⟨hS.kT, hS.t.2.1.1, sp_get hS.lf hi (by decide) (fun _ => ⟨hS.lf.el hi, ?_⟩)⟩)⟩
  rw [hB.1]
  exact hK
theorem sp_rowAt {K : Mm → Int32 → Prop} {j : Nat} (hF : kd_ M F = 12) (h : TI_ ow M (rf_ M F 0) nc m R sz kk Z) (hi : i < m) (hj : j < kk i) (hK : K M (it_ M (rf_ M (bk_ M (rf_ M F 0) m i) 0) j)) : wp_X10_rowAt F (nI i) (nI j) M K := by
  have hS := h.1
  have hB := h.2.1.1 i (by omega)
  have b0 := (hS.bo i).1
  have e : bk_ M (rf_ M F 0) m i = el_ M (rf_ M (rf_ M F 0) 1) i := if_pos hi
  have hk6 := hB.2.1
  rw [e] at hB hK b0
  refine ⟨hF, sp_needFrame hF hS hi (fun _ => ⟨hS.kT, hS.t.2.1.1, sp_get hS.lf hi (by decide) (fun _ => ⟨hS.lf.el hi, fun z => ?_, fun _ => ?_⟩)⟩)⟩
  · rw [show (0 : Int32) = nI 0 from rfl, lt_nI (by omega) (by omega)] at z
    omega
  · rw [hB.1, lt_nI (by omega) (by omega), ix_nI (by omega)]
    exact ⟨fun _ => ⟨b0.1, by rw [b0.2.1]; exact vi_ (by omega) (by decide), hK⟩, fun z => z hj⟩
theorem sp_formOf {K : Mm → Int32 → Prop} (hF : kd_ M F = 12) (hS : TS_ ow M (rf_ M F 0) nc m) (hi : i < m) (hc : c < nc) (hK : K M (it_ M (zo_ M (rf_ M F 0) i c) 6)) : wp_X10_formOf F (nI i) (nI c) M K := ⟨hF, sp_zoneOf hF hS hi hc (fun _ => ⟨zo_k hS hi hc, hK⟩)⟩
theorem sp_nulls {K : Mm → Int32 → Prop} (hF : kd_ M F = 12) (hS : TS_ ow M (rf_ M F 0) nc m) (hi : i < m) (hc : c < nc) (hK : K M (it_ M (zo_ M (rf_ M F 0) i c) 1)) : wp_X10_nulls F (nI i) (nI c) M K := ⟨hF, sp_zoneOf hF hS hi hc (fun _ => ⟨zo_k hS hi hc, hK⟩)⟩
theorem sp_distinct {K : Mm → Int32 → Prop} (hF : kd_ M F = 12) (hS : TS_ ow M (rf_ M F 0) nc m) (hi : i < m) (hc : c < nc) (hK : K M (it_ M (zo_ M (rf_ M F 0) i c) 2)) : wp_X10_distinct F (nI i) (nI c) M K := ⟨hF, sp_zoneOf hF hS hi hc (fun _ => ⟨zo_k hS hi hc, hK⟩)⟩
theorem sp_runs {K : Mm → Int32 → Prop} (hF : kd_ M F = 12) (hS : TS_ ow M (rf_ M F 0) nc m) (hi : i < m) (hc : c < nc) (hK : K M (it_ M (zo_ M (rf_ M F 0) i c) 3)) : wp_X10_runs F (nI i) (nI c) M K := ⟨hF, sp_zoneOf hF hS hi hc (fun _ => ⟨zo_k hS hi hc, hK⟩)⟩
theorem sp_least {K : Mm → Int32 → Prop} (hF : kd_ M F = 12) (hS : TS_ ow M (rf_ M F 0) nc m) (hi : i < m) (hc : c < nc) (hK : K M (it_ M (zo_ M (rf_ M F 0) i c) 4)) : wp_X10_least F (nI i) (nI c) M K := ⟨hF, sp_zoneOf hF hS hi hc (fun _ => ⟨zo_k hS hi hc, hK⟩)⟩
theorem sp_greatest {K : Mm → Int32 → Prop} (hF : kd_ M F = 12) (hS : TS_ ow M (rf_ M F 0) nc m) (hi : i < m) (hc : c < nc) (hK : K M (it_ M (zo_ M (rf_ M F 0) i c) 5)) : wp_X10_greatest F (nI i) (nI c) M K := ⟨hF, sp_zoneOf hF hS hi hc (fun _ => ⟨zo_k hS hi hc, hK⟩)⟩
theorem sp_bytesAs {K : Mm → Int32 → Prop} {o : Nat} (hF : kd_ M F = 12) (hS : TS_ ow M (rf_ M F 0) nc m) (hi : i < m) (hc : c < nc) (ho : o < 5) (hK : K M (bz_F M (zo_ M (rf_ M F 0) i c) (nI o))) : wp_X10_bytesAs F (nI i) (nI c) (nI o) M K := by
  refine ⟨hF, sp_zoneOf hF hS hi hc (fun _ => ⟨zo_k hS hi hc, fun z => ?_, fun _ => ⟨fun _ => sp_bytesIn (zo_k hS hi hc) (fun _ => hK), fun z => z ((lt_nI (b := 5) (by omega) (by omega)).mpr ho)⟩⟩)⟩
  rw [show (0 : Int32) = nI 0 from rfl, lt_nI (by omega) (by omega)] at z
  omega
theorem sp_bytes {K : Mm → Int32 → Prop} (hF : kd_ M F = 12) (hS : TS_ ow M (rf_ M F 0) nc m) (hi : i < m) (hK : K M (it_ M (bk_ M (rf_ M F 0) m i) 3)) : wp_X10_bytes F (nI i) M K := by
  have e : bk_ M (rf_ M F 0) m i = el_ M (rf_ M (rf_ M F 0) 1) i := if_pos hi
  rw [e] at hK
  exact ⟨hF, sp_needFrame hF hS hi (fun _ => ⟨hS.kT, hS.t.2.1.1, sp_get hS.lf hi (by decide) (fun _ => ⟨hS.lf.el hi, hK⟩)⟩)⟩
end FC
/-! the bitmaps' bytes -/
def bmi_ (M : Mm) (T c : Nat) : Nat → Int32
  | 0 => 0
  | f + 1 => bmi_ M T c f + (if it_ M (cl_ M T c) 2 = 0 then 0 else zb_ (it_ M (zo_ M T f c) 0) (it_ M (zo_ M T f c) 2))
def bmt_ (M : Mm) (T m : Nat) : Nat → Int32
  | 0 => 0
  | c + 1 => bmt_ M T m c + bmi_ M T c m
theorem bmi_0 {M : Mm} {T c : Nat} (h : it_ M (cl_ M T c) 2 = 0) : ∀ f, bmi_ M T c f = 0 := by
  intro f
  induction f with
  | zero => rfl
  | succ f ih =>
    unfold bmi_
    rw [ih, if_pos h]
    rfl
section BB
variable {ow : Nat → Nat × Nat} {M M' : Mm} {T F nc m R sz i c r : Nat} {kk : Nat → Nat}
theorem TI_.zn (h : TI_ ow M T nc m R sz kk (fun j => j < m)) (hi : i < m) (hc : c < nc) : Zn_ M (zo_ M T i c) (rf_ M (bk_ M T m i) 0) (kk i) (cl_ M T c) := by
  have g := (h.2.2.1 i (by omega) hi).2.1 c hc
  have e : bk_ M T m i = el_ M (rf_ M T 1) i := if_pos hi
  unfold zo_
  rw [e] at g ⊢
  exact g
theorem bmi_le (h : TI_ ow M T nc m R sz kk (fun j => j < m)) (hc : c < nc) : ∀ f, f ≤ m → ∃ b, b ≤ 128 * f ∧ bmi_ M T c f = nI b := by
  intro f
  induction f with
  | zero => intro _; exact ⟨0, by omega, rfl⟩
  | succ f ih =>
    intro hf
    obtain ⟨b, hb, eb⟩ := ih (by omega)
    have g := h.zn (i := f) (by omega) hc
    have hk6 := (h.2.1.1 f (by omega)).2.1
    obtain ⟨g1, ⟨nc', dc, rn, fm, a1, a2, a3, a4, a5, a6, a7, a8, -⟩, -⟩ := g
    obtain ⟨b2, hb2, eb2⟩ := zb_le (k := kk f) (dc := dc) hk6 (by omega)
    unfold bmi_
    rw [eb, g1, a2]
    by_cases e : it_ M (cl_ M T c) 2 = 0
    · rw [if_pos e]
      exact ⟨b, by omega, nI_add b 0⟩
    · rw [if_neg e, eb2]
      exact ⟨b + b2, by omega, nI_add b b2⟩
theorem bmt_le (h : TI_ ow M T nc m R sz kk (fun j => j < m)) : ∀ c, c ≤ nc → ∃ b, b ≤ 128 * m * c ∧ bmt_ M T m c = nI b := by
  intro c
  induction c with
  | zero => intro _; exact ⟨0, by omega, rfl⟩
  | succ c ih =>
    intro hc
    obtain ⟨b, hb, eb⟩ := ih (by omega)
    obtain ⟨b2, hb2, eb2⟩ := bmi_le h (c := c) (by omega) m (Nat.le_refl m)
    unfold bmt_
    rw [eb, eb2]
    exact ⟨b + b2, by rw [Nat.mul_succ]; omega, nI_add b b2⟩
theorem sp_bob {K : Mm → Int32 → Prop} (h : TI_ ow M T nc m R sz kk (fun j => j < m)) (hK : K M (bmt_ M T m nc)) : wp_X8_bytesOfBitmaps T M K := by
  have hS := h.1
  have t := hS.t
  have n8 := hS.nc8
  have m2 := hS.m2
  have key1 : ∀ (E : Int32 → Mm → Prop) (c : Nat) (x0 : Int32), c < nc → E (x0 + bmi_ M T c m) M → ∀ (n f : Nat), f ≤ m → m - f < n → lp_X8_bytesOfBitmaps_17 T (nI c) K E n (x0 + bmi_ M T c f) (nI f) M := by
    intro E c x0 hc hE n
    induction n with
    | zero => intro f _ h; omega
    | succ n ih =>
      intro f hf hn
      have q1 : f < m → m - (f + 1) < n := by omega
      unfold lp_X8_bytesOfBitmaps_17
      refine ⟨t.2.1.1, sp_size hS.lf (fun _ => ⟨fun hh => ?_, fun hh => ⟨t.1.1, sp_get hS.lc hc (by decide) (fun _ => ⟨hS.cl hc, fun _ => ⟨fun h0 => ?_, fun h0 => ?_⟩⟩)⟩⟩)⟩
      · rw [le_nI (by omega) (by omega)] at hh
        have : f = m := by omega
        rw [this]
        exact hE
      · rw [bmi_0 h0] at hE ⊢
        exact hE
      · rw [le_nI (by omega) (by omega)] at hh
        have hfm : f < m := by omega
        have e : bk_ M T m f = el_ M (rf_ M T 1) f := if_pos hfm
        have b := hS.bo f
        rw [e] at b
        refine ⟨t.2.1.1, sp_get hS.lf hfm (by decide) (fun _ => ⟨hS.lf.el hfm, b.2.1.1, ?_, ?_, ?_⟩)⟩
        · rw [b.2.1.2.1]; exact vi_ (by omega) (by decide)
        · rw [ix_nI (by omega)]; exact (b.2.2 c (by omega)).1
        · rw [ix_nI (by omega), nI_p1]
          refine sp_zbob (b.2.2 c (by omega)).1 (fun _ => ?_)
          have e2 : bmi_ M T c (f + 1) = bmi_ M T c f + zb_ (it_ M (rf_ M (rf_ M (el_ M (rf_ M T 1) f) 1) c) 0) (it_ M (rf_ M (rf_ M (el_ M (rf_ M T 1) f) 1) c) 2) := by
            show bmi_ M T c f + (if it_ M (cl_ M T c) 2 = 0 then 0 else _) = _
            rw [if_neg (show ¬ it_ M (cl_ M T c) 2 = 0 from h0)]
            rfl
          have g := ih (f + 1) (by omega) (q1 hfm)
          rw [e2, ← Int32.add_assoc] at g
          exact g
  have key2 : ∀ (n c : Nat), c ≤ nc → nc - c < n → lp_X8_bytesOfBitmaps_4 T K (fun xv55 M53 => Nk_ M M53 → (K M53 xv55)) n (bmt_ M T m c) (nI c) M := by
    intro n
    induction n with
    | zero => intro c _ h; omega
    | succ n ih =>
      intro c hc hn
      have q1 : c < nc → nc - (c + 1) < n := by omega
      unfold lp_X8_bytesOfBitmaps_4
      refine ⟨t.1.1, sp_size hS.lc (fun _ => ⟨fun hh => ?_, fun hh => ⟨m + 1, ?_⟩⟩)⟩
      · rw [le_nI (by omega) (by omega)] at hh
        have : c = nc := by omega
        rw [this]
        exact fun _ => hK
      · rw [le_nI (by omega) (by omega)] at hh
        have g := key1 (fun xv49 M47 => Nk_ M M47 → lp_X8_bytesOfBitmaps_4 T K (fun xv55 M53 => Nk_ M M53 → (K M53 xv55)) n xv49 ((nI c) + (1 : Int32)) M47) c (bmt_ M T m c) (by omega) (fun _ => by
          rw [nI_p1]
          exact ih (c + 1) (by omega) (q1 (by omega))) (m + 1) 0 (by omega) (by omega)
        have e0 : bmt_ M T m c + bmi_ M T c 0 = bmt_ M T m c := Int32.add_zero _
        rw [e0] at g
        exact g
  exact ⟨hS.kT, nc + 1, key2 (nc + 1) 0 (by omega) (by omega)⟩
theorem sp_bitmapBytes {K : Mm → Int32 → Prop} (hF : kd_ M F = 12) (h : TI_ ow M (rf_ M F 0) nc m R sz kk (fun j => j < m)) (hK : K M (bmt_ M (rf_ M F 0) m nc)) : wp_X10_bitmapBytes F M K := ⟨hF, h.1.kT, sp_bob h (fun _ => hK)⟩
end BB
