/-! the law's acts -/
section AC
variable {ow ow' : Nat → Nat × Nat} {M M' : Mm} {T F Q nc m R sz nq i c r g k n : Nat} {kk cq : Nat → Nat} {A Z : Nat → Prop}
theorem TI_.size {s : Nat} (h : TI_ ow M T nc m R sz kk Z) (h4 : 4 ≤ s) (h64 : s ≤ 64) : TI_ ow (sI_ M T 6 (nI s)) T nc m R s kk Z := by
  obtain ⟨hS, hH, hZ, hN, hC⟩ := h
  have hT := hS.kT
  obtain ⟨t0, t1, t2, t3, t4, t5⟩ := hS.t
  have X : Ex_ (fun b => b = T) M (sI_ M T 6 (nI s)) := Ex_.sI _ _ _ rfl
  have nb : ∀ i, bk_ M T m i ≠ T ∧ rf_ M (bk_ M T m i) 0 ≠ T := fun i => ⟨kd_ne (hS.bk i) hT (by decide), kd_ne (hS.bo i).1.1 hT (by decide)⟩
  have eal : ∀ r, al_ (sI_ M T 6 (nI s)) T r = al_ M T r := fun r => X.it (kd_ne t2.1 hT (by decide)) r
  have ehm : ∀ r, hm_ (sI_ M T 6 (nI s)) T r = hm_ M T r := fun r => X.it (kd_ne t3.1 hT (by decide)) r
  have hv : ∀ c r, c < nc → r < R → it_ (sI_ M T 6 (nI s)) (rf_ M (cl_ M T c) 0) r = it_ M (rf_ M (cl_ M T c) 0) r ∧ it_ (sI_ M T 6 (nI s)) (rf_ M (cl_ M T c) 1) r = it_ M (rf_ M (cl_ M T c) 1) r := fun c r hc _ => ⟨X.it (kd_ne (hS.co hc).1.1 hT (by decide)) r, X.it (kd_ne (hS.co hc).2.1 hT (by decide)) r⟩
  refine ⟨hS.ex X (fun b z e => by rw [z, hT] at e; omega), hH.sa (fun i _ => X.1.bk T m i) (fun i _ => ⟨X.it (nb i).1 2, X.rf _ _, fun j _ => X.it (nb i).2 j⟩) ehm (fun r _ z => by rw [eal]; exact z), hZ.sa hS hH.1 X (fun i _ _ => nb i) (fun b z => by rw [z, hT]; exact ⟨by decide, by decide⟩) hv hN.2.1, ?_, fun c r hc hr hl => ?_⟩
  · obtain ⟨h1, h2, h3, h4', h5, h6, h7⟩ := hN
    exact ⟨by rw [it_sIk (by decide)]; exact h1, h2, it_sIs _ _ _ _, h4, h64, fun r hr => by rw [eal]; exact h6 r hr, by rw [it_sIk (by decide), lvn_congr (fun r _ => eal r)]; exact h7⟩
  · have e : cl_ (sI_ M T 6 (nI s)) T c = cl_ M T c := X.1.cl T c
    have h0 := (hv c r hc hr)
    rw [e, X.rf] at hl ⊢
    rw [h0.2] at hl
    rw [h0.1]
    exact hC c r hc hr hl
theorem sp_setSize {K : Mm → Int32 → Prop} {s : Nat} (h : GI_ ow M F nc m R sz) (hm : m ≤ 105) (h4 : 4 ≤ s) (h64 : s ≤ 64) (hK : ∀ M' ow' m' x, m' ≤ m + 1 → GI_ ow' M' F nc m' R s → K M' x) : wp_X10_setSize F (nI s) M K := by
  have f := h.f
  obtain ⟨h1, ⟨kk, h2⟩, -⟩ := id h
  have kT := h2.1.kT
  refine ⟨h1, fun z => ?_, fun _ => ⟨fun _ => ⟨kT, fun M7 e7 => ?_⟩, fun z => z ((le_nI (b := 64) (by omega) (by omega)).mpr h64)⟩⟩
  · have := (lt_nI (b := 4) (by omega) (by omega)).mp z
    omega
  · have X7 : Ex_ (fun b => b = rf_ M F 0) M M7 := by rw [e7]; exact Ex_.sI _ _ _ rfl
    have h7 : TF_ ow M7 (rf_ M F 0) nc m R s := ⟨kk, by rw [e7]; exact h2.size h4 h64⟩
    have g7 : GI_ ow M7 F nc m R s := h.ta (X7.gw.mono (fun b _ z => by rw [z]; exact Or.inr (Or.inr (Or.inr (Or.inr (Or.inl kT)))))) h7 (Nat.le_refl R)
    have e0 : rf_ M7 F 0 = rf_ M F 0 := X7.rf F 0
    refine sp_sealIfFull h7 hm (fun M8 ow8 m8 w8 X8 hm8 h8 _ => hK M8 ow8 m8 _ hm8 (g7.ta X8 (by rw [e0]; exact h8) (Nat.le_refl R)))
theorem sp_give {K : Mm → Int32 → Prop} {x : Int32} (h : GI_ ow M F nc m R sz) (hc : c < nc) (hK : ∀ M' y, GI_ ow M' F nc m R sz → K M' y) : wp_X10_give F (nI c) x M K := by
  obtain ⟨h1, ⟨kk, h2⟩, -⟩ := id h
  have hS := h2.1
  have kc := hS.cl hc
  refine ⟨h1, sp_needColumn h1 hS hc (fun _ => ⟨hS.kT, hS.t.1.1, sp_get hS.lc hc (by decide) (fun _ => ⟨kc, kc, fun M1 e1 M2 e2 _ => ?_⟩)⟩)⟩
  have X2 : Ex_ (fun b => b = cl_ M (rf_ M F 0) c) M M2 := by
    rw [e2, e1]
    exact (Ex_.sI (A := fun b => b = cl_ M (rf_ M F 0) c) M 4 x rfl).tr (Ex_.sI _ _ _ rfl)
  have g2 := h.c3 X2 (fun b hb => by rw [hb]; exact kc)
  obtain ⟨h1', ⟨kk', h2'⟩, -⟩ := id g2
  exact ⟨h2'.1.kT, sp_givenColumns h2'.1 (fun y _ => hK M2 y g2)⟩
theorem sp_add' {K : Mm → Int32 → Prop} (h : GI_ ow M F nc m R sz) (hn : 0 < nc) (hm : m ≤ 105) (hR : R < 600) (hK : ∀ M' ow' m' x, m' ≤ m + 1 → GI_ ow' M' F nc m' (R + 1) sz → K M' x) : wp_X10_add F M K := by
  obtain ⟨h1, ⟨kk, h2⟩, -⟩ := id h
  have hS := h2.1
  refine ⟨h1, hS.kT, hS.t.1.1, sp_isEmpty hS.lc hn (fun _ _ => ⟨fun _ => sp_needRoom h1 h2 hR (fun _ => ⟨hS.kT, sp_appendGiven ⟨kk, h2⟩ hR (fun M1 X1 t1 _ => ?_)⟩), fun z => z rfl⟩)⟩
  have e1 : rf_ M1 F 0 = rf_ M F 0 := X1.rf F 0
  have g1 := h.ta X1.gw t1 (Nat.le_succ R)
  have t1' : TF_ ow M1 (rf_ M1 F 0) nc m (R + 1) sz := by rw [e1]; exact t1
  obtain ⟨kk1, h1'⟩ := id t1'
  exact ⟨h1'.1.kT, sp_sealIfFull t1' hm (fun M2 ow2 m2 w2 X2 hm2 t2 _ => hK M2 ow2 m2 _ hm2 (g1.ta X2 t2 (Nat.le_refl _)))⟩
theorem sx_needRow {K : Mm → Prop} {X : Nat → Mm → Prop} (hF : kd_ M F = 12) (h : TI_ ow M (rf_ M F 0) nc m R sz kk Z) (hr : r ≤ 600) (hK : r < R → K M) (hX : X 0 M) : wx_X10_needRow F (nI r) M K X := by
  have hR := h.2.2.2.1.2.1
  refine ⟨hF, fun _ => hX, fun _ => ⟨h.1.kT, fun z => hK ?_, fun _ => hX⟩⟩
  rw [h.2.2.2.1.1, lt_nI (by omega) (by omega)] at z
  exact z
theorem sx_needFrame {K : Mm → Prop} {X : Nat → Mm → Prop} (hF : kd_ M F = 12) (hS : TS_ ow M (rf_ M F 0) nc m) (hi : i ≤ 600) (hK : i < m → K M) (hX : X 0 M) : wx_X10_needFrame F (nI i) M K X := by
  have m2 := hS.m2
  refine ⟨hF, fun _ => hX, fun _ => ⟨hS.kT, hS.t.2.1.1, sp_size hS.lf (fun _ => ⟨fun z => hK ?_, fun _ => hX⟩)⟩⟩
  rw [lt_nI (by omega) (by omega)] at z
  exact z
theorem sx_delete {K : Mm → Int32 → Prop} {X : Nat → Mm → Prop} (h : GI_ ow M F nc m R sz) (hr : r ≤ 600) (hK : ∀ M' x, GI_ ow M' F nc m R sz → K M' x) (hX : X 0 M) : wx_X10_delete F (nI r) M K X := by
  obtain ⟨h1, ⟨kk, h2⟩, -⟩ := id h
  have hS := h2.1
  refine ⟨h1, sx_needRow h1 h2 hr (fun hrR _ => ⟨hS.kT, sp_kill h2 hrR (fun M1 x X1 t1 _ _ => hK M1 x (h.ta (X1.gw.mono (fun b _ z => ?_)) ⟨kk, t1⟩ (Nat.le_refl R)))⟩) (fun _ => hX)⟩
  rcases z with z | z
  · rw [z]; exact own_TA hS.t.2.2.1 (by decide) (Or.inr (Or.inr (Or.inr (Or.inl hS.kT))))
  · rw [z]; exact Or.inr (Or.inr (Or.inr (Or.inr (Or.inl hS.kT))))
theorem sx_change {K : Mm → Int32 → Prop} {X : Nat → Mm → Prop} {v : Int32} (h : GI_ ow M F nc m R sz) (hc : c < nc) (hm : m ≤ 105) (hR : R < 600) (hr : r ≤ 600) (hK : ∀ M' ow' m' x, m' ≤ m + 1 → GI_ ow' M' F nc m' (R + 1) sz → K M' x) (hX : ∀ e, X e M) : wx_X10_change F (nI r) (nI c) v M K X := by
  obtain ⟨h1, ⟨kk, h2⟩, -⟩ := id h
  have hS := h2.1
  have t2 := hS.t.2.2.1
  refine ⟨h1, sx_needRow h1 h2 hr (fun hrR _ => sp_needColumn h1 hS hc (fun _ => ⟨hS.kT, t2.1, by rw [t2.2.1]; exact vi_ (by omega) (by decide), fun _ => ⟨fun _ => hX 1, fun _ => sp_needRoom h1 h2 hR (fun _ => ⟨hS.kT, sp_appendChanged ⟨kk, h2⟩ hrR hc hR (fun M1 X1 t1 _ => ?_)⟩)⟩⟩)) (fun _ => hX 0)⟩
  have e1 : rf_ M1 F 0 = rf_ M F 0 := X1.rf F 0
  have g1 := h.ta X1.gw t1 (Nat.le_succ R)
  have t1' : TF_ ow M1 (rf_ M1 F 0) nc m (R + 1) sz := by rw [e1]; exact t1
  obtain ⟨kk1, h1'⟩ := id t1'
  exact ⟨h1'.1.kT, sp_sealIfFull t1' hm (fun M2 ow2 m2 w2 X2 hm2 t2 _ => hK M2 ow2 m2 _ hm2 (g1.ta X2 t2 (Nat.le_refl _)))⟩
theorem sx_seal {K : Mm → Int32 → Prop} {X : Nat → Mm → Prop} (h : GI_ ow M F nc m R sz) (hm : m ≤ 105) (hK : ∀ M' ow' m' x, m' ≤ m + 1 → GI_ ow' M' F nc m' R sz → K M' x) (hX : ∀ e, X e M) : wx_X10_seal F M K X := by
  obtain ⟨h1, ⟨kk, h2⟩, -⟩ := id h
  exact ⟨h1, h2.1.kT, h2.1.kb, fun _ => hX 1, fun _ => sp_sealBuffer ⟨kk, h2⟩ hm (fun M1 ow1 m1 x w1 X1 hm1 t1 _ => hK M1 ow1 m1 x hm1 (h.ta X1 t1 (Nat.le_refl R)))⟩
theorem sx_cluster {K : Mm → Int32 → Prop} {X : Nat → Mm → Prop} (h : GI_ ow M F nc m R sz) (hi : i ≤ 600) (hc : c < nc) (hK : ∀ M' m' x, m' ≤ m → GI_ ow M' F nc m' R sz → K M' x) (hX : ∀ e, X e M) : wx_X10_cluster F (nI i) (nI c) M K X := by
  obtain ⟨h1, ⟨kk, h2⟩, -⟩ := id h
  have hS := h2.1
  exact ⟨h1, sx_needFrame h1 hS hi (fun him _ => sp_needColumn h1 hS hc (fun _ => ⟨hS.kT, sp_clusterBy ⟨kk, h2⟩ him hc (fun M1 m1 x X1 hm1 t1 _ => hK M1 m1 x hm1 (h.ta X1 t1 (Nat.le_refl R)))⟩)) (fun _ => hX 0)⟩
theorem sx_merge {K : Mm → Int32 → Prop} {X : Nat → Mm → Prop} (h : GI_ ow M F nc m R sz) (hi : i ≤ 600) (hK : ∀ M' m' x, m' ≤ m → GI_ ow M' F nc m' R sz → K M' x) (hX : ∀ e, X e M) : wx_X10_merge F (nI i) M K X := by
  obtain ⟨h1, ⟨kk, h2⟩, -⟩ := id h
  have hS := h2.1
  have m2 := hS.m2
  refine ⟨h1, sx_needFrame h1 hS hi (fun him _ => ⟨hS.kT, hS.t.2.1.1, sp_size hS.lf (fun _ => ?_)⟩) (fun _ => hX 0)⟩
  rw [nI_s1 (by omega), lt_nI (by omega) (by omega)]
  refine ⟨fun h3 => ⟨hS.kT, sp_livingIn h2 him (fun _ => ⟨hS.kT, ?_⟩)⟩, fun _ => hX 0⟩
  rw [nI_p1]
  refine sp_livingIn h2 (show i + 1 < m by omega) (fun _ => ?_)
  have l1 : lvl_ M (rf_ M F 0) (bk_ M (rf_ M F 0) m i) (kk i) ≤ 64 := Nat.le_trans (List.length_filter_le _ _) (by rw [sg_len]; exact (h2.2.1.1 i (by omega)).2.1)
  have l2 : lvl_ M (rf_ M F 0) (bk_ M (rf_ M F 0) m (i + 1)) (kk (i + 1)) ≤ 64 := Nat.le_trans (List.length_filter_le _ _) (by rw [sg_len]; exact (h2.2.1.1 (i + 1) (by omega)).2.1)
  refine ⟨fun h64 => ⟨hS.kT, ?_⟩, fun _ => hX 1⟩
  rw [nI_add] at h64
  have h64 := (le_nI (b := 64) (by omega) (by omega)).mp h64
  exact sp_mergeNext h2 (by omega) h64 (fun M1 m1 x X1 hm1 t1 _ => hK M1 m1 x hm1 (h.ta X1 t1 (Nat.le_refl R)))
theorem lp_gives_ok {K E : Mm → Prop} {x2 : Int32} (h8 : nc ≤ 8) (hE : ∀ M', GI_ ow M' F nc m R sz → E M') : ∀ (f c : Nat) (M2 : Mm), c ≤ nc → nc - c < f → GI_ ow M2 F nc m R sz → lp_L_act_240 F (nI nc) x2 K E f (nI c) M2 := by
  intro f
  induction f with
  | zero => intro c M2 _ h; omega
  | succ f ih =>
    intro c M2 hcn hf h2
    have q1 : c < nc → nc - (c + 1) < f := by omega
    unfold lp_L_act_240
    rw [le_nI (by omega) (by omega)]
    refine ⟨fun _ => hE M2 h2, fun hh => ?_⟩
    have hc : c < nc := by omega
    rw [nI_p1]
    refine sp_below (n := 5) (by decide) (by decide) (fun j _ _ => ⟨fun _ => ih (c + 1) M2 (by omega) (q1 hc) h2, fun _ => sp_below (n := 4) (by decide) (by decide) (fun j2 _ _ => ⟨fun _ => sp_give h2 hc (fun M3 y h3 _ => ih (c + 1) M3 (by omega) (q1 hc) h3), fun _ => sp_below (n := 20) (by decide) (by decide) (fun j3 _ _ => sp_give h2 hc (fun M3 y h3 _ => ih (c + 1) M3 (by omega) (q1 hc) h3))⟩)⟩)
theorem sp_act {K : Mm → Prop} {x : Int32} (h : GI_ ow M F nc m R sz) (hn : 0 < nc) (hm : m ≤ 105) (hR : R < 600) (hK : ∀ M' ow' m' R' sz', m' ≤ m + 1 → R' ≤ R + 1 → GI_ ow' M' F nc m' R' sz' → K M') : wp_L_act F (nI nc) x M K := by
  obtain ⟨h1, ⟨kk, h2⟩, ⟨nq, cq, hq⟩, -⟩ := id h
  have hS := h2.1
  have hs := hS.sh
  have n8 := hS.nc8
  have id_ : K M := hK M ow m R sz (by omega) (by omega) h
  have f := h.f
  have mx : ∀ a : Nat, a < 1000 → (if (1 : Int32) < nI a then nI a else (1 : Int32)) = nI (max 1 a) := fun a ha => nI_max (a := 1) (by omega) (by omega)
  refine ⟨h1, sp_below hn (by omega) (fun c hc _ => sp_rows h1 h2 (fun _ => ?_))⟩
  rw [mx R (by omega)]
  refine sp_below (by omega) (by omega) (fun r hr _ => sp_frames h1 hS (fun _ => ?_))
  rw [mx m (by omega)]
  refine sp_below (by omega) (by omega) (fun i hi _ => sp_below (n := 16) (by decide) (by decide) (fun w hw _ => ?_))
  refine ⟨fun _ => ?_, fun _ => ?_, fun _ => ?_, fun _ => ?_, fun _ => ?_, fun _ => ?_, fun _ => ?_, fun _ => ?_, fun _ => ?_, fun _ _ _ _ _ _ _ _ _ => ?_⟩
  · exact sx_delete h (by omega) (fun M' y h' _ _ => hK M' ow m R sz (by omega) (by omega) h') (fun _ => id_)
  · exact sp_below (n := 30) (by decide) (by decide) (fun v _ _ => sx_change h hc hm hR (by omega) (fun M' ow' m' y hm' h' _ => hK M' ow' m' (R + 1) sz hm' (Nat.le_refl _) h') (fun _ _ => id_))
  · refine sp_below (n := 20) (by decide) (by decide) (fun v hv _ => ?_)
    rw [show (4 : Int32) + nI v = nI (4 + v) from nI_add 4 v]
    exact sp_setSize h hm (by omega) (by omega) (fun M' ow' m' y hm' h' _ => hK M' ow' m' R (4 + v) hm' (by omega) h')
  · exact sx_seal h hm (fun M' ow' m' y hm' h' _ => hK M' ow' m' R sz hm' (by omega) h') (fun _ _ => id_)
  · exact sx_cluster h (by omega) hc (fun M' m' y hm' h' _ => hK M' ow m' R sz (by omega) (by omega) h') (fun _ _ => id_)
  · exact sx_merge h (by omega) (fun M' m' y hm' h' _ => hK M' ow m' R sz (by omega) (by omega) h') (fun _ _ => id_)
  · exact sp_index h1 hS hc (fun M' y X' _ _ => hK M' ow m R sz (by omega) (by omega) (h.c3 X' (fun b hb => by rw [hb]; exact hS.cl hc)))
  · exact sp_below (n := 8) (by decide) (by decide) (fun t ht _ => sp_below (n := 30) (by decide) (by decide) (fun v _ _ => sp_where h1 hS hq hc ht (fun _ => id_) (fun M' cq' y X' q' _ => hK M' ow m R sz (by omega) (by omega) (h.q X' (fun b hb => by omega) q'))))
  · refine sp_below (n := 2) (by decide) (by decide) (fun t ht _ => ⟨fun _ => ?_, fun _ => ?_⟩)
    · exact sp_orElse h1 hs hq (fun _ => id_) (fun M' nq' cq' y X' q' _ => hK M' ow m R sz (by omega) (by omega) (h.q X' (fun b hb => by omega) q'))
    · exact sp_clear h1 hs hq (fun M' nq' cq' y X' q' _ => hK M' ow m R sz (by omega) (by omega) (h.q X' (fun b hb => by omega) q'))
  · refine ⟨nc + 1, lp_gives_ok (ow := ow) (m := m) (R := R) (sz := sz) n8 (fun M' h' _ => ?_) (nc + 1) 0 M (by omega) (by omega) h⟩
    exact sp_add' h' hn hm hR (fun M'' ow' m' y hm' h'' _ => hK M'' ow' m' (R + 1) sz hm' (Nat.le_refl _) h'')
end AC
