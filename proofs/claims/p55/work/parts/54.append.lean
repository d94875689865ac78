/-! appendFilled, appendGiven, appendChanged -/
section AP
variable {ow : Nat → Nat × Nat} {M M' : Mm} {T nc m R sz d i k' : Nat} {kk : Nat → Nat} {Z : Nat → Prop} {A : Nat → Prop}
theorem sp_append' {K : Mm → Prop} {b k : Nat} {x : Int32} (hs : SH_ ow M) (hb : kd_ M b = 2) (hk : it_ M b 2 = nI k) (hk6 : k ≤ 64)
    (hK : ∀ M' k', Ex_ (fun a => a = b ∨ a = rf_ M b 0) M M' → k' ≤ 64 → it_ M' b 2 = nI k' → (∀ j, j < k' → it_ M' (rf_ M b 0) j = x ∨ (j < k ∧ it_ M' (rf_ M b 0) j = it_ M (rf_ M b 0) j)) → K M') : wp_X0_append b x M K := by
  by_cases h : k < 64
  · refine sp_append hs hb hk h (fun M' X e2 _ ek eo => hK M' (k + 1) X (by omega) e2 (fun j hj => ?_))
    by_cases e : j = k
    · rw [e]; exact Or.inl ek
    · exact Or.inr ⟨by omega, eo j e⟩
  · refine ⟨hb, fun _ => hK M k (Ex_.refl _ _) hk6 hk (fun j hj => Or.inr ⟨hj, rfl⟩), fun z => ?_⟩
    rw [hk] at z
    exact absurd ((le_nI (a := 64) (by omega) (by omega)).mpr (by omega)) z
/-- the cells that a row being added is written into -/
def FA_ (M : Mm) (T : Nat) (b : Nat) : Prop := b = rf_ M T 2 ∨ b = rf_ M T 3 ∨ b = rf_ M T 5 ∨ b = rf_ M (rf_ M T 5) 0 ∨ b = T
theorem FA_.k (hS : TS_ ow M T nc m) {b : Nat} (h : FA_ M T b) : kd_ M b = 21 ∨ kd_ M b = 20 ∨ kd_ M b = 2 ∨ kd_ M b = 10 := by
  obtain ⟨t0, t1, t2, t3, t4, t5⟩ := hS.t
  rcases h with h | h | h | h | h
  · rw [h, t2.1]; omega
  · rw [h, t3.1]; omega
  · rw [h, hS.kb]; omega
  · rw [h, (hS.sh.blk hS.kb).1.1]; omega
  · rw [h, hS.kT]; omega
theorem FA_.ta (hS : TS_ ow M T nc m) {b : Nat} (h : FA_ M T b) : TA_ ow M b := by
  obtain ⟨t0, t1, t2, t3, t4, t5⟩ := hS.t
  rcases h with h | h | h | h | h
  · rw [h]; exact own_TA t2 (by decide) (Or.inr (Or.inr (Or.inr (Or.inl hS.kT))))
  · rw [h]; exact own_TA t3 (by decide) (Or.inr (Or.inr (Or.inr (Or.inl hS.kT))))
  · rw [h]; exact Or.inr (Or.inl hS.kb)
  · rw [h]; exact own_TA (hS.sh.blk hS.kb).1 (by decide) (Or.inl hS.kb)
  · rw [h]; exact Or.inr (Or.inr (Or.inr (Or.inr (Or.inl hS.kT))))
/-- rows of others than the table's own and the BUFFER's aren't written -/
theorem FA_.no (hS : TS_ ow M T nc m) {a k c n : Nat} (h : own_ ow M a k c n) (hc : c = 20 ∨ c = 21) (ha : a ≠ T) (hb : a ≠ rf_ M T 5) : ¬ FA_ M T (rf_ M a k) := by
  obtain ⟨t0, t1, t2, t3, t4, t5⟩ := hS.t
  have hk := h.1
  rintro (z | z | z | z | z)
  · exact own_ne h t2 (Or.inl ha) z
  · exact own_ne h t3 (Or.inl ha) z
  · rw [z, hS.kb] at hk; omega
  · exact own_ne h (hS.sh.blk hS.kb).1 (Or.inl hb) z
  · rw [z, hS.kT] at hk; omega
theorem TI_.fill (h : TI_ ow M T nc m R sz kk (fun j => j < m)) (hR : R < 600) (hn : NR_ M T nc R (fun _ => True)) (X : Ex_ (FA_ M T) M M') (ea : ∀ r, al_ M' T r = if r = R then 1 else al_ M T r) (eh : ∀ r, hm_ M' T r = if r = R then -1 else hm_ M T r) (e7 : it_ M' T 7 = nI (R + 1)) (e6 : it_ M' T 6 = it_ M T 6) (e8 : it_ M' T 8 = it_ M T 8 + 1) (hk' : k' ≤ 64) (eb : it_ M' (rf_ M T 5) 2 = nI k') (er : ∀ j, j < k' → it_ M' (rf_ M (rf_ M T 5) 0) j = nI R ∨ (j < kk m ∧ it_ M' (rf_ M (rf_ M T 5) 0) j = it_ M (rf_ M (rf_ M T 5) 0) j)) : TI_ ow M' T nc m (R + 1) sz (up_ kk m k') (fun j => j < m) := by
  obtain ⟨hS, hH, hZ, hN, hC⟩ := h
  have hm2 := hS.m2
  have ebm : bk_ M T m m = rf_ M T 5 := if_neg (Nat.lt_irrefl m)
  have ebk : ∀ i, bk_ M' T m i = bk_ M T m i := fun i => X.1.bk T m i
  have nb : ∀ i, i < m → ¬ FA_ M T (bk_ M T m i) ∧ ¬ FA_ M T (rf_ M (bk_ M T m i) 0) := fun i hi => by
    have hk := hS.bk i
    have ne : bk_ M T m i ≠ rf_ M T 5 := by rw [← ebm]; exact hS.bkne (by omega) (Nat.le_refl m) (by omega)
    refine ⟨?_, FA_.no hS (hS.bo i).1 (by decide) (kd_ne hk hS.kT (by decide)) ne⟩
    obtain ⟨t0, t1, t2, t3, t4, t5⟩ := hS.t
    rintro (z | z | z | z | z)
    · rw [z, t2.1] at hk; omega
    · rw [z, t3.1] at hk; omega
    · exact ne z
    · rw [z, (hS.sh.blk hS.kb).1.1] at hk; omega
    · rw [z, hS.kT] at hk; omega
  have nc0 : ∀ c, c < nc → ¬ FA_ M T (rf_ M (cl_ M T c) 0) ∧ ¬ FA_ M T (rf_ M (cl_ M T c) 1) := fun c hc => by
    have k := hS.cl hc
    exact ⟨FA_.no hS (hS.co hc).1 (by decide) (kd_ne k hS.kT (by decide)) (kd_ne k hS.kb (by decide)), FA_.no hS (hS.co hc).2 (by decide) (kd_ne k hS.kT (by decide)) (kd_ne k hS.kb (by decide))⟩
  have hv : ∀ c r, c < nc → it_ M' (rf_ M (cl_ M T c) 0) r = it_ M (rf_ M (cl_ M T c) 0) r ∧ it_ M' (rf_ M (cl_ M T c) 1) r = it_ M (rf_ M (cl_ M T c) 1) r := fun c r hc => ⟨X.it (nc0 c hc).1 r, X.it (nc0 c hc).2 r⟩
  have eho : ∀ r, r < R → hm_ M' T r = hm_ M T r := fun r hr => by rw [eh, if_neg (by omega)]
  have eao : ∀ r, r < R → al_ M' T r = al_ M T r := fun r hr => by rw [ea, if_neg (by omega)]
  have ehR : hm_ M' T R = -1 := by rw [eh, if_pos rfl]
  have hvm : hv_ m m = -1 := if_neg (Nat.lt_irrefl m)
  have mbi : ∀ i r, i < m → (mb_ M' (bk_ M T m i) (kk i) r ↔ mb_ M (bk_ M T m i) (kk i) r) := fun i r hi => mb_sa (X.rf _ _) (fun j _ => X.it (nb i hi).2 j)
  refine ⟨hS.ex X (fun b hb e => by have := FA_.k hS hb; omega), ⟨fun i hi => ?_, fun i r hi hr hm => ?_, fun i r hi hr e => ?_, fun r hr => ?_, fun r hr e => ?_⟩, fun i hi hz => ?_, ?_, fun c r hc hr hl => ?_⟩
  · rw [ebk]
    by_cases e : i = m
    · rw [e, up_s, ebm]
      refine ⟨eb, hk', fun j hj => ?_⟩
      rw [X.rf]
      rcases er j hj with z | ⟨z1, z2⟩
      · exact ⟨R, by omega, z⟩
      · have g := (hH.1 m (Nat.le_refl m)).2.2 j z1
        rw [ebm] at g
        obtain ⟨r, hr, g⟩ := g
        exact ⟨r, by omega, z2.trans g⟩
    · have hi' : i < m := by omega
      rw [up_o _ _ e]
      have g : BR_ M' (bk_ M T m i) (kk i) R := BR_sa (X.it (nb i hi').1 2) (X.rf _ _) (fun j _ => X.it (nb i hi').2 j) (hH.1 i hi)
      exact ⟨g.1, g.2.1, fun j hj => by
        obtain ⟨r, hr, g⟩ := g.2.2 j hj
        exact ⟨r, by omega, g⟩⟩
  · rw [ebk] at hm
    by_cases e : i = m
    · rw [e, up_s, ebm] at hm
      rw [e, hvm]
      obtain ⟨j, hj, ej⟩ := hm
      rw [X.rf] at ej
      rcases er j hj with z | ⟨z1, z2⟩
      · have : r = R := nI_inj (by omega) (by omega) (ej.symm.trans z)
        rw [this]; exact ehR
      · have hmo : mb_ M (bk_ M T m m) (kk m) r := ⟨j, z1, by rw [ebm]; exact z2.symm.trans ej⟩
        rw [eho r (mb_lt (hH.1 m (Nat.le_refl m)) (by omega) (by omega) hmo), ← hvm]
        exact hH.2.1 m r (Nat.le_refl m) hr hmo
    · rw [up_o _ _ e, mbi i r (by omega)] at hm
      rw [eho r (mb_lt (hH.1 i hi) (by omega) (by omega) hm)]
      exact hH.2.1 i r hi hr hm
  · have hrR : r ≠ R := fun z => by
      rw [z, ehR] at e
      exact (nI_ne1 (a := i) (by omega)).1 e.symm
    rw [eho r (by omega)] at e
    rw [ebk, up_o _ _ (by omega), mbi i r hi]
    exact hH.2.2.1 i r hi (by omega) e
  · by_cases e : r = R
    · rw [e]; exact Or.inl ehR
    · rw [eho r (by omega)]
      exact hH.2.2.2.1 r (by omega)
  · have hrR : r ≠ R := fun z => by
      rw [z, ehR] at e
      exact absurd e (by decide)
    rw [eho r (by omega)] at e
    rw [eao r (by omega)]
    exact hH.2.2.2.2 r (by omega) e
  · have g := hZ.sa hS hH.1 X (fun i _ hz => nb i hz) (fun b hb => ⟨fun e => by have := FA_.k hS hb; omega, fun e => by have := FA_.k hS hb; omega⟩) (fun c r hc _ => hv c r hc) (by omega) i hi hz
    rw [up_o _ _ (by omega)]
    exact g
  · obtain ⟨g1, g2, g3, g4, g5, g6, g7⟩ := hN
    refine ⟨e7, by omega, by rw [e6]; exact g3, g4, g5, fun r hr => ?_, ?_⟩
    · rw [ea]
      by_cases e : r = R
      · rw [if_pos e]; exact Or.inr rfl
      · rw [if_neg e]; exact g6 r (by omega)
    · unfold lvn_
      rw [e8, g7, ea, if_pos rfl, lvn_congr (fun r hr => eao r hr), if_neg (by decide), nI_p1]
  · rw [X.1.cl, X.rf] at hl ⊢
    rw [(hv c r hc).2] at hl
    rw [(hv c r hc).1]
    by_cases e : r = R
    · rw [e] at hl ⊢
      exact hn c hc trivial hl
    · exact hC c r hc (by omega) hl
theorem sp_appendFilled {K : Mm → Int32 → Prop} (h : TI_ ow M T nc m R sz kk (fun j => j < m)) (hR : R < 600) (hn : NR_ M T nc R (fun _ => True)) (hK : ∀ M', Ex_ (FA_ M T) M M' → TF_ ow M' T nc m (R + 1) sz → K M' (nI R)) : wp_X8_appendFilled T M K := by
  have hS := h.1
  obtain ⟨t0, t1, t2, t3, t4, t5⟩ := hS.t
  have hT := hS.kT
  have hB := h.2.1.1 m (Nat.le_refl m)
  have ebm : bk_ M T m m = rf_ M T 5 := if_neg (Nat.lt_irrefl m)
  rw [ebm] at hB
  have b0 := (hS.sh.blk hS.kb).1
  have v6 : vp_in (nI R) 600 := vi_ hR (by decide)
  have e7 := h.2.2.2.1.1
  have iR : ix_ (nI R) = R := ix_nI (by omega)
  refine ⟨hT, t2.1, by rw [e7, t2.2.1]; exact v6, fun M3 e3 => ⟨t3.1, by rw [e7, t3.2.1]; exact v6, fun M6 e6 => ⟨hS.kb, ?_⟩⟩⟩
  rw [e7, iR] at e3 e6
  have n23 : rf_ M T 2 ≠ rf_ M T 3 := kd_ne t2.1 t3.1 (by decide)
  have nT2 : T ≠ rf_ M T 2 := kd_ne hT t2.1 (by decide)
  have nT3 : T ≠ rf_ M T 3 := kd_ne hT t3.1 (by decide)
  have nb2 : rf_ M T 5 ≠ rf_ M T 2 := kd_ne hS.kb t2.1 (by decide)
  have nb3 : rf_ M T 5 ≠ rf_ M T 3 := kd_ne hS.kb t3.1 (by decide)
  have nbT : rf_ M T 5 ≠ T := kd_ne hS.kb hT (by decide)
  have n02 : rf_ M (rf_ M T 5) 0 ≠ rf_ M T 2 := kd_ne b0.1 t2.1 (by decide)
  have n03 : rf_ M (rf_ M T 5) 0 ≠ rf_ M T 3 := own_ne b0 t3 (Or.inl nbT)
  have n0T : rf_ M (rf_ M T 5) 0 ≠ T := kd_ne b0.1 hT (by decide)
  have X6 : Ex_ (FA_ M T) M M6 := by
    rw [e6, e3]
    exact (Ex_.sI _ _ _ (Or.inl rfl)).tr (Ex_.sI _ _ _ (Or.inr (Or.inl rfl)))
  have k6 : it_ M6 (rf_ M T 5) 2 = nI (kk m) := by rw [e6, it_sIa nb3, e3, it_sIa nb2]; exact hB.1
  have kb6 : kd_ M6 (rf_ M T 5) = 2 := by rw [X6.kd]; exact hS.kb
  refine sp_append' (X6.1.sh hS.sh) kb6 k6 hB.2.1 (fun M8 k' X8 hk' g1 g2 _ M13 e13 M14 e14 => ?_)
  rw [X6.rf] at X8 g2
  have X8' : Ex_ (FA_ M T) M M8 := X6.tr (X8.mono (fun b hb => by
    rcases hb with z | z
    · exact Or.inr (Or.inr (Or.inl z))
    · exact Or.inr (Or.inr (Or.inr (Or.inl z)))))
  have X14 : Ex_ (FA_ M T) M M14 := by
    rw [e14, e13]
    exact (X8'.tr (Ex_.sI _ _ _ (Or.inr (Or.inr (Or.inr (Or.inr rfl)))))).tr (Ex_.sI _ _ _ (Or.inr (Or.inr (Or.inr (Or.inr rfl)))))
  have o14 : ∀ b j, b ≠ T → it_ M14 b j = it_ M8 b j := fun b j hb => by rw [e14, it_sIa hb, e13, it_sIa hb]
  have t8 : ∀ j, it_ M8 T j = it_ M T j := fun j => by
    rw [X8.it (fun z => by
      rcases z with z | z
      · exact nbT z.symm
      · exact n0T z.symm), e6, it_sIa nT3, e3, it_sIa nT2]
  have o8 : ∀ b j, b ≠ rf_ M T 5 → b ≠ rf_ M (rf_ M T 5) 0 → it_ M8 b j = it_ M6 b j := fun b j h1 h2 => X8.it (fun z => by
    rcases z with z | z
    · exact h1 z
    · exact h2 z) j
  have eR : it_ M T 7 = nI R := e7
  rw [eR]
  refine hK M14 X14 ⟨_, h.fill hR hn X14 (fun r => ?_) (fun r => ?_) ?_ ?_ ?_ hk' (by rw [o14 _ _ nbT]; exact g1) (fun j hj => ?_)⟩
  · unfold al_
    rw [X14.rf, o14 _ _ nT2.symm, o8 _ _ nb2.symm n02.symm, e6, it_sIa n23, e3]
    by_cases e : r = R
    · rw [if_pos e, e, it_sIs]
    · rw [if_neg e, it_sIk e]
  · unfold hm_
    rw [X14.rf, o14 _ _ nT3.symm, o8 _ _ nb3.symm n03.symm, e6]
    by_cases e : r = R
    · rw [if_pos e, e, it_sIs]
    · rw [if_neg e, it_sIk e, e3, it_sIa n23.symm]
  · rw [e14, it_sIk (by decide), e13, it_sIs, t8, eR, nI_p1]
  · rw [e14, it_sIk (by decide), e13, it_sIk (by decide), t8]
  · rw [e14, it_sIs, e13, it_sIk (by decide), t8]
  · rw [o14 _ _ n0T]
    rcases g2 j hj with z | ⟨z1, z2⟩
    · left
      exact z.trans eR
    · right
      refine ⟨z1, z2.trans ?_⟩
      rw [e6, it_sIa n03, e3, it_sIa n02]
theorem CA_.ta (hS : TS_ ow M T nc m) {b : Nat} (h : CA_ M T nc b) : TA_ ow M b := by
  obtain ⟨c, hc, e | e | e⟩ := h
  · rw [e]; exact Or.inr (Or.inr (Or.inl (hS.cl hc)))
  · rw [e]; exact own_TA (hS.co hc).1 (by decide) (Or.inr (Or.inl (hS.cl hc)))
  · rw [e]; exact own_TA (hS.co hc).2 (by decide) (Or.inr (Or.inl (hS.cl hc)))
theorem sp_appendGiven {K : Mm → Int32 → Prop} (h : TF_ ow M T nc m R sz) (hR : R < 600) (hK : ∀ M', Ex_ (TA_ ow M) M M' → TF_ ow M' T nc m (R + 1) sz → K M' (nI R)) : wp_X8_appendGiven T M K := by
  obtain ⟨kk, h⟩ := h
  have hS := h.1
  refine ⟨hS.kT, nc + 1, lp_given_ok (E := fun M24 => Nk_ M M24 → (wp_X8_appendFilled T M24 (fun M28 r29 => Nk_ M24 M28 → (K M28 r29)))) hR (fun M1 X1 h1 n1 _ => ?_) (nc + 1) 0 M (by omega) (by omega) (Ex_.refl _ _) h (fun c _ h9 => by omega)⟩
  refine sp_appendFilled h1 hR n1 (fun M2 X2 h2 _ => hK M2 ?_ h2)
  refine (X1.mono (fun b hb => CA_.ta hS hb)).tr (X2.mono (fun b hb => ?_))
  exact (TA_eq X1.1.1 b).mp (FA_.ta h1.1 hb)
theorem sp_appendChanged {K : Mm → Int32 → Prop} {r c : Nat} {x : Int32} (h : TF_ ow M T nc m R sz) (hr : r < R) (hc : c < nc) (hR : R < 600) (hK : ∀ M', Ex_ (TA_ ow M) M M' → TF_ ow M' T nc m (R + 1) sz → K M' (nI R)) : wp_X8_appendChanged T (nI r) (nI c) x M K := by
  obtain ⟨kk, h⟩ := h
  have hS := h.1
  have t := hS.t
  refine ⟨hS.kT, sp_kill h hr (fun M1 x1 X1 h1 _ _ => ⟨nc + 1, ?_⟩)⟩
  have hS1 := h1.1
  have X1' : Ex_ (TA_ ow M) M M1 := X1.mono (fun b hb => by
    rcases hb with z | z
    · rw [z]; exact own_TA t.2.2.1 (by decide) (Or.inr (Or.inr (Or.inr (Or.inl hS.kT))))
    · rw [z]; exact Or.inr (Or.inr (Or.inr (Or.inr (Or.inl hS.kT)))))
  refine lp_copy_ok (E := fun M31 => Nk_ M1 M31 → (kd_ M31 (rf_ M31 T 0) = 1 ∧ (wp_Jx4a65c_get_915e3 (rf_ M31 T 0) (nI c) M31 (fun M36 r37 => Nk_ M31 M36 → (kd_ M36 r37 = 3 ∧ (wp_X1_put r37 (it_ M36 T 7) x M36 (fun M44 => Nk_ M36 M44 → (wp_X8_appendFilled T M44 (fun M49 r50 => Nk_ M44 M49 → (K M49 r50)))))))))) hr hR (fun M2 X2 h2 n2 _ => ?_) (nc + 1) 0 M1 (by omega) (by omega) (Ex_.refl _ _) h1 (fun c _ h9 => by omega)
  have hS2 := h2.1
  refine ⟨hS2.t.1.1, sp_get hS2.lc hc (by decide) (fun _ => ⟨hS2.cl hc, ?_⟩)⟩
  rw [h2.2.2.2.1.1]
  refine sp_put hS2.sh (hS2.cl hc) hR (fun M3 X3 hr3 hl3 _ => ?_)
  obtain ⟨h3, n3, X3'⟩ := h2.colR hc n2 X3 hr3 hl3
  refine sp_appendFilled h3 hR (n3.mono (fun _ _ _ => Or.inl trivial)) (fun M4 X4 h4 _ => hK M4 ?_ h4)
  have e2 := X2.1.1.trans X1'.1.1
  refine ((X1'.tr (X2.mono (fun b hb => (TA_eq X1'.1.1 b).mp (CA_.ta hS1 hb)))).tr (X3'.mono (fun b hb => (TA_eq e2 b).mp (CA_.ta hS2 hb)))).tr (X4.mono (fun b hb => ?_))
  exact (TA_eq (X3'.1.1.trans e2) b).mp (FA_.ta h3.1 hb)
/-! givenColumns, livingIn -/
theorem sp_givenColumns {K : Mm → Int32 → Prop} (hS : TS_ ow M T nc m) (hK : ∀ x, K M x) : wp_X8_givenColumns T M K := by
  have n8 := hS.nc8
  have key : ∀ (n c : Nat) (x : Int32), c ≤ nc → nc - c < n → lp_X8_givenColumns_4 T K (fun xv23 M21 => Nk_ M M21 → (K M21 xv23)) n x (nI c) M := by
    intro n
    induction n with
    | zero => intro c x _ h; omega
    | succ n ih =>
      intro c x hcn hn
      have q1 : c < nc → nc - (c + 1) < n := by omega
      unfold lp_X8_givenColumns_4
      refine ⟨hS.t.1.1, sp_size hS.lc (fun _ => ⟨fun _ _ => hK x, fun h => ⟨hS.t.1.1, ?_⟩⟩)⟩
      rw [le_nI (by omega) (by omega)] at h
      have hc : c < nc := by omega
      refine sp_get hS.lc hc (by decide) (fun _ => ⟨hS.cl hc, fun _ => ?_⟩)
      rw [nI_p1]
      exact ⟨fun _ => ih (c + 1) x (by omega) (q1 hc), fun _ => ih (c + 1) _ (by omega) (q1 hc)⟩
  exact ⟨hS.kT, nc + 1, key (nc + 1) 0 0 (by omega) (by omega)⟩
theorem sp_livingIn {K : Mm → Int32 → Prop} (h : TI_ ow M T nc m R sz kk Z) (hi : i < m) (hK : K M (nI (lvl_ M T (bk_ M T m i) (kk i)))) : wp_X8_livingIn T (nI i) M K := by
  have hS := h.1
  have t := hS.t
  have hB := h.2.1.1 i (by omega)
  have b0 := (hS.bo i).1
  have hR := h.2.2.2.1.2.1
  have hk6 := hB.2.1
  have eb : el_ M (rf_ M T 1) i = bk_ M T m i := (if_pos hi).symm
  refine ⟨hS.kT, t.2.1.1, sp_get hS.lf hi (by decide) (fun _ => ?_)⟩
  rw [eb]
  refine ⟨hS.bk i, kk i + 1, ?_⟩
  have key : ∀ (n j : Nat), j ≤ kk i → kk i - j < n → lp_X8_livingIn_17 T (bk_ M T m i) K (fun xv20 M18 => Nk_ M M18 → (K M18 xv20)) n (nI (lvl_ M T (bk_ M T m i) j)) (nI j) M := by
    intro n
    induction n with
    | zero => intro j _ h; omega
    | succ n ih =>
      intro j hj hn
      have q1 : j < kk i → kk i - (j + 1) < n := by omega
      unfold lp_X8_livingIn_17
      rw [hB.1, le_nI (by omega) (by omega), ix_nI (n := j) (by omega)]
      refine ⟨fun h => ?_, fun h => ?_⟩
      · have : j = kk i := by omega
        rw [this]
        exact fun _ => hK
      · have hjk : j < kk i := by omega
        obtain ⟨r, hr, er⟩ := hB.2.2 j hjk
        rw [er, ix_nI (n := r) (by omega), b0.2.1, t.2.2.1.2.1, nI_p1, nI_p1]
        refine ⟨t.2.2.1.1, b0.1, vi_ (by omega) (by decide), vi_ (by omega) (by decide), fun _ => ⟨fun h0 => ?_, fun h0 => ?_⟩⟩
        · have e : lvl_ M T (bk_ M T m i) (j + 1) = lvl_ M T (bk_ M T m i) j := by
            unfold lvl_
            rw [sg_snoc, List.filter_append, Nat.zero_add, er]
            simp [lv_f, ix_nI (show r < 2147483648 by omega), h0]
          rw [← e]
          exact ih (j + 1) hjk (q1 hjk)
        · have e : lvl_ M T (bk_ M T m i) (j + 1) = lvl_ M T (bk_ M T m i) j + 1 := by
            unfold lvl_
            rw [sg_snoc, List.filter_append, Nat.zero_add, er]
            simp [lv_f, ix_nI (show r < 2147483648 by omega), h0]
          rw [← e]
          exact ih (j + 1) hjk (q1 hjk)
  exact key (kk i + 1) 0 (by omega) (by omega)
end AP
