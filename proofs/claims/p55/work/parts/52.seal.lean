/-! sealBuffer, sealIfFull -/
section SE
variable {ow : Nat → Nat × Nat} {M M' : Mm} {T nc m R sz d i : Nat} {kk : Nat → Nat}
theorem SH_sT {ow : Nat → Nat × Nat} {M : Mm} {T q : Nat} (hs : SH_ ow M) (hT : kd_ M T = 10) : SH_ ow (sR_ M T 5 q) := by
  intro a
  by_cases h0 : kd_ M a = 0
  · exact Sh_triv (Or.inl (by show kd_ M a < 2; omega))
  · by_cases e : a = T
    · rw [e]
      obtain ⟨t0, t1, t2, t3, t4, t5⟩ := hs.tab hT
      have kT : kd_ (sR_ M T 5 q) T = 10 := hT
      unfold Sh_
      rw [kT]
      exact ⟨fun z => by omega, fun z => by omega, fun z => by omega, fun z => by omega, fun z => by omega, fun z => by omega, fun z => by omega, fun _ => ⟨own_sR t0 (Or.inr (by decide)), own_sR t1 (Or.inr (by decide)), own_sR t2 (Or.inr (by decide)), own_sR t3 (Or.inr (by decide)), own_sR t4 (Or.inr (by decide)), own_sR t5 (Or.inr (by decide))⟩, fun z => by omega, fun z => by omega⟩
    · have hs' := hs a
      exact (Gw_.sR (A := fun x => x = T) M 5 q rfl).sh1 (fun _ _ => rfl) h0 e (fun z => kd_ne (hs'.1 z).2.1.1 hT (by decide)) (fun z => by
        rcases z with z | z
        · exact kd_ne (hs'.2.2.1 z).1.1 hT (by decide)
        · exact kd_ne (hs'.2.2.2.1 z).1.1 hT (by decide)) hs'
theorem sp_sealBuffer {K : Mm → Int32 → Prop} (h : TF_ ow M T nc m R sz) (hm : m ≤ 105) (hK : ∀ M' ow' m' r, (∀ b, kd_ M b ≠ 0 → ow' b = ow b) → Gw_ (TA_ ow M) M M' → m' ≤ m + 1 → TF_ ow' M' T nc m' R sz → K M' r) : wp_X8_sealBuffer T M K := by
  obtain ⟨kk, h⟩ := h
  have hS := h.1
  have hR := h.2.2.2.1.2.1
  have ebm : ∀ M, bk_ M T m m = rf_ M T 5 := fun M => if_neg (Nat.lt_irrefl m)
  refine ⟨hS.kT, hS.kb, ?_⟩
  rw [← ebm]
  refine sp_drop h (Nat.le_refl m) (fun M1 k1 X1 Y1 h1 _ _ _ _ _ => ?_)
  have hS1 := h1.1
  have hB1 := h1.2.1.1 m (Nat.le_refl m)
  rw [up_s] at hB1
  rw [← ebm]
  refine ⟨hS1.bk m, fun e => ?_, fun e => ?_⟩
  · exact hK M1 ow m _ (fun _ _ => rfl) X1 (by omega) ⟨_, h1.zmono (fun j _ z => ⟨z, by omega⟩)⟩
  · rw [hB1.1] at e ⊢
    have hk1 : 0 < k1 := by
      rcases Nat.eq_zero_or_pos k1 with z | z
      · exact absurd (by rw [z]; decide) e
      · exact z
    have t1 := hS1.t
    refine ⟨t1.1.1, t1.2.2.2.2.2.1, t1.2.2.2.2.1.1, h1.reckon (Nat.le_refl m) (by rw [up_s]; exact hk1) (fun M2 X2 E2 h2 _ => ?_)⟩
    have hS2 := h2.1
    have t2 := hS2.t
    refine ⟨t2.2.1.1, hS2.kb, sp_add hS2.lf hm (Or.inl rfl) hS2.kb (fun i hi => hS2.2.2.2.2.2.2 i hi) (fun M3 ow3 hA _ _ => ?_)⟩
    obtain ⟨w3, X3, L3, el3, elm, k03⟩ := hA
    have A3 : ∀ b, (b = rf_ M2 T 1 ∨ b = rf_ M2 (rf_ M2 T 1) 1) → AK_ ow M2 T b := fun b hb => by
      rcases hb with e | e
      · exact Or.inr (Or.inr (Or.inr (Or.inr (Or.inl e))))
      · exact Or.inr (Or.inr (Or.inr (Or.inr (Or.inr e))))
    have X3' : Gw_ (AK_ ow M2 T) M2 M3 := X3.mono (fun b _ hb => A3 b hb)
    have tt3 := ak_T X3' hS2
    have hSH3 : SH_ ow3 M3 := X3.sh w3 (fun b hb => by
      rcases hb with e | e
      · rw [e]; exact Or.inl t2.2.1.1
      · rw [e]
        rcases hS2.ar1 with z | z
        · exact Or.inr (Or.inl z.1)
        · exact Or.inr (Or.inr (Or.inl z))) k03 hS2.sh
    have kT3 : kd_ M3 T = 10 := by rw [X3.kd (by rw [hS2.kT]; decide)]; exact hS2.kT
    have L3' : Ls_ ow3 M3 (rf_ M3 T 1) (m + 1) 2 := by rw [(tt3 1).1]; exact L3
    refine ⟨L3'.k1, sp_size L3' (fun _ => ?_)⟩
    rw [nI_s1 (by omega), show m + 1 - 1 = m by omega]
    have s2 := rm_sa hS2 X3
    have hTH2 := h2.2.1
    have eel : el_ M3 (rf_ M3 T 1) m = bk_ M2 T m m := by rw [(tt3 1).1, elm, ebm]
    have hB2 := hTH2.1 m (Nat.le_refl m)
    have hB3 : BR_ M3 (bk_ M2 T m m) (up_ kk m k1 m) R := BR_sa ((s2 m).1 2).2.1 ((s2 m).1 0).1 (fun q _ => ((s2 m).2.1 q).2.1) hB2
    have mb3 : ∀ r, mb_ M3 (bk_ M2 T m m) (up_ kk m k1 m) r ↔ mb_ M2 (bk_ M2 T m m) (up_ kk m k1 m) r := fun r => mb_sa ((s2 m).1 0).1 (fun q _ => ((s2 m).2.1 q).2.1)
    refine sp_numberFrom (m := m + 1) (f0 := m) (kk := up_ kk m k1) (tag := fun _ => m) hSH3 kT3 L3' hR (by omega) (fun f h1 h2 => ?_) (fun f r h1 h2 _ _ => by omega) (fun M4 X4 a1 a2 _ => ?_)
    · have : f = m := by omega
      rw [this, eel]
      exact hB3
    have hSH4 : SH_ ow3 M4 := X4.1.sh hSH3
    have e33 : rf_ M3 T 3 = rf_ M2 T 3 := (tt3 3).1
    have kT4 : kd_ M4 T = 10 := by rw [X4.kd]; exact kT3
    have X24 : Gw_ (AK_ ow M2 T) M2 M4 := X3'.tr (X4.gw.mono (fun b _ hb => by rw [hb, e33]; exact hS2.ho))
    intro q q0 hq M5 e5
    subst e5
    have b5 := (BD_.start hSH4).nw (c := 2) (n := 0) hq (T, 5)
    refine sp_binit b5 (Or.inr rfl) (kd_nwq _ _ _ _) hq (fun M6 ow6 hB6 w6 X6 i6 _ M7 e7 => ?_)
    have qT : T ≠ q := fun e => by rw [e] at kT4; omega
    have hSH6 : SH_ ow6 M6 := hB6.sh (fun a z => by
      rcases z.1 with y | y
      · exact y
      · exact z.2 y)
    have X46 : Gw_ (fun _ => False) M4 M6 := hB6.2.1
    have w46 : ∀ b, kd_ M4 b ≠ 0 → ow6 b = ow3 b := hB6.1
    have X26 : Gw_ (AK_ ow M2 T) M2 M6 := X24.tr' X46 (fun _ _ z => z.elim)
    have w26 : ∀ b, kd_ M2 b ≠ 0 → ow6 b = ow b := fun b hb => by
      rw [w46 b (by rw [X24.kd hb]; exact hb)]
      exact w3 b hb
    have tt6 := ak_T X26 hS2
    have kT6 : kd_ M6 T = 10 := by rw [X26.kd (by rw [hS2.kT]; decide)]; exact hS2.kT
    have hSH7 : SH_ ow6 M7 := by rw [e7]; exact SH_sT hSH6 kT6
    have kd7 : ∀ b, kd_ M7 b = kd_ M6 b := fun b => by rw [e7]; rfl
    have ln7 : ∀ b, ln_ M7 b = ln_ M6 b := fun b => by rw [e7]; rfl
    have it7 : ∀ b k, it_ M7 b k = it_ M6 b k := fun b k => by rw [e7]; rfl
    have lg7 : ∀ b k, lg_ M7 b k = lg_ M6 b k := fun b k => by rw [e7]; rfl
    have rf7 : ∀ b k, b ≠ T ∨ k ≠ 5 → rf_ M7 b k = rf_ M6 b k := fun b k hbk => by
      rw [e7, rf_sR, if_neg]
      rintro ⟨z1, z2⟩
      rcases hbk with z | z
      · exact z z1
      · exact z z2
    have rf75 : rf_ M7 T 5 = q := by rw [e7, rf_sR, if_pos ⟨rfl, rfl⟩]
    have sa7 : ∀ b, b ≠ T → Sa_ M6 M7 b := fun b hb k => ⟨rf7 b k (Or.inl hb), it7 b k, lg7 b k⟩
    have tT : ∀ k, k ≠ 5 → rf_ M7 T k = rf_ M2 T k := fun k hk => (rf7 T k (Or.inr hk)).trans (tt6 k).1
    have kdT7 : kd_ M7 T = 10 := by rw [kd7]; exact kT6
    have X7 : Gw_ (fun b => b = T) M6 M7 := by rw [e7]; exact Gw_.sR M6 5 q rfl
    -- the list of frames
    have kl := t2.2.1.1
    have lT : rf_ M2 T 1 ≠ T := kd_ne kl hS2.kT (by decide)
    have l3T : kd_ M3 (rf_ M2 T 1) = 1 := by rw [X3.kd (by rw [kl]; decide)]; exact kl
    have L4 : Ls_ ow3 M4 (rf_ M2 T 1) (m + 1) 2 := X4.1.ls (X4.it (fun e => by rw [e33] at e; exact kd_ne kl t2.2.2.2.1.1 (by decide) e) 2) L3
    have ar4 := (L4.arr (show 0 < m + 1 by omega))
    have L6 : Ls_ ow6 M6 (rf_ M2 T 1) (m + 1) 2 := X46.ls w46 id (fun _ => id) (by decide) L4
    have arT : rf_ M6 (rf_ M2 T 1) 1 ≠ T := fun e => by
      have := (L6.arr (show 0 < m + 1 by omega)).1
      rw [e] at this
      omega
    have L7 : Ls_ ow6 M7 (rf_ M2 T 1) (m + 1) 2 := X7.ls (fun _ _ => rfl) lT (fun _ => arT) (by decide) L6
    have el4 : ∀ i, i < m + 1 → el_ M4 (rf_ M2 T 1) i = bk_ M2 T m i := fun i hi => by
      rw [X4.1.el]
      by_cases e : i < m
      · rw [el3 i e]
        exact (if_pos e).symm
      · have : i = m := by omega
        rw [this, elm, ebm]
    have el7 : ∀ i, i < m + 1 → el_ M7 (rf_ M2 T 1) i = bk_ M2 T m i := fun i hi => by
      rw [X7.el L6 lT arT hi, X46.el L4 id id hi, el4 i hi]
    have bk7 : ∀ i, i ≤ m → bk_ M7 T (m + 1) i = bk_ M2 T m i := fun i hi => by
      have : bk_ M7 T (m + 1) i = el_ M7 (rf_ M7 T 1) i := if_pos (by omega)
      rw [this, tT 1 (by decide), el7 i (by omega)]
    have bk7m : bk_ M7 T (m + 1) (m + 1) = q := by
      have : bk_ M7 T (m + 1) (m + 1) = rf_ M7 T 5 := if_neg (by omega)
      rw [this, rf75]
    have hqold : ∀ b, kd_ M2 b ≠ 0 → b ≠ q := fun b hb e => by
      have : kd_ M4 b ≠ 0 := by rw [X24.kd hb]; exact hb
      exact this (by rw [e]; exact hq)
    -- columns
    have lc6 := ak_lc X26 hS2 w26
    have kc := t2.1.1
    have cT : rf_ M6 T 0 ≠ T := fun e => by
      rw [(tt6 0).1] at e
      exact kd_ne kc hS2.kT (by decide) e
    have lc7 : Ls_ ow6 M7 (rf_ M7 T 0) nc 3 := by
      rw [rf7 T 0 (Or.inr (by decide))]
      exact X7.ls (fun _ _ => rfl) cT (fun h26 e => by rw [e] at h26; omega) (by decide) lc6
    have cl7 : ∀ c, c < nc → cl_ M7 T c = cl_ M6 T c := fun c hc => by
      unfold cl_
      rw [rf7 T 0 (Or.inr (by decide))]
      refine X7.el lc6 cT (fun e => ?_) hc
      have := (lc6.arr hc).1
      rw [e] at this
      omega
    have kq6 : kd_ M6 q = 2 := by rw [X6.kd (by rw [kd_nwq]; decide), kd_nwq]
    have hTS7 : TS_ ow6 M7 T nc (m + 1) := ⟨hSH7, kdT7, lc7, hS2.nc8, by rw [tT 1 (by decide)]; exact L7, by rw [rf75, kd7]; exact kq6, fun i hi e => by
      rw [tT 1 (by decide), el7 i hi, rf75] at e
      exact hqold _ (by rw [hS2.bk i]; decide) e⟩
    -- the blocks' cells
    have own : ∀ i, i ≤ m → Sa_ M2 M7 (bk_ M2 T m i) ∧ Sa_ M2 M7 (rf_ M2 (bk_ M2 T m i) 0) ∧ Sa_ M2 M7 (rf_ M2 (bk_ M2 T m i) 1) ∧ ∀ z, z < 8 → Sa_ M2 M7 (rf_ M2 (rf_ M2 (bk_ M2 T m i) 1) z) := fun i hi => by
      obtain ⟨c0, c1, cz⟩ := hS2.bo i
      obtain ⟨n1, n2, n3, n4⟩ := hS2.hne (hS2.bk i)
      obtain ⟨s1, s2, s3, s4⟩ := rm_sa hS2 X3 i
      have st : ∀ b, kd_ M2 b ≠ 0 → kd_ M2 b ≠ 10 → b ≠ rf_ M2 T 3 → Sa_ M2 M3 b → Sa_ M2 M7 b := fun b hb hb10 hb3 hsa k => by
        have hT' : b ≠ T := fun e => hb10 (by rw [e]; exact hS2.kT)
        have hk3 : kd_ M4 b ≠ 0 := by rw [X24.kd hb]; exact hb
        obtain ⟨p1, p2, p3⟩ := hsa k
        obtain ⟨q1, q2, q3⟩ := X46.2 b hk3 id k
        have n3 : ¬ b = rf_ M3 T 3 := by rw [e33]; exact hb3
        exact ⟨by rw [rf7 b k (Or.inl hT'), q1, X4.rf, p1], by rw [it7, q2, X4.it n3, p2], by rw [lg7, q3, X4.lg n3, p3]⟩
      have kb := hS2.bk i
      have k0 := c0.1
      have k1' := c1.1
      exact ⟨st _ (by omega) (by omega) n1 s1, st _ (by omega) (by omega) n2 s2, st _ (by omega) (by omega) n3 s3, fun z hz => st _ (by rw [(cz z hz).1]; decide) (by rw [(cz z hz).1]; decide) (n4 z hz) (s4 z hz)⟩
    have hm7 : ∀ r, hm_ M7 T r = it_ M4 (rf_ M2 T 3) r := fun r => by
      have k3 := t2.2.2.2.1.1
      unfold hm_
      rw [tT 3 (by decide), it7]
      exact X46.it (by rw [X24.kd (by rw [k3]; decide), k3]; decide) id r
    have hm3 : ∀ r, it_ M3 (rf_ M2 T 3) r = hm_ M2 T r := fun r => by
      have k3 := t2.2.2.2.1.1
      refine X3.it (by rw [k3]; decide) (fun e => ?_) r
      rcases e with e | e
      · exact kd_ne k3 kl (by decide) e
      · have a := hS2.ar1
        rw [← e] at a
        omega
    have hmA : ∀ r, r < 600 → mb_ M2 (bk_ M2 T m m) (up_ kk m k1 m) r → hm_ M7 T r = nI m := fun r hr hmm => by
      rw [hm7, ← e33]
      exact a1 m r (Nat.le_refl m) (by omega) hr (by rw [eel]; exact (mb3 r).mpr hmm)
    have hmN : ∀ r, r < 600 → ¬ mb_ M2 (bk_ M2 T m m) (up_ kk m k1 m) r → hm_ M7 T r = hm_ M2 T r := fun r hr hmm => by
      rw [hm7, ← e33, a2 r hr (fun f f1 f2 z => ?_), e33, hm3]
      have : f = m := by omega
      rw [this, eel] at z
      exact hmm ((mb3 r).mp z)
    have al7 : ∀ r, al_ M7 T r = al_ M2 T r := fun r => by
      have q := ak_al X26 hS2 r
      unfold al_ at q ⊢
      rw [rf7 T 2 (Or.inr (by decide)), it7]
      exact q
    have hm2 := hS2.m2
    have hvm : hv_ m m = -1 := if_neg (Nat.lt_irrefl m)
    have u7 : ∀ j, j ≤ m → up_ (up_ kk m k1) (m + 1) 0 j = up_ kk m k1 j := fun j hj => up_o _ _ (by omega)
    refine hK M7 ow6 (m + 1) _ (fun b hb => ?_) ?_ (Nat.le_refl _) ⟨up_ (up_ kk m k1) (m + 1) 0, hTS7, ⟨fun j hj => ?_, fun j r hj hr hmm => ?_, fun j r hj hr e => ?_, fun r hr => ?_, fun r hr e => ?_⟩, fun j hj hz => ?_, ?_, ?_⟩
    · have h1k : kd_ M1 b ≠ 0 := by rw [X1.kd hb]; exact hb
      have h2k : kd_ M2 b ≠ 0 := by rw [X2.kd h1k]; exact h1k
      exact w26 b h2k
    · refine ((X1.ta Y1.1 hS1 X2).ta (E2.trans Y1.1) hS2 X26).tr' X7 (fun b _ z => ?_)
      rw [z]
      exact Or.inr (Or.inr (Or.inr (Or.inr (Or.inl hS.kT))))
    · by_cases e : j = m + 1
      · rw [e, bk7m, up_s]
        exact ⟨by rw [it7, i6, it_nwq]; rfl, by omega, fun z hz => by omega⟩
      · rw [bk7 j (by omega), u7 j (by omega)]
        obtain ⟨s1, s2, -⟩ := own j (by omega)
        exact BR_sa (s1 2).2.1 (s1 0).1 (fun z _ => (s2 z).2.1) (hTH2.1 j (by omega))
    · by_cases e : j = m + 1
      · rw [e, up_s] at hmm
        obtain ⟨z, hz, -⟩ := hmm
        omega
      · rw [bk7 j (by omega), u7 j (by omega)] at hmm
        obtain ⟨s1, s2, -⟩ := own j (by omega)
        rw [mb_sa (s1 0).1 (fun z _ => (s2 z).2.1)] at hmm
        have hv : hv_ (m + 1) j = nI j := if_pos (by omega)
        rw [hv]
        by_cases e' : j = m
        · rw [e'] at hmm ⊢
          exact hmA r hr hmm
        · have g := hTH2.2.1 j r (by omega) hr hmm
          rw [hmN r hr (fun z => ?_), g]
          · exact if_pos (by omega)
          · have g2 := hTH2.2.1 m r (Nat.le_refl m) hr z
            exact e' (nhv (by omega) hm2 (Nat.le_refl m) (g.symm.trans g2))
    · have hr6 : r < 600 := by omega
      by_cases hmm : mb_ M2 (bk_ M2 T m m) (up_ kk m k1 m) r
      · rw [hmA r hr6 hmm] at e
        have ej : m = j := nI_inj (by omega) (by omega) e
        subst ej
        obtain ⟨s1, s2, -⟩ := own m (Nat.le_refl m)
        rw [bk7 m (Nat.le_refl m), u7 m (Nat.le_refl m), mb_sa (s1 0).1 (fun z _ => (s2 z).2.1)]
        exact hmm
      · rw [hmN r hr6 hmm] at e
        by_cases ej : j = m
        · rw [ej] at e
          rcases hTH2.2.2.2.1 r hr with z | z | ⟨i, hi, z⟩
          · rw [z] at e
            exact absurd e.symm (nI_ne1 (by omega)).1
          · rw [z] at e
            exact absurd e.symm (nI_ne1 (by omega)).2
          · rw [z] at e
            have := nI_inj (by omega) (by omega) e
            omega
        · obtain ⟨s1, s2, -⟩ := own j (by omega)
          rw [bk7 j (by omega), u7 j (by omega), mb_sa (s1 0).1 (fun z _ => (s2 z).2.1)]
          exact hTH2.2.2.1 j r (by omega) hr e
    · have hr6 : r < 600 := by omega
      by_cases hmm : mb_ M2 (bk_ M2 T m m) (up_ kk m k1 m) r
      · exact Or.inr (Or.inr ⟨m, by omega, hmA r hr6 hmm⟩)
      · rw [hmN r hr6 hmm]
        rcases hTH2.2.2.2.1 r hr with z | z | ⟨i, hi, z⟩
        · exact Or.inl z
        · exact Or.inr (Or.inl z)
        · exact Or.inr (Or.inr ⟨i, by omega, z⟩)
    · have hr6 : r < 600 := by omega
      rw [al7]
      by_cases hmm : mb_ M2 (bk_ M2 T m m) (up_ kk m k1 m) r
      · rw [hmA r hr6 hmm] at e
        exact absurd e (nI_ne1 (by omega)).2
      · rw [hmN r hr6 hmm] at e
        exact hTH2.2.2.2.2 r hr e
    · have hz : j < m + 1 := hz
      rw [bk7 j (by omega), u7 j (by omega)]
      have g := h2.2.2.1 j (by omega) (by
        by_cases e : j = m
        · exact Or.inr e
        · exact Or.inl ⟨by omega, e⟩)
      obtain ⟨s1, s2, s3, s4⟩ := own j (by omega)
      refine ⟨g.1, ?_⟩
      have fz := FZ_.keep (nc := nc) (C := cl_ M2 T) (M' := M7) s1 s3 (fun c hc => s4 c (by have := hS2.nc8; omega)) (fun z _ => (s2 z).2.1) (fun c hc => ?_) (fun c z r hc _ _ _ => ?_) g.2
      · refine ⟨fun c hc => ?_, fz.2⟩
        rw [cl7 c hc, ak_cl X26 hS2 hc]
        exact fz.1 c hc
      · have q := (ak_cc X26 hS2 hc).1
        have n : cl_ M2 T c ≠ T := kd_ne (hS2.cl hc) hS2.kT (by decide)
        exact ⟨by rw [rf7 _ _ (Or.inl n)]; exact (q 0).1, by rw [rf7 _ _ (Or.inl n)]; exact (q 1).1⟩
      · have q := ak_cc X26 hS2 hc
        exact ⟨by rw [it7]; exact q.2.1 r, by rw [it7]; exact q.2.2 r⟩
    · have hN := h2.2.2.2.1.ak X26 hS2
      unfold TN_ al_ at hN ⊢
      simp only [it7, rf7 T 2 (Or.inr (by decide))]
      exact hN
    · have hC := h2.2.2.2.2.ak X26 hS2
      intro c r hc hr hl
      have n : cl_ M6 T c ≠ T := by rw [ak_cl X26 hS2 hc]; exact kd_ne (hS2.cl hc) hS2.kT (by decide)
      rw [cl7 c hc, rf7 _ _ (Or.inl n), it7] at hl ⊢
      exact hC c r hc hr hl
theorem sp_sealIfFull {K : Mm → Prop} (h : TF_ ow M T nc m R sz) (hm : m ≤ 105) (hK : ∀ M' ow' m', (∀ b, kd_ M b ≠ 0 → ow' b = ow b) → Gw_ (TA_ ow M) M M' → m' ≤ m + 1 → TF_ ow' M' T nc m' R sz → K M') : wp_X8_sealIfFull T M K := by
  have h' := h
  obtain ⟨kk, h1⟩ := h'
  exact ⟨h1.1.kT, h1.1.kb, fun _ => hK M ow m (fun _ _ => rfl) (Gw_.refl _ _) (by omega) h, fun _ => sp_sealBuffer h hm (fun M' ow' m' r g1 g2 g3 g4 _ => hK M' ow' m' g1 g2 g3 g4)⟩
end SE
