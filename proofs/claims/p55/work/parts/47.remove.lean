/-! removeFrame -/
section RM
variable {ow : Nat → Nat × Nat} {M M' : Mm} {T nc m R sz d : Nat} {kk : Nat → Nat} {vh : Nat → Int32} {Z : Nat → Prop}
theorem rm_ts (hS : TS_ ow M T nc m) (hd : d < m) (h : Rm_ ow M (rf_ M T 1) m 2 d M') : TS_ ow M' T nc (m - 1) ∧ Gw_ (AK_ ow M T) M M' ∧ (∀ j, j ≤ m - 1 → bk_ M' T (m - 1) j = sk_ d (bk_ M T m) j) ∧ M'.1 = M.1 := by
  obtain ⟨X, e1, L, hel⟩ := h
  have X2 : Gw_ (AK_ ow M T) M M' := X.mono (fun b _ hb => by
    rcases hb with e | e
    · rw [e]; exact Or.inr (Or.inr (Or.inr (Or.inr (Or.inl rfl))))
    · rw [e]; exact Or.inr (Or.inr (Or.inr (Or.inr (Or.inr rfl)))))
  have t := ak_T X2 hS
  have ek : ∀ b, kd_ M' b = kd_ M b := fun b => by unfold kd_; rw [e1]
  have e5 : rf_ M' T 5 = rf_ M T 5 := (t 5).1
  have e1' : rf_ M' T 1 = rf_ M T 1 := (t 1).1
  have hbk : ∀ j, j ≤ m - 1 → bk_ M' T (m - 1) j = sk_ d (bk_ M T m) j := fun j hj => by
    simp only [bk_, sk_]
    rw [e5, e1']
    by_cases h1 : j < m - 1
    · rw [if_pos h1, hel j h1]
      by_cases h2 : j < d
      · rw [if_pos h2, if_pos h2, if_pos (by omega)]
      · rw [if_neg h2, if_neg h2, if_pos (by omega)]
    · rw [if_neg h1, if_neg (by omega), if_neg (by omega)]
  have hSH : SH_ ow M' := X.sh (fun _ _ => rfl) (fun b hb => by
    rcases hb with e | e
    · rw [e]; exact Or.inl hS.t.2.1.1
    · rw [e]
      rcases hS.ar1 with z | z
      · exact Or.inr (Or.inl z.1)
      · exact Or.inr (Or.inr (Or.inl z))) (fun b hb => Or.inl (by rw [ek]; exact hb)) hS.sh
  refine ⟨⟨hSH, by rw [ek]; exact hS.kT, ak_lc X2 hS (fun _ _ => rfl), hS.nc8, by rw [e1']; exact L, by rw [e5, ek]; exact hS.kb, fun i hi => ?_⟩, X2, hbk, e1⟩
  rw [e1', e5, hel i hi]
  by_cases h2 : i < d
  · rw [if_pos h2]; exact hS.2.2.2.2.2.2 i (by omega)
  · rw [if_neg h2]; exact hS.2.2.2.2.2.2 (i + 1) (by omega)
theorem sk_ix {α : Type} (f : Nat → α) (d j : Nat) : sk_ d f j = f (if j < d then j else j + 1) := by
  unfold sk_
  by_cases h : j < d
  · rw [if_pos h, if_pos h]
  · rw [if_neg h, if_neg h]
theorem ix_sk {d j m : Nat} (hd : d < m) (hj : j ≤ m - 1) : (if j < d then j else j + 1) ≤ m ∧ (if j < d then j else j + 1) ≠ d ∧ (j < m - 1 ↔ (if j < d then j else j + 1) < m) ∧ (if (if j < d then j else j + 1) < d then (if j < d then j else j + 1) else (if j < d then j else j + 1) - 1) = j := by
  by_cases h : j < d
  · rw [if_pos h, if_pos h]; omega
  · rw [if_neg h, if_neg (by omega)]; omega
/-- the blocks' cells outside the two of the frames' list stay -/
theorem rm_sa (hS : TS_ ow M T nc m) (X : Gw_ (fun b => b = rf_ M T 1 ∨ b = rf_ M (rf_ M T 1) 1) M M') (i : Nat) : Sa_ M M' (bk_ M T m i) ∧ Sa_ M M' (rf_ M (bk_ M T m i) 0) ∧ Sa_ M M' (rf_ M (bk_ M T m i) 1) ∧ ∀ j, j < 8 → Sa_ M M' (rf_ M (rf_ M (bk_ M T m i) 1) j) := by
  have k := hS.bk i
  obtain ⟨b0, b1, bz⟩ := hS.bo i
  have t := hS.t.2.1.1
  have a := hS.ar1
  have d : ∀ b, kd_ M b ≠ 1 → kd_ M b ≠ 26 → kd_ M b ≠ 36 → kd_ M b ≠ 0 → Sa_ M M' b := fun b b1 b2 b3 b4 => X.sa b4 (fun e => by
    rcases e with e | e
    · exact b1 (by rw [e]; exact t)
    · rw [← e] at a; omega)
  have k0 := b0.1
  have k1 := b1.1
  refine ⟨d _ (by omega) (by omega) (by omega) (by omega), d _ (by omega) (by omega) (by omega) (by omega), d _ (by omega) (by omega) (by omega) (by omega), fun j hj => ?_⟩
  have k2 := (bz j hj).1
  exact d _ (by omega) (by omega) (by omega) (by omega)
theorem rm_tv (hS : TS_ ow M T nc m) (hd : d < m) (X : Gw_ (fun b => b = rf_ M T 1 ∨ b = rf_ M (rf_ M T 1) 1) M M') (hbk : ∀ j, j ≤ m - 1 → bk_ M' T (m - 1) j = sk_ d (bk_ M T m) j) (hal : ∀ r, al_ M' T r = al_ M T r) (hR : R ≤ 600) (g : TV_ M T m R kk vh d) : TV_ M' T (m - 1) R (sk_ d kk) (fun r => sh_ d (vh r)) m := by
  have hm2 := hS.m2
  have n12 := sh_n d (by omega)
  refine ⟨fun j hj _ => ?_, fun j r hj _ hr hm => ?_, fun j r hj hr e => ⟨by omega, ?_⟩, fun r hr => ?_, fun r hr e => ?_⟩
  · obtain ⟨q1, q2, q3, q4⟩ := ix_sk hd hj
    obtain ⟨s1, s2, -⟩ := rm_sa hS X (if j < d then j else j + 1)
    rw [hbk j hj, sk_ix, sk_ix]
    exact BR_sa (s1 2).2.1 (s1 0).1 (fun i _ => (s2 i).2.1) (g.1 _ q1 q2)
  · obtain ⟨q1, q2, q3, q4⟩ := ix_sk hd hj
    obtain ⟨s1, s2, -⟩ := rm_sa hS X (if j < d then j else j + 1)
    rw [hbk j hj, sk_ix, sk_ix, mb_sa (s1 0).1 (fun i _ => (s2 i).2.1)] at hm
    have e := g.2.1 _ r q1 q2 hr hm
    simp only [e]
    unfold hv_
    by_cases h : j < m - 1
    · rw [if_pos h, if_pos (q3.mp h), sh_i (by omega) (by omega) q2, q4]
    · rw [if_neg h, if_neg (fun z => h (q3.mpr z)), n12.1]
  · obtain ⟨q1, q2, q3, q4⟩ := ix_sk hd (show j ≤ m - 1 by omega)
    obtain ⟨s1, s2, -⟩ := rm_sa hS X (if j < d then j else j + 1)
    have e : sh_ d (vh r) = nI j := e
    rcases g.2.2.2.1 r hr with z | z | ⟨i, hi, z⟩
    · rw [z, n12.1] at e
      exact absurd e.symm (nI_ne1 (by omega)).1
    · rw [z, n12.2] at e
      exact absurd e.symm (nI_ne1 (by omega)).2
    · obtain ⟨hid, hmi⟩ := g.2.2.1 i r hi hr z
      rw [z, sh_i (by omega) (by omega) hid] at e
      have e2 := nI_inj (by split <;> omega) (by omega) e
      have e3 : i = if j < d then j else j + 1 := by
        by_cases h : i < d
        · rw [if_pos h] at e2
          rw [if_pos (by omega)]; omega
        · rw [if_neg h] at e2
          rw [if_neg (by omega)]; omega
      rw [hbk j (by omega), sk_ix, sk_ix, mb_sa (s1 0).1 (fun i _ => (s2 i).2.1), ← e3]
      exact hmi
  · rcases g.2.2.2.1 r hr with z | z | ⟨i, hi, z⟩
    · exact Or.inl (by simp only [z]; exact n12.1)
    · exact Or.inr (Or.inl (by simp only [z]; exact n12.2))
    · obtain ⟨hid, -⟩ := g.2.2.1 i r hi hr z
      refine Or.inr (Or.inr ⟨if i < d then i else i - 1, by split <;> omega, ?_⟩)
      simp only [z]
      exact sh_i (by omega) (by omega) hid
  · rw [hal]
    have e : sh_ d (vh r) = -2 := e
    rcases g.2.2.2.1 r hr with z | z | ⟨i, hi, z⟩
    · rw [z, n12.1] at e
      exact absurd e (by decide)
    · exact g.2.2.2.2 r hr z
    · obtain ⟨hid, -⟩ := g.2.2.1 i r hi hr z
      rw [z, sh_i (by omega) (by omega) hid] at e
      exact absurd e (nI_ne1 (by split <;> omega)).2
theorem rm_tz (hS : TS_ ow M T nc m) (hd : d < m) (X : Gw_ (fun b => b = rf_ M T 1 ∨ b = rf_ M (rf_ M T 1) 1) M M') (X2 : Gw_ (AK_ ow M T) M M') (hbk : ∀ j, j ≤ m - 1 → bk_ M' T (m - 1) j = sk_ d (bk_ M T m) j) (g : TZ_ M T nc m kk Z) : TZ_ M' T nc (m - 1) (sk_ d kk) (sk_ d Z) := by
  intro j hj hz
  obtain ⟨q1, q2, q3, q4⟩ := ix_sk hd hj
  obtain ⟨s1, s2, s3, s4⟩ := rm_sa hS X (if j < d then j else j + 1)
  rw [sk_ix] at hz
  rw [hbk j hj, sk_ix, sk_ix]
  have g1 := g _ q1 hz
  exact ⟨g1.1, FZ_.ak X2 hS s1 (fun i _ => (s2 i).2.1) s3 s4 g1.2⟩
theorem sp_removeV {K : Mm → Prop} (hS : TS_ ow M T nc m) (hd : d < m) (hR : R ≤ 600) (g : TV_ M T m R kk vh d) (gz : TZ_ M T nc m kk Z)
    (hK : ∀ M', Gw_ (AK_ ow M T) M M' → M'.1 = M.1 → TS_ ow M' T nc (m - 1) → TV_ M' T (m - 1) R (sk_ d kk) (fun r => sh_ d (vh r)) m → TZ_ M' T nc (m - 1) (sk_ d kk) (sk_ d Z) → (∀ j, j ≤ m - 1 → bk_ M' T (m - 1) j = sk_ d (bk_ M T m) j) → (∀ r, r < R → (∃ f, d ≤ f ∧ f < m - 1 ∧ sh_ d (vh r) = nI f) → hm_ M' T r = sh_ d (vh r)) → (∀ r, r < R → ¬ (∃ f, d ≤ f ∧ f < m - 1 ∧ sh_ d (vh r) = nI f) → hm_ M' T r = hm_ M T r) → K M') : wp_X8_removeFrame T (nI d) M K := by
  refine ⟨hS.kT, hS.t.2.1.1, sp_remove hS.lf hd (Or.inl rfl) (fun M1 q h _ => ?_)⟩
  obtain ⟨S1, X1, hbk, e1⟩ := rm_ts hS hd h
  have hal : ∀ r, al_ M1 T r = al_ M T r := fun r => ak_al X1 hS r
  have V1 := rm_tv hS hd h.1 hbk hal hR g
  have Z1 := rm_tz hS hd h.1 X1 hbk gz
  have t1 := ak_T X1 hS
  have eh : ∀ r, hm_ M1 T r = hm_ M T r := fun r => by
    unfold hm_
    rw [(t1 3).1]
    have t3 := hS.t.2.2.2.1
    exact h.1.it (by rw [t3.1]; decide) (fun e => by
      rcases e with e | e
      · exact kd_ne t3.1 hS.t.2.1.1 (by decide) e
      · have a := hS.ar1
        rw [← e] at a
        have := t3.1
        omega) r
  refine sp_numberV S1 hR V1 (by omega) (by omega) (fun M2 X2 a1 a2 n => ?_)
  have e3 : rf_ M1 T 3 = rf_ M T 3 := (t1 3).1
  have X12 : Gw_ (AK_ ow M T) M M2 := X1.tr (X2.gw.mono (fun b _ hb => by rw [hb, e3]; exact hS.ho))
  refine hK M2 X12 (X2.1.1.trans e1) (S1.home X2) (TV_.home S1 X2 V1) (TZ_.home S1 X2 Z1) (fun j hj => by rw [X2.1.bk]; exact hbk j hj) a1 (fun r hr hno => by rw [a2 r hr hno, eh])
end RM
