/-! what neither the table nor the query is: writes there change neither -/
def WA_ (ow : Nat → Nat × Nat) (M : Mm) (b : Nat) : Prop := kd_ M b = 3 ∨ kd_ M b = 7 ∨ kd_ M b = 8 ∨ kd_ M b = 12 ∨ ((kd_ M b = 20 ∨ kd_ M b = 21) ∧ (kd_ M (ow b).1 = 7 ∨ kd_ M (ow b).1 = 8 ∨ kd_ M (ow b).1 = 20))
/-- the search's own cells -/
def SA_ (ow : Nat → Nat × Nat) (M : Mm) (b : Nat) : Prop := kd_ M b = 8 ∨ ((kd_ M b = 20 ∨ kd_ M b = 21) ∧ kd_ M (ow b).1 = 8)
def gr_ (M : Mm) (Q g : Nat) : Nat := rf_ M (rf_ M Q 0) g
def cd_ (M : Mm) (Q g k : Nat) : Nat := rf_ M (rf_ M (gr_ M Q g) 0) k
def QI_ (M : Mm) (Q nc nq : Nat) (cq : Nat → Nat) : Prop := 1 ≤ nq ∧ nq ≤ 4 ∧ it_ M Q 1 = nI nq ∧ ∀ g, g < nq → cq g ≤ 4 ∧ it_ M (gr_ M Q g) 1 = nI (cq g) ∧ ∀ k, k < cq g → ∃ c, c < nc ∧ it_ M (cd_ M Q g k) 0 = nI c
section WV
variable {ow : Nat → Nat × Nat} {M M' : Mm} {T F Q nc m R sz nq i c r g k : Nat} {kk cq : Nat → Nat} {Z A : Nat → Prop}
theorem SA_.wa {b : Nat} (h : SA_ ow M b) : WA_ ow M b := by
  unfold SA_ at h
  unfold WA_
  omega
theorem WA_.xa {b : Nat} (h : WA_ ow M b) : XA_ ow M b := by
  unfold WA_ at h
  unfold XA_
  omega
theorem wa_k {b c : Nat} (h : kd_ M b = c) (hc : c = 1 ∨ c = 2 ∨ c = 4 ∨ c = 5 ∨ c = 6 ∨ c = 9 ∨ c = 10 ∨ c = 11 ∨ c = 22 ∨ c = 23 ∨ c = 24 ∨ c = 25 ∨ c = 26 ∨ c = 30 ∨ c = 36) : ¬ WA_ ow M b := by
  unfold WA_
  omega
theorem wa_o {a k c n : Nat} (h : own_ ow M a k c n) (ha : kd_ M a = 2 ∨ kd_ M a = 3 ∨ kd_ M a = 9 ∨ kd_ M a = 10 ∨ kd_ M a = 11) (hc : c = 20 ∨ c = 21) : ¬ WA_ ow M (rf_ M a k) := by
  obtain ⟨h1, -, h3⟩ := h
  unfold WA_
  rw [h1, h3]
  simp only
  omega
theorem sa_o {a k c n : Nat} (h : own_ ow M a k c n) (ha : kd_ M a ≠ 8) (hc : c ≠ 8) : ¬ SA_ ow M (rf_ M a k) := by
  obtain ⟨h1, -, h3⟩ := h
  unfold SA_
  rw [h1, h3]
  simp only
  omega
theorem TI_.wa (h : TI_ ow M T nc m R sz kk Z) (hX : Ex_ A M M') (hA : ∀ b, A b → WA_ ow M b) : TI_ ow M' T nc m R sz kk Z := by
  have hS := h.1
  exact h.out hX (fun b hb => (hA b hb).xa) (fun c r hc _ => ⟨hX.it (fun z => wa_o (hS.co hc).1 (Or.inr (Or.inl (hS.cl hc))) (by decide) (hA _ z)) r, hX.it (fun z => wa_o (hS.co hc).2 (Or.inr (Or.inl (hS.cl hc))) (by decide) (hA _ z)) r⟩)
theorem gr_k (hs : SH_ ow M) (hQ : kd_ M Q = 6) (hg : g < 4) : kd_ M (gr_ M Q g) = 5 := ((hs.qry hQ).2 g hg).1
theorem cd_k (hs : SH_ ow M) (hQ : kd_ M Q = 6) (hg : g < 4) (hk : k < 4) : kd_ M (cd_ M Q g k) = 4 := ((hs.grp (gr_k hs hQ hg)).2 k hk).1
theorem Sm_.gr (h : Sm_ M M') (Q g : Nat) : gr_ M' Q g = gr_ M Q g := by
  unfold gr_
  rw [h.rf, h.rf]
theorem Sm_.cd (h : Sm_ M M') (Q g k : Nat) : cd_ M' Q g k = cd_ M Q g k := by
  unfold cd_
  rw [h.gr, h.rf, h.rf]
theorem Sm_.zo (h : Sm_ M M') (T i c : Nat) : zo_ M' T i c = zo_ M T i c := by
  unfold zo_
  rw [h.rf, h.el, h.rf, h.rf]
theorem QI_.ex (h : QI_ M Q nc nq cq) (hs : SH_ ow M) (hQ : kd_ M Q = 6) (hX : Ex_ A M M') (hA : ∀ b, A b → kd_ M b ≠ 4 ∧ kd_ M b ≠ 5 ∧ kd_ M b ≠ 6) : QI_ M' Q nc nq cq := by
  obtain ⟨h1, h2, h3, h4⟩ := h
  refine ⟨h1, h2, by rw [hX.it (fun z => (hA _ z).2.2 hQ)]; exact h3, fun g hg => ?_⟩
  obtain ⟨g1, g2, g3⟩ := h4 g hg
  rw [hX.1.gr, hX.it (fun z => (hA _ z).2.1 (gr_k hs hQ (by omega)))]
  refine ⟨g1, g2, fun k hk => ?_⟩
  rw [hX.1.cd, hX.it (fun z => (hA _ z).1 (cd_k hs hQ (by omega) (by omega)))]
  exact g3 k hk
theorem QI_.wa (h : QI_ M Q nc nq cq) (hs : SH_ ow M) (hQ : kd_ M Q = 6) (hX : Ex_ A M M') (hA : ∀ b, A b → WA_ ow M b) : QI_ M' Q nc nq cq := h.ex hs hQ hX (fun b hb => ⟨fun e => wa_k e (by decide) (hA b hb), fun e => wa_k e (by decide) (hA b hb), fun e => wa_k e (by decide) (hA b hb)⟩)
theorem RI_.sa {Re n : Nat} (h : RI_ M Re R n) (hs : SH_ ow M) (hr : kd_ M Re = 7) (hX : Ex_ A M M') (hA : ∀ b, A b → SA_ ow M b) : RI_ M' Re R n := by
  have o := (hs.res hr).1
  refine ⟨h.1, by rw [hX.it (fun z => by have := hA _ z; unfold SA_ at this; omega)]; exact h.2.1, fun j hj => ?_⟩
  rw [hX.rf, hX.it (fun z => sa_o o (by omega) (by decide) (hA _ z))]
  exact h.2.2 j hj
/-! the digest doesn't read the search -/
theorem bmi_sa (h : TI_ ow M T nc m R sz kk (fun j => j < m)) (hX : Ex_ A M M') (hA : ∀ b, A b → SA_ ow M b) (hc : c < nc) (hz : ∀ i c, i < m → c < nc → kd_ M (zo_ M T i c) = 11) : ∀ f, f ≤ m → bmi_ M' T c f = bmi_ M T c f := by
  have hS := h.1
  intro f
  induction f with
  | zero => intro _; rfl
  | succ f ih =>
    intro hf
    unfold bmi_
    have nz : ¬ A (zo_ M T f c) := fun z => by
      have := hA _ z
      have := hz f c (by omega) hc
      unfold SA_ at *
      omega
    have nC : ¬ A (cl_ M T c) := fun z => by
      have := hA _ z
      have := hS.cl hc
      unfold SA_ at *
      omega
    rw [ih (by omega), hX.1.cl, hX.1.zo, hX.it nz, hX.it nz, hX.it nC]
theorem bmt_sa (h : TI_ ow M T nc m R sz kk (fun j => j < m)) (hX : Ex_ A M M') (hA : ∀ b, A b → SA_ ow M b) (hz : ∀ i c, i < m → c < nc → kd_ M (zo_ M T i c) = 11) : ∀ c, c ≤ nc → bmt_ M' T m c = bmt_ M T m c := by
  intro c
  induction c with
  | zero => intro _; rfl
  | succ c ih =>
    intro hc
    unfold bmt_
    rw [ih (by omega), bmi_sa h hX hA (by omega) hz m (Nat.le_refl m)]
theorem dg_sa (hF : kd_ M F = 12) (h : TI_ ow M (rf_ M F 0) nc m R sz kk (fun j => j < m)) (hX : Ex_ A M M') (hA : ∀ b, A b → SA_ ow M b) (n : Nat) : dg_ M' F nc m R n kk = dg_ M F nc m R n kk := by
  have hS := h.1
  have t := hS.t
  have f := hS.sh.cfr hF
  have q := hS.sh.res f.2.2.2.1
  have nk : ∀ b, kd_ M b ≠ 8 → kd_ M b ≠ 20 → kd_ M b ≠ 21 → ¬ A b := fun b h1 h2 h3 z => by
    have := hA _ z
    unfold SA_ at this
    omega
  have nT := nk (rf_ M F 0) (by rw [hS.kT]; decide) (by rw [hS.kT]; decide) (by rw [hS.kT]; decide)
  have nF := nk F (by rw [hF]; decide) (by rw [hF]; decide) (by rw [hF]; decide)
  have nb : ∀ i, ¬ A (bk_ M (rf_ M F 0) m i) := fun i => nk _ (by rw [hS.bk i]; decide) (by rw [hS.bk i]; decide) (by rw [hS.bk i]; decide)
  have nr : ∀ i, ¬ A (rf_ M (bk_ M (rf_ M F 0) m i) 0) := fun i z => sa_o (hS.bo i).1 (by rw [hS.bk i]; decide) (by decide) (hA _ z)
  have n5 : ¬ A (rf_ M (rf_ M F 0) 5) := nk _ (by rw [hS.kb]; decide) (by rw [hS.kb]; decide) (by rw [hS.kb]; decide)
  have n2 : ¬ A (rf_ M (rf_ M F 0) 2) := fun z => sa_o t.2.2.1 (by rw [hS.kT]; decide) (by decide) (hA _ z)
  have n3 : ¬ A (rf_ M (rf_ M F 0) 3) := fun z => sa_o t.2.2.2.1 (by rw [hS.kT]; decide) (by decide) (hA _ z)
  have nR : ¬ A (rf_ M (rf_ M F 3) 0) := fun z => sa_o q.1 (by rw [f.2.2.2.1]; decide) (by decide) (hA _ z)
  have hz : ∀ i c, i < m → c < nc → kd_ M (zo_ M (rf_ M F 0) i c) = 11 := fun i c hi hc => zo_k hS hi hc
  have nz : ∀ i c, i < m → c < nc → ¬ A (zo_ M (rf_ M F 0) i c) := fun i c hi hc => nk _ (by rw [hz i c hi hc]; decide) (by rw [hz i c hi hc]; decide) (by rw [hz i c hi hc]; decide)
  have nc0 : ∀ c, c < nc → ¬ A (rf_ M (cl_ M (rf_ M F 0) c) 0) ∧ ¬ A (rf_ M (cl_ M (rf_ M F 0) c) 1) := fun c hc => ⟨fun z => sa_o (hS.co hc).1 (by rw [hS.cl hc]; decide) (by decide) (hA _ z), fun z => sa_o (hS.co hc).2 (by rw [hS.cl hc]; decide) (by decide) (hA _ z)⟩
  unfold dg_
  have e0 : g0_ M' F nc m R n = g0_ M F nc m R n := by
    unfold g0_
    rw [hX.rf, hX.rf, bmt_sa h hX hA hz nc (Nat.le_refl nc), hX.it nT, hX.it n5, hX.it nF, hX.it nF]
  have e1 : gJ_ M' (rf_ M' (rf_ M' F 3) 0) = gJ_ M (rf_ M (rf_ M F 3) 0) := by
    funext d j
    unfold gJ_
    rw [hX.rf, hX.rf, hX.it nR]
  have e2 : ∀ d, fl_ (gR_ M' (rf_ M' F 0) nc) R d = fl_ (gR_ M (rf_ M F 0) nc) R d := fun d => fl_congr (fun r d _ => by
    unfold gR_
    rw [hX.rf F 0]
    have a : al_ M' (rf_ M F 0) r = al_ M (rf_ M F 0) r := by unfold al_; rw [hX.rf, hX.it n2]
    have b : hm_ M' (rf_ M F 0) r = hm_ M (rf_ M F 0) r := by unfold hm_; rw [hX.rf, hX.it n3]
    rw [a, b]
    refine fl_congr (fun c d hc => ?_) _
    unfold gC_ nu_ vl_
    rw [hX.1.cl, hX.rf, hX.rf, hX.it (nc0 c hc).1, hX.it (nc0 c hc).2]) d
  have e3 : ∀ d, fl_ (gB_ M' (rf_ M' F 0) m nc kk) m d = fl_ (gB_ M (rf_ M F 0) m nc kk) m d := fun d => fl_congr (fun i d hi => by
    unfold gB_
    rw [hX.rf F 0, hX.1.bk, hX.it (nb i), hX.it (nb i)]
    have ej : gJ_ M' (rf_ M' (bk_ M (rf_ M F 0) m i) 0) = gJ_ M (rf_ M (bk_ M (rf_ M F 0) m i) 0) := by
      funext d j
      unfold gJ_
      rw [hX.rf, hX.it (nr i)]
    rw [ej]
    refine fl_congr (fun c d hc => ?_) _
    unfold gZ_
    rw [hX.1.zo]
    have z := nz i c hi hc
    simp only [hX.it z]) d
  rw [e0, e1, e2, e3]
end WV
