/-! Group, Query being made -/
section MQ
variable {ow owS ow1 ow2 ow' : Nat → Nat × Nat} {M MS M1 M2 M' : Mm} {S A : Nat → Prop} {T ck q c n k v a j : Nat} {P : List (Nat × Nat × Nat)}
/-- an object of a row of objects, a, that is T's -/
theorem BS_.elt {kc n0 : Nat} (h : BS_ ow M S owS MS ow1 M1 T ck P) (ha : own_ ow1 M1 T 0 kc n0) (hkc : kc = 24 ∨ kc = 25) (hn : kd_ M (rf_ M1 T 0) = 0) (hnS : kd_ MS (rf_ M1 T 0) = 0) (hq : kd_ M1 q = 0) (hc : c ≠ 0) (hB2 : BD_ ow M ow2 M2 S) (w : ∀ b, kd_ (nw_ M1 q c 0) b ≠ 0 → ow2 b = upd_ ow1 q (rf_ M1 T 0, j) b) (X : Gw_ (fun b => b = q) (nw_ M1 q c 0) M2) :
    BS_ ow M S owS MS ow2 (sR_ M2 (rf_ M1 T 0) j q) T ck P ∧ own_ ow2 (sR_ M2 (rf_ M1 T 0) j q) (rf_ M1 T 0) j c 0 ∧ (∀ z c', z ≠ j → c' ≠ 0 → own_ ow1 M1 (rf_ M1 T 0) z c' 0 → own_ ow2 (sR_ M2 (rf_ M1 T 0) j q) (rf_ M1 T 0) z c' 0 ∧ rf_ (sR_ M2 (rf_ M1 T 0) j q) (rf_ M1 T 0) z = rf_ M1 (rf_ M1 T 0) z ∧ ∀ i, it_ (sR_ M2 (rf_ M1 T 0) j q) (rf_ M1 (rf_ M1 T 0) z) i = it_ M1 (rf_ M1 (rf_ M1 T 0) z) i) ∧ rf_ (sR_ M2 (rf_ M1 T 0) j q) T 0 = rf_ M1 T 0 ∧ (∀ i, it_ (sR_ M2 (rf_ M1 T 0) j q) T i = it_ M1 T i) ∧ rf_ (sR_ M2 (rf_ M1 T 0) j q) (rf_ M1 T 0) j = q := by
  obtain ⟨hB, ⟨hS, h0, hkT, hc0, hc20⟩, hO, hw, hX⟩ := h
  have ka := ha.1
  generalize ea : rf_ M1 T 0 = a at *
  have hne : T ≠ q := fun e => by rw [e] at hkT; omega
  have hna : a ≠ q := fun e => by rw [e] at ka; omega
  have hTa : T ≠ a := fun e => by rw [e] at hkT; omega
  have kT' : kd_ (nw_ M1 q c 0) T = ck := by rw [kd_nwo hne]; exact hkT
  have ka' : kd_ (nw_ M1 q c 0) a = kc := by rw [kd_nwo hna]; exact ka
  have kT : kd_ M2 T = ck := by rw [X.kd (by omega)]; exact kT'
  have ka2 : kd_ M2 a = kc := by rw [X.kd (by omega)]; exact ka'
  have kq : kd_ M2 q = c := by rw [X.kd (by rw [kd_nwq]; exact hc), kd_nwq]
  have lq : ln_ M2 q = 0 := by rw [X.ln (by rw [kd_nwq]; exact hc), ln_nwq]
  have oq : ow2 q = (a, j) := by rw [w q (by rw [kd_nwq]; exact hc), upd_s]
  have oa : ow2 a = (T, 0) := by rw [w a (by omega), upd_o _ _ hna, ← ea]; exact ha.2.2
  refine ⟨⟨hB2.sR hn (Or.inr ⟨by omega, by rw [oa]; exact hS⟩), ⟨hS, h0, kT, hc0, hc20⟩, fun p hp => ⟨(hO p hp).1, own_sR (((hO.nw (c := c) (n := 0) (by omega) hq (a, j)).gw w X (by omega) hne) p hp).2 (Or.inl hTa)⟩, fun b hb => ?_, ⟨((hX.1.tr (Nk_nw_ hq)).tr X.1).tr (fun _ _ => rfl), fun b hb hbT i => ?_⟩⟩, own_set kq lq oq, fun z c' hz hc' hoz => ⟨own_sR (keep_own w X (own_nw (c' := c) (n' := 0) (o := (a, j)) hoz (by omega) hc' hq) (by omega) hna hc') (Or.inr hz), ?_, fun i => ?_⟩, ?_, fun i => ?_, ?_⟩
  · have hb1 : kd_ M1 b ≠ 0 := by rw [hX.kd hb]; exact hb
    have : b ≠ q := fun e => hb1 (by rw [e]; exact hq)
    rw [w b (by rw [kd_nwo this]; exact hb1), upd_o _ _ this]
    exact hw b hb
  · have hb1 : kd_ M1 b ≠ 0 := by rw [hX.kd hb]; exact hb
    have hbq : b ≠ q := fun e => hb1 (by rw [e]; exact hq)
    have hba : b ≠ a := fun e => hb (by rw [e]; exact hnS)
    obtain ⟨g1, g2, g3⟩ := hX.2 b hb hbT i
    obtain ⟨p1, p2, p3⟩ := X.2 b (by rw [kd_nwo hbq]; exact hb1) hbq i
    refine ⟨?_, ?_, ?_⟩
    · rw [rf_sR, if_neg (fun z => hba z.1), p1, rf_nwo hbq, g1]
    · show it_ M2 b i = _
      rw [p2, it_nwo hbq, g2]
    · show lg_ M2 b i = _
      rw [p3]
      exact (Gw_.nw (A := fun _ => False) hq).lg hb1 id i |>.trans g3
  · rw [rf_sR, if_neg (fun y => hz y.2), X.rf (by omega) hna, rf_nwo hna]
  · have k1 : kd_ M1 (rf_ M1 a z) ≠ 0 := by rw [hoz.1]; exact hc'
    have nq : rf_ M1 a z ≠ q := fun e => k1 (by rw [e]; exact hq)
    show it_ M2 (rf_ M1 a z) i = _
    rw [X.it (by rw [kd_nwo nq]; exact k1) nq, it_nwo nq]
  · rw [rf_sR, if_neg (fun y => hTa y.1), X.rf (by omega) hne, rf_nwo hne, ea]
  · show it_ M2 T i = _
    rw [X.it (by omega) hne, it_nwo hne]
  · rw [rf_sR, if_pos ⟨rfl, rfl⟩]
theorem lp_ginit_ok {K : Mm → Prop} {E : Nat → Nat → Mm → Prop} (hE : ∀ M2 ow2 c d, c ≤ 5 → d ≤ 16 → BS_ ow M S owS MS ow2 M2 T 5 [(0, 24, 4)] → (∀ z, z < 4 → own_ ow2 M2 (rf_ M2 T 0) z 4 0) → (∀ i, it_ M2 T i = it_ MS T i) → E c d M2) :
    ∀ f j M2 ow2, 4 - j < f → j ≤ 4 → BS_ ow M S owS MS ow2 M2 T 5 [(0, 24, 4)] → kd_ M (rf_ M2 T 0) = 0 → kd_ MS (rf_ M2 T 0) = 0 → (∀ z, z < j → own_ ow2 M2 (rf_ M2 T 0) z 4 0) → (∀ i, it_ M2 T i = it_ MS T i) → lp_X3_init_14 T K E f (nI j) (1 + j) (4 + 3 * j) M2 := by
  intro f
  induction f with
  | zero => intro j M2 ow2 h; omega
  | succ f ih =>
    intro j M2 ow2 hf hj hB hn hnS oz hit
    have o0 : own_ ow2 M2 T 0 24 4 := (hB.2.2.1 (0, 24, 4) (by decide)).2
    unfold lp_X3_init_14
    refine ⟨fun h => ?_, fun h => ?_⟩
    · have h := (le_nI (a := 4) (by omega) (by omega)).mp h
      have : j = 4 := by omega
      subst this
      exact hE M2 ow2 _ _ (by omega) (by omega) hB oz hit
    have hj4 : j < 4 := by
      have : ¬ 4 ≤ j := fun z => h ((le_nI (a := 4) (by omega) (by omega)).mpr z)
      omega
    refine ⟨o0.1, by omega, by omega, fun q11 _ hq M14 e14 => ⟨by omega, by omega, ?_⟩⟩
    subst e14
    refine ⟨kd_nwq _ _ _ _, fun _ => ?_⟩
    obtain ⟨z1, z2, z3, z4, z5, z6⟩ := hB.elt (j := j) (c := 4) o0 (Or.inl rfl) hn hnS hq (by decide) (hB.1.nwt (c := 4) (n := 0) hq (rf_ M2 T 0, j) (Or.inr (Or.inl rfl))) (fun _ _ => rfl) (Gw_.refl _ _)
    have na : rf_ M2 T 0 ≠ q11 := fun e => by have := o0.1; rw [e] at this; omega
    rw [ix_nI (by omega), nI_p1, ln_nwo na, o0.2.1]
    refine ⟨vi_ hj4 (by decide), fun M31 e31 => ?_⟩
    subst e31
    have next := ih (j + 1) _ _ (by omega) (by omega) z1 (by rw [z4]; exact hn) (by rw [z4]; exact hnS) (fun z hz => ?_) (fun i => (z5 i).trans (hit i))
    · rw [show 1 + (j + 1) = 1 + j + 1 by omega, show 4 + 3 * (j + 1) = 4 + 3 * j + 3 by omega] at next
      exact next
    · rw [z4]
      by_cases e : z = j
      · rw [e]; exact z2
      · exact (z3 z 4 e (by decide) (oz z (by omega))).1
theorem sp_ginit {K : Mm → Prop} (h : BD_ ow M ow1 M1 S) (hS : S T) (h0 : kd_ M T = 0) (hk : kd_ M1 T = 5) (hK : ∀ M2 ow2, BD_ ow M ow2 M2 (fun b => S b ∧ b ≠ T) → (∀ b, kd_ M1 b ≠ 0 → ow2 b = ow1 b) → Gw_ (fun b => b = T) M1 M2 → (∀ j, it_ M2 T j = it_ M1 T j) → K M2) : wp_X3_init T M1 K := by
  have b0 := BS_.start (ck := 5) h hS h0 hk (by decide) (by decide)
  refine ⟨hk, fun q1 _ h1 M4 e4 M8 e8 => ⟨5, ?_⟩⟩
  subst e4; subst e8
  rw [show ix_ (4 : Int32) = 4 from rfl]
  obtain ⟨b1, i1⟩ := b0.row (c := 24) (n := 4) (k := 0) h1 (by decide) (fun p hp => (by cases hp))
  have r1 : rf_ (sR_ (nw_ M1 q1 24 4) T 0 q1) T 0 = q1 := by rw [rf_sR, if_pos ⟨rfl, rfl⟩]
  refine lp_ginit_ok (fun M2 ow2 c d hc hd hB oz hi _ => ⟨hc, hd, hK M2 ow2 (hB.fin ?_) hB.2.2.2.1 hB.2.2.2.2 hi⟩) 5 0 _ _ (by omega) (by omega) b1 (by rw [r1]; exact h.new h1) (by rw [r1]; exact h1) (fun z hz => by omega) i1
  have o := hB.2.2.1
  unfold Sh_
  rw [hB.2.1.2.2.1]
  exact ⟨fun z => by omega, fun z => by omega, fun _ => ⟨(o (0, 24, 4) (by decide)).2, oz⟩, fun z => by omega, fun z => by omega, fun z => by omega, fun z => by omega, fun z => by omega, fun z => by omega, fun z => by omega⟩
theorem lp_qinit_ok {K : Mm → Prop} {E : Nat → Nat → Mm → Prop} (hE : ∀ M2 ow2 c d, c ≤ 25 → d ≤ 76 → BS_ ow M S owS MS ow2 M2 T 6 [(0, 25, 4)] → (∀ z, z < 4 → own_ ow2 M2 (rf_ M2 T 0) z 5 0) → (∀ z, z < 4 → ∀ i, it_ M2 (rf_ M2 (rf_ M2 T 0) z) i = 0) → it_ M2 T 1 = 1 → E c d M2) :
    ∀ f j M2 ow2, 4 - j < f → j ≤ 4 → BS_ ow M S owS MS ow2 M2 T 6 [(0, 25, 4)] → kd_ M (rf_ M2 T 0) = 0 → kd_ MS (rf_ M2 T 0) = 0 → (∀ z, z < j → own_ ow2 M2 (rf_ M2 T 0) z 5 0) → (∀ z, z < j → ∀ i, it_ M2 (rf_ M2 (rf_ M2 T 0) z) i = 0) → it_ M2 T 1 = 1 → lp_X4_init_19 T K E f (nI j) (1 + 6 * j) (4 + 18 * j) M2 := by
  intro f
  induction f with
  | zero => intro j M2 ow2 h; omega
  | succ f ih =>
    intro j M2 ow2 hf hj hB hn hnS oz hzi hit
    have o0 : own_ ow2 M2 T 0 25 4 := (hB.2.2.1 (0, 25, 4) (by decide)).2
    unfold lp_X4_init_19
    refine ⟨fun h => ?_, fun h => ?_⟩
    · have h := (le_nI (a := 4) (by omega) (by omega)).mp h
      have : j = 4 := by omega
      subst this
      exact hE M2 ow2 _ _ (by omega) (by omega) hB oz hzi hit
    have hj4 : j < 4 := by
      have : ¬ 4 ≤ j := fun z => h ((le_nI (a := 4) (by omega) (by omega)).mpr z)
      omega
    refine ⟨o0.1, by omega, by omega, fun q12 _ hq M15 e15 => ⟨by omega, by omega, ?_⟩⟩
    subst e15
    have na : rf_ M2 T 0 ≠ q12 := fun e => by have := o0.1; rw [e] at this; omega
    refine sp_ginit (hB.1.nw (c := 5) (n := 0) hq (rf_ M2 T 0, j)) (Or.inr rfl) (hB.1.new hq) (kd_nwq _ _ _ _) (fun M22 ow22 hB22 w22 X22 i22 _ => ?_)
    obtain ⟨z1, z2, z3, z4, z5, z6⟩ := hB.elt (j := j) (c := 5) o0 (Or.inr rfl) hn hnS hq (by decide) (hB22.set (fun b hb => hb.1.resolve_right hb.2)) w22 X22
    have l22 : ln_ M22 (rf_ M2 T 0) = 4 := by rw [X22.ln (by rw [kd_nwo na, o0.1]; decide), ln_nwo na, o0.2.1]
    rw [ix_nI (by omega), nI_p1, l22]
    refine ⟨vi_ hj4 (by decide), fun M32 e32 => ?_⟩
    subst e32
    have next := ih (j + 1) _ _ (by omega) (by omega) z1 (by rw [z4]; exact hn) (by rw [z4]; exact hnS) (fun z hz => ?_) (fun z hz i => ?_) ((z5 1).trans hit)
    · rw [show 1 + 6 * (j + 1) = 1 + 6 * j + 1 + 5 by omega, show 4 + 18 * (j + 1) = 4 + 18 * j + 2 + 16 by omega] at next
      exact next
    · rw [z4]
      by_cases e : z = j
      · rw [e]; exact z2
      · exact (z3 z 5 e (by decide) (oz z (by omega))).1
    · rw [z4]
      by_cases e : z = j
      · rw [e, z6]
        show it_ M22 q12 i = 0
        rw [i22, it_nwq]
      · obtain ⟨-, y2, y3⟩ := z3 z 5 e (by decide) (oz z (by omega))
        rw [y2, y3]
        exact hzi z (by omega) i
theorem sp_qinit {K : Mm → Prop} (h : BD_ ow M ow1 M1 S) (hS : S T) (h0 : kd_ M T = 0) (hk : kd_ M1 T = 6) (hK : ∀ M2 ow2, BD_ ow M ow2 M2 (fun b => S b ∧ b ≠ T) → (∀ b, kd_ M1 b ≠ 0 → ow2 b = ow1 b) → Gw_ (fun b => b = T) M1 M2 → it_ M2 T 1 = 1 → it_ M2 (gr_ M2 T 0) 1 = 0 → kd_ M2 (gr_ M2 T 0) = 5 → kd_ M2 (rf_ M2 T 0) = 25 → K M2) : wp_X4_init T M1 K := by
  have b0 := BS_.start (ck := 6) h hS h0 hk (by decide) (by decide)
  refine ⟨hk, fun q1 _ h1 M4 e4 M8 e8 M9 e9 => ⟨5, ?_⟩⟩
  subst e4; subst e8; subst e9
  rw [show ix_ (4 : Int32) = 4 from rfl]
  obtain ⟨b1, i1⟩ := b0.row (c := 25) (n := 4) (k := 0) h1 (by decide) (fun p hp => (by cases hp))
  have b2 := b1.sI 1 1
  have r1 : rf_ (sI_ (sR_ (nw_ M1 q1 25 4) T 0 q1) T 1 1) T 0 = q1 := by
    show rf_ (sR_ (nw_ M1 q1 25 4) T 0 q1) T 0 = q1
    rw [rf_sR, if_pos ⟨rfl, rfl⟩]
  refine lp_qinit_ok (fun M2 ow2 c d hc hd hB oz hzi hi _ => ⟨hc, hd, hK M2 ow2 (hB.fin ?_) hB.2.2.2.1 hB.2.2.2.2 hi (hzi 0 (by decide) 1) (oz 0 (by decide)).1 (hB.2.2.1 (0, 25, 4) (by decide)).2.1⟩) 5 0 _ _ (by omega) (by omega) b2 (by rw [r1]; exact h.new h1) (by rw [r1]; exact h1) (fun z hz => by omega) (fun z hz => by omega) (it_sIs _ _ _ _)
  have o := hB.2.2.1
  unfold Sh_
  rw [hB.2.1.2.2.1]
  exact ⟨fun z => by omega, fun z => by omega, fun z => by omega, fun _ => ⟨(o (0, 25, 4) (by decide)).2, oz⟩, fun z => by omega, fun z => by omega, fun z => by omega, fun z => by omega, fun z => by omega, fun z => by omega⟩
end MQ
