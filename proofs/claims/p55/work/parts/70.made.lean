/-! the object being made -/
section MA
variable {ow owS ow1 ow2 ow' : Nat → Nat × Nat} {M MS M1 M2 M' : Mm} {S A : Nat → Prop} {T ck q c n k v : Nat} {P : List (Nat × Nat × Nat)}
/-- whose the cells of T's fields are, of which P tells -/
def OW_ (ow : Nat → Nat × Nat) (M : Mm) (T : Nat) (P : List (Nat × Nat × Nat)) : Prop := ∀ p, p ∈ P → p.2.1 ≠ 0 ∧ own_ ow M T p.1 p.2.1 p.2.2
theorem OW_.nw (h : OW_ ow M T P) (hT : kd_ M T ≠ 0) (hq : kd_ M q = 0) (o : Nat × Nat) : OW_ (upd_ ow q o) (nw_ M q c n) T P := fun p hp => ⟨(h p hp).1, own_nw (h p hp).2 hT (h p hp).1 hq⟩
theorem OW_.gw (h : OW_ ow M T P) (hw : ∀ b, kd_ M b ≠ 0 → ow' b = ow b) (X : Gw_ A M M') (hT : kd_ M T ≠ 0) (hA : ¬ A T) : OW_ ow' M' T P := fun p hp => ⟨(h p hp).1, keep_own hw X (h p hp).2 hT hA (h p hp).1⟩
theorem OW_.add (h : OW_ ow M T P) (hk : ∀ p, p ∈ P → p.1 ≠ k) (hc : c ≠ 0) (h1 : kd_ M q = c) (h2 : ln_ M q = n) (h3 : ow q = (T, k)) : OW_ ow (sR_ M T k q) T ((k, c, n) :: P) := fun p hp => by
  rcases List.mem_cons.mp hp with e | e
  · rw [e]
    exact ⟨hc, own_set h1 h2 h3⟩
  · exact ⟨(h p e).1, own_sR (h p e).2 (Or.inr (hk p e))⟩
/-- T is being made: from M all that is made, from MS the making of T itself -/
def BS_ (ow : Nat → Nat × Nat) (M : Mm) (S : Nat → Prop) (owS : Nat → Nat × Nat) (MS : Mm) (ow1 : Nat → Nat × Nat) (M1 : Mm) (T ck : Nat) (P : List (Nat × Nat × Nat)) : Prop := BD_ ow M ow1 M1 S ∧ (S T ∧ kd_ M T = 0 ∧ kd_ M1 T = ck ∧ ck ≠ 0 ∧ ck < 20) ∧ OW_ ow1 M1 T P ∧ (∀ b, kd_ MS b ≠ 0 → ow1 b = owS b) ∧ Gw_ (fun b => b = T) MS M1
theorem BS_.start (h : BD_ ow M ow1 M1 S) (hS : S T) (h0 : kd_ M T = 0) (hk : kd_ M1 T = ck) (hc : ck ≠ 0) (hc2 : ck < 20) : BS_ ow M S ow1 M1 ow1 M1 T ck [] := ⟨h, ⟨hS, h0, hk, hc, hc2⟩, fun p hp => (by cases hp), fun _ _ => rfl, Gw_.refl _ _⟩
theorem BS_.row (h : BS_ ow M S owS MS ow1 M1 T ck P) (hq : kd_ M1 q = 0) (hc : c = 20 ∨ c = 21 ∨ c = 22 ∨ c = 23 ∨ c = 24 ∨ c = 25) (hk : ∀ p, p ∈ P → p.1 ≠ k) : BS_ ow M S owS MS (upd_ ow1 q (T, k)) (sR_ (nw_ M1 q c n) T k q) T ck ((k, c, n) :: P) ∧ ∀ j, it_ (sR_ (nw_ M1 q c n) T k q) T j = it_ M1 T j := by
  obtain ⟨hB, ⟨hS, h0, hkT, hc0, hc20⟩, hO, hw, hX⟩ := h
  have hne : T ≠ q := fun e => by rw [e] at hkT; omega
  have kT : kd_ (nw_ M1 q c n) T = ck := by rw [kd_nwo hne]; exact hkT
  refine ⟨⟨(hB.nwt hq (T, k) (by omega)).sR h0 (Or.inl ⟨hS, by omega, by omega, by omega⟩), ⟨hS, h0, kT, hc0, hc20⟩, (hO.nw (by omega) hq (T, k)).add hk (by omega) (kd_nwq _ _ _ _) (ln_nwq _ _ _ _) (upd_s _ _ _), fun b hb => ?_, (hX.tr (Gw_.nw hq)).tr (Gw_.sR _ k q rfl)⟩, fun j => (it_nwo (c := c) (n := n) hne j : it_ (nw_ M1 q c n) T j = it_ M1 T j)⟩
  have : b ≠ q := fun e => by
    have := hX.kd hb
    rw [e] at this hb
    omega
  rw [upd_o _ _ this]
  exact hw b hb
theorem BS_.sI (h : BS_ ow M S owS MS ow1 M1 T ck P) (j : Nat) (w : Int32) : BS_ ow M S owS MS ow1 (sI_ M1 T j w) T ck P := by
  obtain ⟨hB, hT, hO, hw, hX⟩ := h
  have hs : Sm_ M1 (sI_ M1 T j w) := ⟨rfl, rfl⟩
  refine ⟨⟨hB.1, ⟨hB.2.1.1, fun b hb hA i => ?_⟩, fun a ha => hB.2.2 a ha⟩, hT, hO, hw, hX.tr (Gw_.sI _ j w rfl)⟩
  obtain ⟨g1, g2, g3⟩ := hB.2.1.2 b hb hA i
  have : b ≠ T := fun e => hb (by rw [e]; exact hT.2.1)
  exact ⟨g1, (it_sIa this).trans g2, g3⟩
/-- an object made within it has been made -/
theorem BS_.sub (h : BS_ ow M S owS MS ow1 M1 T ck P) (hq : kd_ M1 q = 0) (hc : c ≠ 0) (hB2 : BD_ ow M ow2 M2 (fun b => (S b ∨ b = q) ∧ b ≠ q)) (w : ∀ b, kd_ (nw_ M1 q c 0) b ≠ 0 → ow2 b = upd_ ow1 q (T, k) b) (X : Gw_ (fun b => b = q) (nw_ M1 q c 0) M2) (hk : ∀ p, p ∈ P → p.1 ≠ k) : BS_ ow M S owS MS ow2 (sR_ M2 T k q) T ck ((k, c, 0) :: P) ∧ ∀ j, it_ (sR_ M2 T k q) T j = it_ M1 T j := by
  obtain ⟨hB, ⟨hS, h0, hkT, hc0, hc20⟩, hO, hw, hX⟩ := h
  have hne : T ≠ q := fun e => by rw [e] at hkT; omega
  have kT' : kd_ (nw_ M1 q c 0) T = ck := by rw [kd_nwo hne]; exact hkT
  have kT : kd_ M2 T = ck := by rw [X.kd (by omega)]; exact kT'
  have kq : kd_ M2 q = c := by rw [X.kd (by rw [kd_nwq]; exact hc), kd_nwq]
  have lq : ln_ M2 q = 0 := by rw [X.ln (by rw [kd_nwq]; exact hc), ln_nwq]
  have oq : ow2 q = (T, k) := by rw [w q (by rw [kd_nwq]; exact hc), upd_s]
  have hB3 : BD_ ow M ow2 M2 S := hB2.set (fun b hb => hb.1.resolve_right hb.2)
  refine ⟨⟨hB3.sR h0 (Or.inl ⟨hS, by omega, by omega, by omega⟩), ⟨hS, h0, kT, hc0, hc20⟩, ((hO.nw (by omega) hq (T, k)).gw w X (by omega) hne).add hk hc kq lq oq, fun b hb => ?_, ⟨?_, fun b hb hbT j => ?_⟩⟩, fun j => ?_⟩
  · have hb1 : kd_ M1 b ≠ 0 := by rw [hX.kd hb]; exact hb
    have : b ≠ q := fun e => hb1 (by rw [e]; exact hq)
    rw [w b (by rw [kd_nwo this]; exact hb1), upd_o _ _ this]
    exact hw b hb
  · exact ((hX.1.tr (Nk_nw_ hq)).tr X.1).tr (fun _ _ => rfl)
  · have hb1 : kd_ M1 b ≠ 0 := by rw [hX.kd hb]; exact hb
    have hbq : b ≠ q := fun e => hb1 (by rw [e]; exact hq)
    obtain ⟨g1, g2, g3⟩ := hX.2 b hb hbT j
    obtain ⟨p1, p2, p3⟩ := X.2 b (by rw [kd_nwo hbq]; exact hb1) hbq j
    refine ⟨?_, ?_, ?_⟩
    · rw [rf_sR, if_neg (fun z => hbT z.1), p1, rf_nwo hbq, g1]
    · show it_ M2 b j = _
      rw [p2, it_nwo hbq, g2]
    · show lg_ M2 b j = _
      rw [p3]
      exact (Gw_.nw (A := fun _ => False) hq).lg hb1 id j |>.trans g3
  · show it_ M2 T j = _
    rw [X.it (by omega) hne, it_nwo hne]
theorem BS_.fin (h : BS_ ow M S owS MS ow1 M1 T ck P) (hs : Sh_ ow1 M1 T) : BD_ ow M ow1 M1 (fun b => S b ∧ b ≠ T) := h.1.fin (q := T) hs (fun b hb => by
  by_cases e : b = T
  · exact Or.inr e
  · exact Or.inl ⟨hb, e⟩)
/-! the rows alone: Result, Search, Sorter, Column -/
theorem sp_rinit {K : Mm → Prop} (h : BD_ ow M ow1 M1 S) (hS : S T) (h0 : kd_ M T = 0) (hk : kd_ M1 T = 7) (hK : ∀ M2 ow2, BD_ ow M ow2 M2 (fun b => S b ∧ b ≠ T) → (∀ b, kd_ M1 b ≠ 0 → ow2 b = ow1 b) → Gw_ (fun b => b = T) M1 M2 → (∀ j, it_ M2 T j = it_ M1 T j) → K M2) : wp_X5_init T M1 K := by
  have b0 := BS_.start (ck := 7) h hS h0 hk (by decide) (by decide)
  refine ⟨hk, fun q1 _ h1 M4 e4 M8 e8 q9 _ h9 M12 e12 M16 e16 q17 _ h17 M20 e20 M24 e24 q25 _ h25 M28 e28 M32 e32 => ?_⟩
  subst e4; subst e8; subst e12; subst e16; subst e20; subst e24; subst e28; subst e32
  rw [show ix_ (600 : Int32) = 600 from rfl, show ix_ (601 : Int32) = 601 from rfl] at *
  obtain ⟨b1, i1⟩ := b0.row (c := 20) (n := 600) (k := 0) h1 (by decide) (fun p hp => by cases hp)
  obtain ⟨b2, i2⟩ := b1.row (c := 20) (n := 600) (k := 3) h9 (by decide) (by decide)
  obtain ⟨b3, i3⟩ := b2.row (c := 20) (n := 600) (k := 5) h17 (by decide) (by decide)
  obtain ⟨b4, i4⟩ := b3.row (c := 20) (n := 601) (k := 6) h25 (by decide) (by decide)
  have o := b4.2.2.1
  refine hK _ _ (b4.fin ?_) b4.2.2.2.1 b4.2.2.2.2 (fun j => by rw [i4, i3, i2, i1])
  unfold Sh_
  rw [b4.2.1.2.2.1]
  exact ⟨fun z => by omega, fun z => by omega, fun z => by omega, fun z => by omega, fun _ => ⟨(o (0, 20, 600) (by decide)).2, (o (3, 20, 600) (by decide)).2, (o (5, 20, 600) (by decide)).2, (o (6, 20, 601) (by decide)).2⟩, fun z => by omega, fun z => by omega, fun z => by omega, fun z => by omega, fun z => by omega⟩
theorem sp_sinit {K : Mm → Prop} (h : BD_ ow M ow1 M1 S) (hS : S T) (h0 : kd_ M T = 0) (hk : kd_ M1 T = 8) (hK : ∀ M2 ow2, BD_ ow M ow2 M2 (fun b => S b ∧ b ≠ T) → (∀ b, kd_ M1 b ≠ 0 → ow2 b = ow1 b) → Gw_ (fun b => b = T) M1 M2 → (∀ j, it_ M2 T j = it_ M1 T j) → K M2) : wp_X6_init T M1 K := by
  have b0 := BS_.start (ck := 8) h hS h0 hk (by decide) (by decide)
  refine ⟨hk, fun q1 _ h1 M4 e4 M8 e8 q9 _ h9 M12 e12 M16 e16 q17 _ h17 M20 e20 M24 e24 q25 _ h25 M28 e28 M32 e32 q33 _ h33 M36 e36 M40 e40 => ?_⟩
  subst e4; subst e8; subst e12; subst e16; subst e20; subst e24; subst e28; subst e32; subst e36; subst e40
  rw [show ix_ (600 : Int32) = 600 from rfl, show ix_ (64 : Int32) = 64 from rfl, show ix_ (4 : Int32) = 4 from rfl] at *
  obtain ⟨b1, i1⟩ := b0.row (c := 20) (n := 600) (k := 0) h1 (by decide) (fun p hp => by cases hp)
  obtain ⟨b2, i2⟩ := b1.row (c := 21) (n := 64) (k := 5) h9 (by decide) (by decide)
  obtain ⟨b3, i3⟩ := b2.row (c := 21) (n := 64) (k := 7) h17 (by decide) (by decide)
  obtain ⟨b4, i4⟩ := b3.row (c := 20) (n := 4) (k := 8) h25 (by decide) (by decide)
  obtain ⟨b5, i5⟩ := b4.row (c := 20) (n := 4) (k := 9) h33 (by decide) (by decide)
  have o := b5.2.2.1
  refine hK _ _ (b5.fin ?_) b5.2.2.2.1 b5.2.2.2.2 (fun j => by rw [i5, i4, i3, i2, i1])
  unfold Sh_
  rw [b5.2.1.2.2.1]
  exact ⟨fun z => by omega, fun z => by omega, fun z => by omega, fun z => by omega, fun z => by omega, fun _ => ⟨(o (0, 20, 600) (by decide)).2, (o (5, 21, 64) (by decide)).2, (o (7, 21, 64) (by decide)).2, (o (8, 20, 4) (by decide)).2, (o (9, 20, 4) (by decide)).2⟩, fun z => by omega, fun z => by omega, fun z => by omega, fun z => by omega⟩
theorem sp_soinit {K : Mm → Prop} (h : BD_ ow M ow1 M1 S) (hS : S T) (h0 : kd_ M T = 0) (hk : kd_ M1 T = 9) (hK : ∀ M2 ow2, BD_ ow M ow2 M2 (fun b => S b ∧ b ≠ T) → (∀ b, kd_ M1 b ≠ 0 → ow2 b = ow1 b) → Gw_ (fun b => b = T) M1 M2 → (∀ j, it_ M2 T j = it_ M1 T j) → K M2) : wp_X7_init T M1 K := by
  have b0 := BS_.start (ck := 9) h hS h0 hk (by decide) (by decide)
  refine ⟨hk, fun q1 _ h1 M4 e4 M8 e8 q9 _ h9 M12 e12 M16 e16 => ?_⟩
  subst e4; subst e8; subst e12; subst e16
  rw [show ix_ (600 : Int32) = 600 from rfl] at *
  obtain ⟨b1, i1⟩ := b0.row (c := 22) (n := 600) (k := 0) h1 (by decide) (fun p hp => by cases hp)
  obtain ⟨b2, i2⟩ := b1.row (c := 20) (n := 600) (k := 1) h9 (by decide) (by decide)
  have o := b2.2.2.1
  refine hK _ _ (b2.fin ?_) b2.2.2.2.1 b2.2.2.2.2 (fun j => by rw [i2, i1])
  unfold Sh_
  rw [b2.2.1.2.2.1]
  exact ⟨fun z => by omega, fun z => by omega, fun z => by omega, fun z => by omega, fun z => by omega, fun z => by omega, fun _ => ⟨(o (0, 22, 600) (by decide)).2, (o (1, 20, 600) (by decide)).2⟩, fun z => by omega, fun z => by omega, fun z => by omega⟩
theorem sp_cinit {K : Mm → Prop} (h : BD_ ow M ow1 M1 S) (hS : S T) (h0 : kd_ M T = 0) (hk : kd_ M1 T = 3) (hK : ∀ M2 ow2, BD_ ow M ow2 M2 (fun b => S b ∧ b ≠ T) → (∀ b, kd_ M1 b ≠ 0 → ow2 b = ow1 b) → Gw_ (fun b => b = T) M1 M2 → (∀ j, it_ M2 T j = it_ M1 T j) → K M2) : wp_X1_init T M1 K := by
  have b0 := BS_.start (ck := 3) h hS h0 hk (by decide) (by decide)
  refine ⟨hk, fun q1 _ h1 M4 e4 M8 e8 q9 _ h9 M12 e12 M16 e16 => ?_⟩
  subst e4; subst e8; subst e12; subst e16
  rw [show ix_ (600 : Int32) = 600 from rfl] at *
  obtain ⟨b1, i1⟩ := b0.row (c := 20) (n := 600) (k := 0) h1 (by decide) (fun p hp => by cases hp)
  obtain ⟨b2, i2⟩ := b1.row (c := 21) (n := 600) (k := 1) h9 (by decide) (by decide)
  have o := b2.2.2.1
  refine hK _ _ (b2.fin ?_) b2.2.2.2.1 b2.2.2.2.2 (fun j => by rw [i2, i1])
  unfold Sh_
  rw [b2.2.1.2.2.1]
  exact ⟨fun z => by omega, fun _ => ⟨(o (0, 20, 600) (by decide)).2, (o (1, 21, 600) (by decide)).2⟩, fun z => by omega, fun z => by omega, fun z => by omega, fun z => by omega, fun z => by omega, fun z => by omega, fun z => by omega, fun z => by omega⟩
/-- a list without elements -/
theorem sp_linit {K : Mm → Prop} (h : BD_ ow M ow1 M1 S) (hS : S T) (h0 : kd_ M T = 0) (hk : kd_ M1 T = 1) (hi : ∀ j, it_ M1 T j = 0) (hK : ∀ M2, BD_ ow M ow1 M2 (fun b => S b ∧ b ≠ T) → Gw_ (fun b => b = T) M1 M2 → kd_ M2 (rf_ M2 T 1) = 36 → ln_ M2 (rf_ M2 T 1) = 0 → (∀ j, it_ M2 T j = 0) → K M2) : wp_Jx4a65c_init_da8c8 T M1 K := by
  refine ⟨hk, hk, hk, fun _ M6 e6 _ q7 hq0 h36 hl0 M10 e10 => ?_⟩
  have b0 := BS_.start (ck := 1) h hS h0 hk (by decide) (by decide)
  have b1 := b0.sI 0 0
  have hB : BD_ ow M ow1 M10 S := by
    rw [e10, e6]
    exact b1.1.sR h0 (Or.inl ⟨hS, by show kd_ M1 T ≠ 23; omega, by show kd_ M1 T ≠ 24; omega, by show kd_ M1 T ≠ 25; omega⟩)
  have k10 : ∀ b, kd_ M10 b = kd_ M1 b := fun b => by rw [e10, e6]; rfl
  have r10 : rf_ M10 T 1 = q7 := by rw [e10, rf_sR, if_pos ⟨rfl, rfl⟩]
  refine hK M10 (hB.fin (q := T) (Sh_triv (Or.inl (by rw [k10]; omega))) (fun b hb => ?_)) ?_ ?_ ?_ (fun j => ?_)
  · by_cases e : b = T
    · exact Or.inr e
    · exact Or.inl ⟨hb, e⟩
  · rw [e10, e6]
    exact (Gw_.sI (A := fun b => b = T) M1 0 0 rfl).tr (Gw_.sR (A := fun b => b = T) _ 1 q7 rfl)
  · rw [r10, k10]
    have := (h36 q7).mpr rfl
    rw [e6] at this
    exact this
  · rw [r10, e10]
    exact hl0
  · rw [e10, e6]
    show it_ (sI_ M1 T 0 0) T j = 0
    by_cases e : j = 0
    · rw [e, it_sIs]
    · rw [it_sIk e]; exact hi j
end MA
