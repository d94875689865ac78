/-! Table, the object itself being made; a column added -/
section MF
variable {ow owS ow1 ow2 ow' : Nat → Nat × Nat} {M MS M1 M2 M' : Mm} {S A : Nat → Prop} {T F ck q c n k v a j nc m R sz : Nat} {P : List (Nat × Nat × Nat)}
/-- an empty list, an empty block -/
def LE_ (M : Mm) (l : Nat) : Prop := kd_ M l = 1 ∧ kd_ M (rf_ M l 1) = 36 ∧ ln_ M (rf_ M l 1) = 0 ∧ it_ M l 2 = 0
theorem LE_.gw (h : LE_ M a) (X : Gw_ A M M') (hA : ¬ A a) : LE_ M' a := by
  obtain ⟨h1, h2, h3, h4⟩ := h
  unfold LE_
  rw [X.kd (by rw [h1]; decide), X.rf (by rw [h1]; decide) hA, X.it (by rw [h1]; decide) hA, X.kd (by rw [h2]; decide), X.ln (by rw [h2]; decide)]
  exact ⟨h1, h2, h3, h4⟩
theorem LE_.ls (h : LE_ M a) (ow : Nat → Nat × Nat) (c : Nat) : Ls_ ow M a 0 c := ⟨h.1, h.2.2.2, by omega, Or.inl ⟨rfl, h.2.1, h.2.2.1⟩, fun i hi => by omega, fun i j hi => by omega⟩
theorem bs_gR (hq : kd_ M1 q = 0) (hne : T ≠ q) : Gw_ (fun b => b = T) M1 (sR_ (nw_ M1 q c n) T k q) := (Gw_.nw hq).tr (Gw_.sR _ k q rfl)
theorem bs_gS (hq : kd_ M1 q = 0) (X : Gw_ (fun b => b = q) (nw_ M1 q c n) M2) : Gw_ (fun b => b = T) M1 (sR_ M2 T k q) := by
  refine ⟨((Nk_nw_ hq).tr X.1).tr (fun _ _ => rfl), fun b hb hbT i => ?_⟩
  have hbq : b ≠ q := fun e => hb (by rw [e]; exact hq)
  obtain ⟨p1, p2, p3⟩ := X.2 b (by rw [kd_nwo hbq]; exact hb) hbq i
  refine ⟨?_, ?_, ?_⟩
  · rw [rf_sR, if_neg (fun z => hbT z.1), p1, rf_nwo hbq]
  · show it_ M2 b i = _
    rw [p2, it_nwo hbq]
  · show lg_ M2 b i = _
    rw [p3]
    exact (Gw_.nw (A := fun _ => False) hq).lg hb id i
/-- the table, made -/
def TE_ (M : Mm) (T : Nat) : Prop := LE_ M (rf_ M T 0) ∧ LE_ M (rf_ M T 1) ∧ kd_ M (rf_ M T 5) = 2 ∧ it_ M (rf_ M T 5) 2 = 0 ∧ it_ M T 6 = 32
theorem sp_tinit {K : Mm → Prop} (h : BD_ ow M ow1 M1 S) (hS : S T) (h0 : kd_ M T = 0) (hk : kd_ M1 T = 10) (hK : ∀ M2 ow2, BD_ ow M ow2 M2 (fun b => S b ∧ b ≠ T) → (∀ b, kd_ M1 b ≠ 0 → ow2 b = ow1 b) → Gw_ (fun b => b = T) M1 M2 → TE_ M2 T → (∀ j, j ≠ 6 → it_ M2 T j = it_ M1 T j) → K M2) : wp_X8_init T M1 K := by
  have b0 := BS_.start (ck := 10) h hS h0 hk (by decide) (by decide)
  refine ⟨hk, fun q1 _ h1 M4 e4 => ?_⟩
  subst e4
  have nT : ∀ {M' : Mm} {x : Nat}, kd_ M' T = 10 → kd_ M' x = 0 → T ≠ x := fun hT hx e => by rw [e] at hT; omega
  refine sp_linit (b0.1.nw (c := 1) (n := 0) h1 (T, 0)) (Or.inr rfl) (b0.1.new h1) (kd_nwq _ _ _ _) (fun j => it_nwq _ _ _ _ j) (fun M8 B8 X8 y1 y2 y3 _ M14 e14 q15 _ h15 M18 e18 => ?_)
  obtain ⟨b1, i1⟩ := b0.sub (k := 0) h1 (by decide) B8 (fun _ _ => rfl) X8 (fun p hp => (by cases hp))
  have g1 := bs_gS (T := T) (k := 0) h1 X8
  have l8 : LE_ M8 q1 := ⟨by rw [X8.kd (by rw [kd_nwq]; decide), kd_nwq], y1, y2, y3 2⟩
  rw [← e14] at b1 i1 g1
  have n1 : q1 ≠ T := (nT hk h1).symm
  have l14 : LE_ M14 q1 := l8.gw (M' := M14) (A := fun b => b = T) (by rw [e14]; exact Gw_.sR _ 0 q1 rfl) n1
  have r14 : rf_ M14 T 0 = q1 := by rw [e14, rf_sR, if_pos ⟨rfl, rfl⟩]
  have h15' : kd_ M14 q15 = 0 := by rw [e14]; exact h15
  clear e14
  subst e18
  refine sp_linit (b1.1.nw (c := 1) (n := 0) h15' (T, 1)) (Or.inr rfl) (b1.1.new h15') (kd_nwq _ _ _ _) (fun j => it_nwq _ _ _ _ j) (fun M22 B22 X22 z1 z2 z3 _ M28 e28 q29 _ h29 M32 e32 M36 e36 q37 _ h37 M40 e40 M44 e44 q45 _ h45 M48 e48 => ?_)
  obtain ⟨b2, i2⟩ := b1.sub (k := 1) h15' (by decide) B22 (fun _ _ => rfl) X22 (by decide)
  have g2 := bs_gS (T := T) (k := 1) h15' X22
  have l22 : LE_ M22 q15 := ⟨by rw [X22.kd (by rw [kd_nwq]; decide), kd_nwq], z1, z2, z3 2⟩
  rw [← e28] at b2 i2 g2
  have n15 : q15 ≠ T := (nT b1.2.1.2.2.1 h15').symm
  have l28 : LE_ M28 q15 := l22.gw (M' := M28) (A := fun b => b = T) (by rw [e28]; exact Gw_.sR _ 1 q15 rfl) n15
  have r28 : rf_ M28 T 1 = q15 := by rw [e28, rf_sR, if_pos ⟨rfl, rfl⟩]
  have r28' : rf_ M28 T 0 = q1 := by
    have hTq : T ≠ q15 := n15.symm
    have kT1 := b1.2.1.2.2.1
    rw [e28, rf_sR, if_neg (fun z => absurd z.2 (by decide)), X22.rf (by rw [kd_nwo hTq, kT1]; decide) hTq, rf_nwo hTq]
    exact r14
  have h29' : kd_ M28 q29 = 0 := by rw [e28]; exact h29
  clear e28
  subst e32
  obtain ⟨b3, i3⟩ := b2.row (c := 21) (n := 600) (k := 2) h29' (by decide) (by decide)
  have g3 : Gw_ (fun b => b = T) M28 M36 := by rw [e36]; exact bs_gR h29' (nT b2.2.1.2.2.1 h29')
  rw [show ix_ (600 : Int32) = 600 from rfl] at e36 h37
  rw [← e36] at b3 i3
  have h37' : kd_ M36 q37 = 0 := by rw [e36]; exact h37
  have r36 : ∀ k, k ≠ 2 → rf_ M36 T k = rf_ M28 T k := fun k hk' => by rw [e36, rf_sR, if_neg (fun z => hk' z.2), rf_nwo (nT b2.2.1.2.2.1 h29')]
  clear e36
  subst e40
  obtain ⟨b4, i4⟩ := b3.row (c := 20) (n := 600) (k := 3) h37' (by decide) (by decide)
  have g4 : Gw_ (fun b => b = T) M36 M44 := by rw [e44]; exact bs_gR h37' (nT b3.2.1.2.2.1 h37')
  rw [show ix_ (600 : Int32) = 600 from rfl] at e44 h45
  rw [← e44] at b4 i4
  have h45' : kd_ M44 q45 = 0 := by rw [e44]; exact h45
  have r44 : ∀ k, k ≠ 3 → rf_ M44 T k = rf_ M36 T k := fun k hk' => by rw [e44, rf_sR, if_neg (fun z => hk' z.2), rf_nwo (nT b3.2.1.2.2.1 h37')]
  clear e44
  subst e48
  refine sp_soinit (b4.1.nw (c := 9) (n := 0) h45' (T, 4)) (Or.inr rfl) (b4.1.new h45') (kd_nwq _ _ _ _) (fun M52 ow52 B52 w52 X52 _ _ M58 e58 q59 _ h59 M62 e62 => ?_)
  obtain ⟨b5, i5⟩ := b4.sub (k := 4) h45' (by decide) B52 w52 X52 (by decide)
  have g5 := bs_gS (T := T) (k := 4) h45' X52
  rw [← e58] at b5 i5 g5
  have h59' : kd_ M58 q59 = 0 := by rw [e58]; exact h59
  have r58 : ∀ k, k ≠ 4 → rf_ M58 T k = rf_ M44 T k := fun k hk' => by
    have hTq := nT b4.2.1.2.2.1 h45'
    rw [e58, rf_sR, if_neg (fun z => hk' z.2), X52.rf (by rw [kd_nwo hTq, b4.2.1.2.2.1]; decide) hTq, rf_nwo hTq]
  clear e58
  subst e62
  refine sp_binit (b5.1.nw (c := 2) (n := 0) h59' (T, 5)) (Or.inr rfl) (kd_nwq _ _ _ _) (b5.1.new h59') (fun M66 ow66 B66 w66 X66 i66 _ M72 e72 M73 e73 q74 _ h74 M77 e77 => ?_)
  obtain ⟨b6, i6⟩ := b5.sub (k := 5) h59' (by decide) B66 w66 X66 (by decide)
  have g6 := bs_gS (T := T) (k := 5) h59' X66
  rw [← e72] at b6 i6 g6
  have k66 : kd_ M72 q59 = 2 := by rw [e72]; show kd_ M66 q59 = 2; rw [X66.kd (by rw [kd_nwq]; decide), kd_nwq]
  have c66 : it_ M72 q59 2 = 0 := by rw [e72]; show it_ M66 q59 2 = 0; rw [i66, it_nwq]
  have n59 : q59 ≠ T := (nT b5.2.1.2.2.1 h59').symm
  have r72 : rf_ M72 T 5 = q59 := by rw [e72, rf_sR, if_pos ⟨rfl, rfl⟩]
  have r72' : ∀ k, k ≠ 5 → rf_ M72 T k = rf_ M58 T k := fun k hk' => by
    have hTq := nT b5.2.1.2.2.1 h59'
    rw [e72, rf_sR, if_neg (fun z => hk' z.2), X66.rf (by rw [kd_nwo hTq, b5.2.1.2.2.1]; decide) hTq, rf_nwo hTq]
  have b7 := b6.sI 6 32
  rw [← e73] at b7
  have h74' : kd_ M73 q74 = 0 := by rw [e73, e72]; exact h74
  have g7 : Gw_ (fun b => b = T) M72 M73 := by rw [e73]; exact Gw_.sI _ _ _ rfl
  have r73 : ∀ k, rf_ M73 T k = rf_ M72 T k := fun k => by rw [e73]; rfl
  have i7 : it_ M73 T 6 = 32 := by rw [e73, it_sIs]
  have i7' : ∀ j, j ≠ 6 → it_ M73 T j = it_ M72 T j := fun j hj => by rw [e73, it_sIk hj]
  clear e73 e72
  subst e77
  refine sp_binit (b7.1.nw (c := 2) (n := 0) h74' (T, 9)) (Or.inr rfl) (kd_nwq _ _ _ _) (b7.1.new h74') (fun M81 ow81 B81 w81 X81 _ _ M87 e87 q88 _ h88 M91 e91 M95 e95 => ?_)
  obtain ⟨b8, i8⟩ := b7.sub (k := 9) h74' (by decide) B81 w81 X81 (by decide)
  have g8 := bs_gS (T := T) (k := 9) h74' X81
  rw [← e87] at b8 i8 g8
  have h88' : kd_ M87 q88 = 0 := by rw [e87]; exact h88
  have r87 : ∀ k, k ≠ 9 → rf_ M87 T k = rf_ M73 T k := fun k hk' => by
    have hTq := nT b7.2.1.2.2.1 h74'
    rw [e87, rf_sR, if_neg (fun z => hk' z.2), X81.rf (by rw [kd_nwo hTq, b7.2.1.2.2.1]; decide) hTq, rf_nwo hTq]
  clear e87
  subst e91
  obtain ⟨b9, i9⟩ := b8.row (c := 20) (n := 64) (k := 10) h88' (by decide) (by decide)
  have g9 : Gw_ (fun b => b = T) M87 M95 := by rw [e95]; exact bs_gR h88' (nT b8.2.1.2.2.1 h88')
  rw [show ix_ (64 : Int32) = 64 from rfl] at e95
  rw [← e95] at b9 i9
  have r95 : ∀ k, k ≠ 10 → rf_ M95 T k = rf_ M87 T k := fun k hk' => by rw [e95, rf_sR, if_neg (fun z => hk' z.2), rf_nwo (nT b8.2.1.2.2.1 h88')]
  clear e95
  have g79 : Gw_ (fun b => b = T) M72 M95 := (g7.tr g8).tr g9
  have g39 : Gw_ (fun b => b = T) M28 M95 := (((g3.tr g4).tr g5).tr g6).tr g79
  have o := b9.2.2.1
  have e0 : rf_ M95 T 0 = q1 := by rw [r95 0 (by decide), r87 0 (by decide), r73, r72' 0 (by decide), r58 0 (by decide), r44 0 (by decide), r36 0 (by decide), r28']
  have e1 : rf_ M95 T 1 = q15 := by rw [r95 1 (by decide), r87 1 (by decide), r73, r72' 1 (by decide), r58 1 (by decide), r44 1 (by decide), r36 1 (by decide), r28]
  have e5 : rf_ M95 T 5 = q59 := by rw [r95 5 (by decide), r87 5 (by decide), r73, r72]
  refine hK M95 _ (b9.fin ?_) b9.2.2.2.1 b9.2.2.2.2 ⟨?_, ?_, ?_, ?_, ?_⟩ (fun j hj => ?_)
  · unfold Sh_
    rw [b9.2.1.2.2.1]
    exact ⟨fun z => by omega, fun z => by omega, fun z => by omega, fun z => by omega, fun z => by omega, fun z => by omega, fun z => by omega, fun _ => ⟨(o (0, 1, 0) (by decide)).2, (o (1, 1, 0) (by decide)).2, (o (2, 21, 600) (by decide)).2, (o (3, 20, 600) (by decide)).2, (o (4, 9, 0) (by decide)).2, (o (10, 20, 64) (by decide)).2⟩, fun z => by omega, fun z => by omega⟩
  · rw [e0]
    exact l14.gw (g2.tr g39) n1
  · rw [e1]
    exact l28.gw g39 n15
  · rw [e5, g79.kd (by rw [k66]; decide)]
    exact k66
  · rw [e5, g79.it (by rw [k66]; decide) n59]
    exact c66
  · rw [i9, i8]
    exact i7
  · rw [i9, i8, i7' j hj, i6, i5, i4, i3, i2, i1]
theorem TE_.gw (h : TE_ M T) (hT : kd_ M T = 10) (X : Gw_ A M M') (hA : ∀ b, A b → kd_ M b ≠ 10 ∧ kd_ M b ≠ 1 ∧ kd_ M b ≠ 2) : TE_ M' T := by
  obtain ⟨h1, h2, h3, h4, h5⟩ := h
  have nT : ¬ A T := fun z => (hA _ z).1 hT
  have n0 : ¬ A (rf_ M T 0) := fun z => (hA _ z).2.1 h1.1
  have n1 : ¬ A (rf_ M T 1) := fun z => (hA _ z).2.1 h2.1
  have n5 : ¬ A (rf_ M T 5) := fun z => (hA _ z).2.2 h3
  have e : ∀ k, rf_ M' T k = rf_ M T k := fun k => X.rf (by rw [hT]; decide) nT k
  unfold TE_
  rw [e, e, e, X.kd (by rw [h3]; decide), X.it (by rw [h3]; decide) n5, X.it (by rw [hT]; decide) nT]
  exact ⟨h1.gw X n0, h2.gw X n1, h3, h4, h5⟩
/-- the object made: what holds then -/
theorem sp_finit {K : Mm → Prop} (hM : ∀ a, kd_ M a = 0 ∨ 30 ≤ kd_ M a) (hq : kd_ M F = 0) (hK : ∀ M' ow', Gw_ (fun b => b = F) (nw_ M F 12 0) M' → GI_ ow' M' F 0 0 0 32 → K M') : wp_X10_init F (nw_ M F 12 0) K := by
  have hs0 : SH_ (fun _ => (0, 0)) M := fun a => Sh_triv (by have := hM a; omega)
  have B0 := (BD_.start hs0).nw (c := 12) (n := 0) hq (0, 0)
  have b0 := BS_.start (ck := 12) B0 (Or.inr rfl) hq (kd_nwq _ _ _ _) (by decide) (by decide)
  have nF : ∀ {M' : Mm} {x : Nat}, kd_ M' F = 12 → kd_ M' x = 0 → F ≠ x := fun hT hx e => by rw [e] at hT; omega
  refine ⟨kd_nwq _ _ _ _, fun q1 _ h1 M4 e4 => ?_⟩
  subst e4
  refine sp_tinit (b0.1.nw (c := 10) (n := 0) h1 (F, 0)) (Or.inr rfl) (b0.1.new h1) (kd_nwq _ _ _ _) (fun M8 ow8 B8 w8 X8 t8 i8 _ M14 e14 q15 _ h15 M18 e18 => ?_)
  obtain ⟨b1, i1⟩ := b0.sub (k := 0) h1 (by decide) B8 w8 X8 (fun p hp => (by cases hp))
  have g1 := bs_gS (T := F) (k := 0) h1 X8
  rw [← e14] at b1 i1 g1
  have n1 : q1 ≠ F := (nF (kd_nwq _ _ _ _) h1).symm
  have k8 : kd_ M8 q1 = 10 := by rw [X8.kd (by rw [kd_nwq]; decide), kd_nwq]
  have G14 : Gw_ (fun b => b = F) M8 M14 := by rw [e14]; exact Gw_.sR _ 0 q1 rfl
  have k14F : kd_ M14 F = 12 := b1.2.1.2.2.1
  have k8F : kd_ M8 F = 12 := by rw [e14] at k14F; exact k14F
  have t14 : TE_ M14 q1 := t8.gw k8 G14 (fun b hb => by rw [hb, k8F]; exact ⟨by decide, by decide, by decide⟩)
  have k14 : kd_ M14 q1 = 10 := by rw [G14.kd (by rw [k8]; decide)]; exact k8
  have f14 : ∀ j, j ≠ 6 → it_ M14 q1 j = 0 := fun j hj => by
    rw [G14.it (by rw [k8]; decide) n1, i8 j hj, it_nwq]
  have r14 : rf_ M14 F 0 = q1 := by rw [e14, rf_sR, if_pos ⟨rfl, rfl⟩]
  have h15' : kd_ M14 q15 = 0 := by rw [e14]; exact h15
  clear e14
  subst e18
  refine sp_qinit (b1.1.nw (c := 6) (n := 0) h15' (F, 1)) (Or.inr rfl) (b1.1.new h15') (kd_nwq _ _ _ _) (fun M22 ow22 B22 w22 X22 y1 y2 y3 y4 _ M28 e28 q29 _ h29 M32 e32 => ?_)
  obtain ⟨b2, i2⟩ := b1.sub (k := 1) h15' (by decide) B22 w22 X22 (by decide)
  have g2 := bs_gS (T := F) (k := 1) h15' X22
  rw [← e28] at b2 i2 g2
  have k22 : kd_ M22 q15 = 6 := by rw [X22.kd (by rw [kd_nwq]; decide), kd_nwq]
  have G28 : Gw_ (fun b => b = F) M22 M28 := by rw [e28]; exact Gw_.sR _ 1 q15 rfl
  have k28F : kd_ M28 F = 12 := b2.2.1.2.2.1
  have k22F : kd_ M22 F = 12 := by rw [e28] at k28F; exact k28F
  have neF : ∀ {x c : Nat}, kd_ M22 x = c → c ≠ 12 → x ≠ F := fun hx hc e => hc (by rw [← hx, e]; exact k22F)
  have r28 : rf_ M28 F 1 = q15 := by rw [e28, rf_sR, if_pos ⟨rfl, rfl⟩]
  have r28' : rf_ M28 F 0 = q1 := by
    have hTq := nF k14F h15'
    rw [e28, rf_sR, if_neg (fun z => absurd z.2 (by decide)), X22.rf (by rw [kd_nwo hTq, k14F]; decide) hTq, rf_nwo hTq]
    exact r14
  have k28 : kd_ M28 q15 = 6 := by rw [G28.kd (by rw [k22]; decide)]; exact k22
  have q28 : it_ M28 q15 1 = 1 := by rw [G28.it (by rw [k22]; decide) (neF k22 (by decide))]; exact y1
  have gr28 : gr_ M28 q15 0 = gr_ M22 q15 0 := by
    unfold gr_
    rw [G28.rf (a := q15) (by rw [k22]; decide) (neF k22 (by decide)), G28.rf (a := rf_ M22 q15 0) (by rw [y4]; decide) (neF y4 (by decide))]
  have kg28 : kd_ M28 (gr_ M28 q15 0) = 5 := by rw [gr28, G28.kd (by rw [y3]; decide)]; exact y3
  have g28 : it_ M28 (gr_ M28 q15 0) 1 = 0 := by rw [gr28, G28.it (by rw [y3]; decide) (neF y3 (by decide))]; exact y2
  have ka28 : kd_ M28 (rf_ M28 q15 0) = 25 := by rw [G28.rf (by rw [k22]; decide) (neF k22 (by decide)), G28.kd (by rw [y4]; decide)]; exact y4
  have h29' : kd_ M28 q29 = 0 := by rw [e28]; exact h29
  clear e28
  subst e32
  refine sp_sinit (b2.1.nw (c := 8) (n := 0) h29' (F, 2)) (Or.inr rfl) (b2.1.new h29') (kd_nwq _ _ _ _) (fun M36 ow36 B36 w36 X36 _ _ M42 e42 q43 _ h43 M46 e46 => ?_)
  obtain ⟨b3, i3⟩ := b2.sub (k := 2) h29' (by decide) B36 w36 X36 (by decide)
  have g3 := bs_gS (T := F) (k := 2) h29' X36
  rw [← e42] at b3 i3 g3
  have k42F : kd_ M42 F = 12 := b3.2.1.2.2.1
  have r42 : ∀ k, k ≠ 2 → rf_ M42 F k = rf_ M28 F k := fun k hk' => by
    have hTq := nF k28F h29'
    rw [e42, rf_sR, if_neg (fun z => hk' z.2), X36.rf (by rw [kd_nwo hTq, k28F]; decide) hTq, rf_nwo hTq]
  have h43' : kd_ M42 q43 = 0 := by rw [e42]; exact h43
  clear e42
  subst e46
  refine sp_rinit (b3.1.nw (c := 7) (n := 0) h43' (F, 3)) (Or.inr rfl) (b3.1.new h43') (kd_nwq _ _ _ _) (fun M50 ow50 B50 w50 X50 i50 _ M56 e56 => ?_)
  obtain ⟨b4, i4⟩ := b3.sub (k := 3) h43' (by decide) B50 w50 X50 (by decide)
  have g4 := bs_gS (T := F) (k := 3) h43' X50
  rw [← e56] at b4 i4 g4
  have k56F : kd_ M56 F = 12 := b4.2.1.2.2.1
  have r56 : ∀ k, k ≠ 3 → rf_ M56 F k = rf_ M42 F k := fun k hk' => by
    have hTq := nF k42F h43'
    rw [e56, rf_sR, if_neg (fun z => hk' z.2), X50.rf (by rw [kd_nwo hTq, k42F]; decide) hTq, rf_nwo hTq]
  have r563 : rf_ M56 F 3 = q43 := by rw [e56, rf_sR, if_pos ⟨rfl, rfl⟩]
  have n43 : q43 ≠ F := (nF k42F h43').symm
  have c56 : it_ M56 q43 1 = 0 := by rw [e56]; show it_ M50 q43 1 = 0; rw [i50, it_nwq]
  clear e56
  have g24 : Gw_ (fun b => b = F) M28 M56 := g3.tr g4
  have e0 : rf_ M56 F 0 = q1 := by rw [r56 0 (by decide), r42 0 (by decide), r28']
  have e1 : rf_ M56 F 1 = q15 := by rw [r56 1 (by decide), r42 1 (by decide), r28]
  have o := b4.2.2.1
  have hsh : Sh_ ow50 M56 F := by
    unfold Sh_
    rw [k56F]
    exact ⟨fun z => by omega, fun z => by omega, fun z => by omega, fun z => by omega, fun z => by omega, fun z => by omega, fun z => by omega, fun z => by omega, fun z => by omega, fun _ => ⟨(o (0, 10, 0) (by decide)).2, (o (1, 6, 0) (by decide)).2, (o (2, 8, 0) (by decide)).2, (o (3, 7, 0) (by decide)).2⟩⟩
  have hSH := (b4.fin hsh).sh (fun a z => by
    rcases z.1 with y | y
    · exact y
    · exact z.2 y)
  have t56 : TE_ M56 q1 := t14.gw k14 (g2.tr g24) (fun b hb => by rw [hb, k14F]; exact ⟨by decide, by decide, by decide⟩)
  have k56 : kd_ M56 q1 = 10 := by rw [(g2.tr g24).kd (by rw [k14]; decide)]; exact k14
  have f56 : ∀ j, j ≠ 6 → it_ M56 q1 j = 0 := fun j hj => by rw [(g2.tr g24).it (by rw [k14]; decide) n1]; exact f14 j hj
  obtain ⟨t1, t2, t3, t4, t5⟩ := t56
  have n15 : q15 ≠ F := (nF k14F h15').symm
  have ngr : gr_ M28 q15 0 ≠ F := fun e => by rw [e] at kg28; omega
  have nar : rf_ M28 q15 0 ≠ F := fun e => by rw [e] at ka28; omega
  have gr56 : gr_ M56 q15 0 = gr_ M28 q15 0 := by
    unfold gr_
    rw [g24.rf (a := q15) (by rw [k28]; decide) n15, g24.rf (a := rf_ M28 q15 0) (by rw [ka28]; decide) nar]
  refine hK M56 ow50 b4.2.2.2.2 ⟨k56F, ⟨fun _ => 0, ?_⟩, ⟨1, fun _ => 0, Nat.le_refl 1, by decide, ?_, fun g hg => ⟨Nat.zero_le 4, ?_, fun k hk => absurd hk (Nat.not_lt_zero k)⟩⟩, 0, by decide, ?_, fun j hj => absurd hj (Nat.not_lt_zero j)⟩
  · rw [e0]
    refine ⟨⟨hSH, k56, t1.ls _ 3, by decide, t2.ls _ 2, t3, fun i hi => by omega⟩, ⟨fun i hi => ?_, fun i r hi hr hm => ?_, fun i r hi => by omega, fun r hr => by omega, fun r hr => by omega⟩, fun i hi hz => absurd hz (Nat.not_lt_zero i), ⟨f56 7 (by decide), by decide, t5, by decide, by decide, fun r hr => by omega, f56 8 (by decide)⟩, fun c r hc => by omega⟩
    · have eb : bk_ M56 q1 0 i = rf_ M56 q1 5 := if_neg (by omega)
      rw [eb]
      exact ⟨t4, Nat.zero_le 64, fun j hj => absurd hj (Nat.not_lt_zero j)⟩
    · obtain ⟨j, hj, -⟩ := hm
      exact absurd hj (Nat.not_lt_zero j)
  · rw [e1, g24.it (by rw [k28]; decide) n15]
    exact q28
  · have : g = 0 := by omega
    rw [e1, this, gr56, g24.it (by rw [kg28]; decide) ngr]
    exact g28
  · rw [r563]
    exact c56
theorem sp_addColumn {K : Mm → Int32 → Prop} (h : GI_ ow M F nc 0 0 sz) (hn : nc < 8) (hK : ∀ M' ow' x, GI_ ow' M' F (nc + 1) 0 0 sz → K M' x) : wp_X10_addColumn F M K := by
  have f := h.f
  obtain ⟨h1, ⟨kk, h2⟩, ⟨nq, cq, hq⟩, n, hr⟩ := id h
  have hS := h2.1
  have t := hS.t
  refine ⟨h1, hS.kT, t.1.1, sp_size hS.lc (fun _ => ⟨fun _ => ⟨hS.kT, fun _ => ⟨t.1.1, fun q13 _ h13 M16 e16 => ?_⟩, fun z => ?_⟩, fun z => z ((lt_nI (b := 8) (by omega) (by omega)).mpr hn)⟩)⟩
  · subst e16
    have B0 := (BD_.start hS.sh).nw (c := 3) (n := 0) h13 (0, 0)
    refine sp_cinit B0 (Or.inr rfl) h13 (kd_nwq _ _ _ _) (fun M21 ow21 B21 w21 X21 i21 _ => ?_)
    have hSH21 : SH_ ow21 M21 := B21.sh (fun a z => by
      rcases z.1 with y | y
      · exact y
      · exact z.2 y)
    have G21 : Gw_ (fun _ => False) M M21 := B21.2.1
    have w21' := B21.1
    have h21 : TI_ ow21 M21 (rf_ M F 0) nc 0 0 sz kk (fun j => j < 0) := h2.gw0 G21 w21' hSH21
    have S21 := h21.1
    have t21 := S21.t
    have nF : kd_ M F ≠ 0 := by rw [h1]; decide
    have eF : ∀ k, rf_ M21 F k = rf_ M F k := fun k => G21.rf nF id k
    have eT : ∀ k, rf_ M21 (rf_ M F 0) k = rf_ M (rf_ M F 0) k := fun k => G21.rf (by rw [hS.kT]; decide) id k
    have kq : kd_ M21 q13 = 3 := by rw [X21.kd (by rw [kd_nwq]; decide), kd_nwq]
    have lc21 : Ls_ ow21 M21 (rf_ M (rf_ M F 0) 0) nc 3 := by rw [← eT]; exact S21.lc
    refine sp_add lc21 (by omega) (Or.inr rfl) kq (fun i hi e => ?_) (fun M28 ow28 hA _ _ => ?_)
    · have k0 := hS.lc.el hi
      have : el_ M21 (rf_ M (rf_ M F 0) 0) i = el_ M (rf_ M (rf_ M F 0) 0) i := G21.el hS.lc id id hi
      rw [this] at e
      rw [e] at k0
      omega
    · obtain ⟨w28, X28, L28, el28, elq, k028⟩ := hA
      have ne01 : rf_ M21 (rf_ M F 0) 1 ≠ rf_ M21 (rf_ M F 0) 0 := own_ne t21.2.1 t21.1 (Or.inr (by decide))
      have kA : ∀ b, (b = rf_ M (rf_ M F 0) 0 ∨ b = rf_ M21 (rf_ M (rf_ M F 0) 0) 1) → kd_ M21 b = 1 ∨ kd_ M21 b = 26 ∨ kd_ M21 b = 36 := fun b hb => by
        rcases hb with z | z
        · rw [z, ← eT]; exact Or.inl t21.1.1
        · rw [z]
          rcases lc21.2.2.2.1 with y | y
          · exact Or.inr (Or.inr y.2.1)
          · exact Or.inr (Or.inl y.1)
      have noA : ∀ b, kd_ M21 b ≠ 1 → kd_ M21 b ≠ 26 → kd_ M21 b ≠ 36 → ¬ (b = rf_ M (rf_ M F 0) 0 ∨ b = rf_ M21 (rf_ M (rf_ M F 0) 0) 1) := fun b y1 y2 y3 z => by
        rcases kA b z with y | y | y
        · exact y1 y
        · exact y2 y
        · exact y3 y
      have hSH28 : SH_ ow28 M28 := X28.sh w28 (fun b hb => by
        rcases kA b hb with y | y | y
        · exact Or.inl y
        · exact Or.inr (Or.inl y)
        · exact Or.inr (Or.inr (Or.inl y))) k028 hSH21
      have kT21 := S21.kT
      have nT28 := noA (rf_ M F 0) (by omega) (by omega) (by omega)
      have kT28 : kd_ M28 (rf_ M F 0) = 10 := by rw [X28.kd (by omega)]; exact kT21
      have rT : ∀ k, rf_ M28 (rf_ M F 0) k = rf_ M21 (rf_ M F 0) k := fun k => X28.rf (by omega) nT28 k
      have iT : ∀ k, it_ M28 (rf_ M F 0) k = it_ M21 (rf_ M F 0) k := fun k => X28.it (by omega) nT28 k
      have kb := S21.kb
      have nb := noA (rf_ M21 (rf_ M F 0) 5) (by omega) (by omega) (by omega)
      have L28' : Ls_ ow28 M28 (rf_ M28 (rf_ M F 0) 0) (nc + 1) 3 := by rw [rT, eT]; exact L28
      have F28 : Ls_ ow28 M28 (rf_ M28 (rf_ M F 0) 1) 0 2 := by
        rw [rT]
        refine X28.ls w28 (fun z => ?_) (fun h26 z => ?_) (by decide) S21.lf
        · rcases z with y | y
          · rw [← eT] at y; exact ne01 y
          · have k1 := t21.2.1.1
            rcases lc21.2.2.2.1 with x | x
            · rw [y, x.2.1] at k1; omega
            · rw [y, x.1] at k1; omega
        · rcases z with y | y
          · rw [y, ← eT, t21.1.1] at h26; omega
          · rcases S21.lf.2.2.2.1 with x | x
            · omega
            · rcases lc21.2.2.2.1 with u | u
              · rw [y, u.2.1] at h26; omega
              · have o1 := x.2.2.2.2
                have o2 := u.2.2.2.2
                rw [y, o2, ← eT] at o1
                exact ne01 (Prod.mk.inj o1).1.symm
      have hB := h21.2.1.1 0 (Nat.le_refl 0)
      have eb21 : bk_ M21 (rf_ M F 0) 0 0 = rf_ M21 (rf_ M F 0) 5 := if_neg (Nat.lt_irrefl 0)
      rw [eb21] at hB
      have hk0 : kk 0 = 0 := by
        rcases Nat.eq_zero_or_pos (kk 0) with z | z
        · exact z
        · obtain ⟨r, hr', -⟩ := hB.2.2 0 z
          omega
      have TI28 : TI_ ow28 M28 (rf_ M F 0) (nc + 1) 0 0 sz kk (fun j => j < 0) := by
        refine ⟨⟨hSH28, kT28, L28', by omega, F28, by rw [rT, X28.kd (by omega)]; exact kb, fun i hi => by omega⟩, ⟨fun i hi => ?_, fun i r hi hr' hm => ?_, fun i r hi => by omega, fun r hr' => by omega, fun r hr' => by omega⟩, fun i hi hz => absurd hz (Nat.not_lt_zero i), ?_, fun c r hc hr' => by omega⟩
        · have e0 : i = 0 := by omega
          have eb : bk_ M28 (rf_ M F 0) 0 i = rf_ M21 (rf_ M F 0) 5 := (if_neg (by omega)).trans (rT 5)
          rw [eb, e0]
          exact ⟨by rw [X28.it (by omega) nb]; exact hB.1, hB.2.1, fun j hj => by omega⟩
        · obtain ⟨j, hj, -⟩ := hm
          have e0 : i = 0 := by omega
          rw [e0] at hj
          omega
        · obtain ⟨u1, u2, u3, u4, u5, u6, u7⟩ := h21.2.2.2.1
          exact ⟨by rw [iT]; exact u1, u2, by rw [iT]; exact u3, u4, u5, fun r hr' => by omega, by rw [iT]; exact u7⟩
      have kF21 : kd_ M21 F = 12 := by rw [G21.kd nF]; exact h1
      have nF28 := noA F (by omega) (by omega) (by omega)
      have eF28 : ∀ k, rf_ M28 F k = rf_ M F k := fun k => by rw [X28.rf (by omega) nF28]; exact eF k
      have hGI : GI_ ow28 M28 F (nc + 1) 0 0 sz := by
        have g21 : GI_ ow21 M21 F nc 0 0 sz := h.ta (G21.mono (fun _ _ z => z.elim)) ⟨kk, h21⟩ (Nat.le_refl 0)
        have TF28 : TF_ ow28 M28 (rf_ M21 F 0) (nc + 1) 0 0 sz := by rw [eF]; exact ⟨kk, TI28⟩
        exact g21.ta2 (X28.mono (fun b _ hb => by
          unfold TA_
          have := kA b hb
          omega)) TF28 (Nat.le_refl 0) (Nat.le_succ nc)
      refine ⟨by rw [eF28]; exact kT28, by rw [eF28]; exact L28'.k1, ?_⟩
      have L28'' : Ls_ ow28 M28 (rf_ M28 (rf_ M28 F 0) 0) (nc + 1) 3 := by rw [eF28]; exact L28'
      exact sp_size L28'' (fun _ => hK M28 ow28 _ hGI)
  · rw [h2.2.2.2.1.1] at z
    exact z ((le_nI (b := 0) (by omega) (by omega)).mpr (Nat.le_refl 0))
end MF
