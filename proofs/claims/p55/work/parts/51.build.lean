/-! objects being built -/
def upd_ (ow : Nat → Nat × Nat) (q : Nat) (o : Nat × Nat) : Nat → Nat × Nat := fun x => if x = q then o else ow x
theorem upd_s (ow : Nat → Nat × Nat) (q : Nat) (o : Nat × Nat) : upd_ ow q o q = o := if_pos rfl
theorem upd_o (ow : Nat → Nat × Nat) {q x : Nat} (o : Nat × Nat) (h : x ≠ q) : upd_ ow q o x = ow x := if_neg h
theorem Sh_triv {ow : Nat → Nat × Nat} {M : Mm} {a : Nat} (h : kd_ M a < 2 ∨ kd_ M a = 4 ∨ 13 ≤ kd_ M a) : Sh_ ow M a := by
  unfold Sh_
  exact ⟨fun z => by omega, fun z => by omega, fun z => by omega, fun z => by omega, fun z => by omega, fun z => by omega, fun z => by omega, fun z => by omega, fun z => by omega, fun z => by omega⟩
section BU
variable {ow ow' ow1 ow2 : Nat → Nat × Nat} {M M' M1 M2 : Mm} {A S S' : Nat → Prop} {a q : Nat}
theorem Gw_.sh1 (h : Gw_ A M M') (hw : ∀ b, kd_ M b ≠ 0 → ow' b = ow b) (h0 : kd_ M a ≠ 0) (nA : ¬ A a) (nb : kd_ M a = 2 → ¬ A (rf_ M a 1)) (ng : kd_ M a = 5 ∨ kd_ M a = 6 → ¬ A (rf_ M a 0)) (hs : Sh_ ow M a) : Sh_ ow' M' a := by
  have hk := h.kd h0
  obtain ⟨s1, s2, s3, s4, s5, s6, s7, s8, s9, s10⟩ := hs
  unfold Sh_
  rw [hk]
  refine ⟨fun z => ?_, fun z => ?_, fun z => ?_, fun z => ?_, fun z => ?_, fun z => ?_, fun z => ?_, fun z => ?_, fun z => ?_, fun z => ?_⟩
  · obtain ⟨g1, g2, g3⟩ := s1 z
    rw [h.rf h0 nA]
    exact ⟨h.own hw h0 nA (by decide) g1, h.own hw h0 nA (by decide) g2, fun j hj => h.own hw (by rw [g2.1]; decide) (nb z) (by decide) (g3 j hj)⟩
  · obtain ⟨g1, g2⟩ := s2 z
    exact ⟨h.own hw h0 nA (by decide) g1, h.own hw h0 nA (by decide) g2⟩
  · obtain ⟨g1, g2⟩ := s3 z
    rw [h.rf h0 nA]
    exact ⟨h.own hw h0 nA (by decide) g1, fun j hj => h.own hw (by rw [g1.1]; decide) (ng (Or.inl z)) (by decide) (g2 j hj)⟩
  · obtain ⟨g1, g2⟩ := s4 z
    rw [h.rf h0 nA]
    exact ⟨h.own hw h0 nA (by decide) g1, fun j hj => h.own hw (by rw [g1.1]; decide) (ng (Or.inr z)) (by decide) (g2 j hj)⟩
  · obtain ⟨g1, g2, g3, g4⟩ := s5 z
    exact ⟨h.own hw h0 nA (by decide) g1, h.own hw h0 nA (by decide) g2, h.own hw h0 nA (by decide) g3, h.own hw h0 nA (by decide) g4⟩
  · obtain ⟨g1, g2, g3, g4, g5⟩ := s6 z
    exact ⟨h.own hw h0 nA (by decide) g1, h.own hw h0 nA (by decide) g2, h.own hw h0 nA (by decide) g3, h.own hw h0 nA (by decide) g4, h.own hw h0 nA (by decide) g5⟩
  · obtain ⟨g1, g2⟩ := s7 z
    exact ⟨h.own hw h0 nA (by decide) g1, h.own hw h0 nA (by decide) g2⟩
  · obtain ⟨g1, g2, g3, g4, g5, g6⟩ := s8 z
    exact ⟨h.own hw h0 nA (by decide) g1, h.own hw h0 nA (by decide) g2, h.own hw h0 nA (by decide) g3, h.own hw h0 nA (by decide) g4, h.own hw h0 nA (by decide) g5, h.own hw h0 nA (by decide) g6⟩
  · exact h.own hw h0 nA (by decide) (s9 z)
  · obtain ⟨g1, g2, g3, g4⟩ := s10 z
    exact ⟨h.own hw h0 nA (by decide) g1, h.own hw h0 nA (by decide) g2, h.own hw h0 nA (by decide) g3, h.own hw h0 nA (by decide) g4⟩
/-- from M on only new cells were written, and all but those of S have their shape -/
def BD_ (ow : Nat → Nat × Nat) (M : Mm) (ow' : Nat → Nat × Nat) (M' : Mm) (S : Nat → Prop) : Prop := (∀ b, kd_ M b ≠ 0 → ow' b = ow b) ∧ Gw_ (fun _ => False) M M' ∧ ∀ a, ¬ S a → Sh_ ow' M' a
theorem BD_.start (h : SH_ ow M) : BD_ ow M ow M (fun _ => False) := ⟨fun _ _ => rfl, Gw_.refl _ _, fun a _ => h a⟩
theorem BD_.set (h : BD_ ow M ow' M' S) (hS : ∀ a, S a → S' a) : BD_ ow M ow' M' S' := ⟨h.1, h.2.1, fun a ha => h.2.2 a (fun z => ha (hS a z))⟩
theorem BD_.fin (h : BD_ ow M ow' M' S) (hq : Sh_ ow' M' q) (hS : ∀ a, S a → S' a ∨ a = q) : BD_ ow M ow' M' S' := ⟨h.1, h.2.1, fun a ha => by
  by_cases e : a = q
  · rw [e]; exact hq
  · refine h.2.2 a (fun z => ?_)
    rcases hS a z with z | z
    · exact ha z
    · exact e z⟩
theorem BD_.sh (h : BD_ ow M ow' M' S) (hS : ∀ a, ¬ S a) : SH_ ow' M' := fun a => h.2.2 a (hS a)
theorem BD_.new (h : BD_ ow M ow' M' S) (hq : kd_ M' q = 0) : kd_ M q = 0 := by
  by_cases e : kd_ M q = 0
  · exact e
  · have := h.2.1.kd e
    omega
theorem BD_.nw (h : BD_ ow M ow' M' S) {c n : Nat} (hq : kd_ M' q = 0) (o : Nat × Nat) : BD_ ow M (upd_ ow' q o) (nw_ M' q c n) (fun b => S b ∨ b = q) := by
  refine ⟨fun b hb => ?_, h.2.1.tr (Gw_.nw hq), fun a ha => ?_⟩
  · rw [upd_o _ _ (fun e => hb (by rw [e]; exact h.new hq))]
    exact h.1 b hb
  · have haq : a ≠ q := fun e => ha (Or.inr e)
    by_cases h0 : kd_ M' a = 0
    · exact Sh_triv (Or.inl (by rw [kd_nwo haq]; omega))
    · exact (Gw_.nw (A := fun _ => False) hq).sh1 (fun b hb => upd_o _ _ (fun e => hb (by rw [e]; exact hq))) h0 id (fun _ => id) (fun _ => id) (h.2.2 a (fun z => ha (Or.inl z)))
theorem kd_nwq (M : Mm) (q c n : Nat) : kd_ (nw_ M q c n) q = c := by
  unfold kd_ nw_
  simp
theorem ln_nwq (M : Mm) (q c n : Nat) : ln_ (nw_ M q c n) q = n := by
  unfold ln_ nw_
  simp
/-- new, and of no shape of its own -/
theorem BD_.nwt (h : BD_ ow M ow' M' S) {c n : Nat} (hq : kd_ M' q = 0) (o : Nat × Nat) (hc : c < 2 ∨ c = 4 ∨ 13 ≤ c) : BD_ ow M (upd_ ow' q o) (nw_ M' q c n) S :=
  (h.nw hq o).fin (q := q) (Sh_triv (by rw [kd_nwq]; exact hc)) (fun _ z => z)
theorem BD_.sR (h : BD_ ow M ow' M' S) {k v : Nat} (hn : kd_ M a = 0) (ha : (S a ∧ kd_ M' a ≠ 23 ∧ kd_ M' a ≠ 24 ∧ kd_ M' a ≠ 25) ∨ ((kd_ M' a = 23 ∨ kd_ M' a = 24 ∨ kd_ M' a = 25) ∧ S (ow' a).1)) : BD_ ow M ow' (sR_ M' a k v) S := by
  refine ⟨h.1, h.2.1.sRn hn k v, fun b hb => ?_⟩
  have hs := h.2.2 b hb
  by_cases h0 : kd_ M' b = 0
  · exact Sh_triv (Or.inl (by show kd_ M' b < 2; omega))
  · by_cases e : b = a
    · rcases ha with z | z
      · exact absurd (by rw [e]; exact z.1) hb
      · exact Sh_triv (Or.inr (Or.inr (by show 13 ≤ kd_ M' b; rw [e]; omega)))
    · refine (Gw_.sR (A := fun x => x = a) M' k v rfl).sh1 (fun _ _ => rfl) h0 e (fun z ez => ?_) (fun z ez => ?_) hs
      · have o := (hs.1 z).2.1
        have q := o.1
        have ho : (ow' (rf_ M' b 1)).1 = b := by rw [o.2.2]
        rw [ez] at q ho
        rcases ha with z | z
        · exact z.2.1 (by omega)
        · exact hb (by rw [← ho]; exact z.2)
      · have o : (kd_ M' (rf_ M' b 0) = 24 ∨ kd_ M' (rf_ M' b 0) = 25) ∧ (ow' (rf_ M' b 0)).1 = b := by
          rcases z with z | z
          · have o := (hs.2.2.1 z).1
            exact ⟨Or.inl o.1, by rw [o.2.2]⟩
          · have o := (hs.2.2.2.1 z).1
            exact ⟨Or.inr o.1, by rw [o.2.2]⟩
        rw [ez] at o
        rcases ha with z | z
        · rcases o.1 with y | y
          · exact z.2.2.1 y
          · exact z.2.2.2 y
        · exact hb (by rw [← o.2]; exact z.2)
theorem own_sR {b j k v c n : Nat} (h : own_ ow M b j c n) (hne : b ≠ a ∨ j ≠ k) : own_ ow (sR_ M a k v) b j c n := by
  have e : rf_ (sR_ M a k v) b j = rf_ M b j := by
    rw [rf_sR, if_neg]
    rintro ⟨e1, e2⟩
    rcases hne with z | z
    · exact z e1
    · exact z e2
  unfold own_
  rw [e]
  exact h
theorem own_set {k c n : Nat} (hk : kd_ M q = c) (hl : ln_ M q = n) (ho : ow q = (a, k)) : own_ ow (sR_ M a k q) a k c n := by
  have e : rf_ (sR_ M a k q) a k = q := by rw [rf_sR, if_pos ⟨rfl, rfl⟩]
  unfold own_
  rw [e]
  exact ⟨hk, hl, ho⟩
theorem own_nw {b j c n c' n' : Nat} {o : Nat × Nat} (h : own_ ow M b j c n) (hb : kd_ M b ≠ 0) (hc : c ≠ 0) (hq : kd_ M q = 0) : own_ (upd_ ow q o) (nw_ M q c' n') b j c n :=
  (Gw_.nw (A := fun _ => False) hq).own (fun x hx => upd_o _ _ (fun e => hx (by rw [e]; exact hq))) hb id hc h
theorem sp_zinit {K : Mm → Prop} (h : BD_ ow M ow1 M1 S) (hq : S q) (hk : kd_ M1 q = 11) (h0 : kd_ M q = 0)
    (hK : ∀ M2 ow2, BD_ ow M ow2 M2 (fun b => S b ∧ b ≠ q) → (∀ b, kd_ M1 b ≠ 0 → ow2 b = ow1 b) → Gw_ (fun b => b = q) M1 M2 → K M2) : wp_X9_init q M1 K := by
  refine ⟨hk, fun q1 _ hq1 M4 e4 M8 e8 => ?_⟩
  subst e4; subst e8
  have hne : q ≠ q1 := fun e => by rw [e] at hk; omega
  have b1 := h.nwt (c := 20) (n := 16) hq1 (q, 7) (by decide)
  have b2 := b1.sR (k := 7) (v := q1) h0 (Or.inl ⟨hq, by rw [kd_nwo hne]; omega, by rw [kd_nwo hne]; omega, by rw [kd_nwo hne]; omega⟩)
  have o := own_set (ow := upd_ ow1 q1 (q, 7)) (a := q) (k := 7) (M := nw_ M1 q1 20 16) (q := q1) (kd_nwq _ _ _ _) (ln_nwq _ _ _ _) (upd_s _ _ _)
  have e16 : ix_ (16 : Int32) = 16 := rfl
  rw [e16]
  refine hK _ _ (b2.fin (q := q) ?_ (fun b hb => ?_)) (fun b hb => upd_o _ _ (fun e => hb (by rw [e]; exact hq1))) ((Gw_.nw hq1).tr (Gw_.sR _ 7 q1 rfl))
  · have kq : kd_ (sR_ (nw_ M1 q1 20 16) q 7 q1) q = 11 := by
      show kd_ (nw_ M1 q1 20 16) q = 11
      rw [kd_nwo hne]; exact hk
    unfold Sh_
    rw [kq]
    exact ⟨fun z => by omega, fun z => by omega, fun z => by omega, fun z => by omega, fun z => by omega, fun z => by omega, fun z => by omega, fun z => by omega, fun _ => o, fun z => by omega⟩
  · by_cases e : b = q
    · exact Or.inr e
    · exact Or.inl ⟨hb, e⟩
/-- what stays of own_ from a memory to a later one -/
theorem keep_own {b j c n : Nat} (hw : ∀ b, kd_ M b ≠ 0 → ow' b = ow b) (h : Gw_ A M M') (g : own_ ow M b j c n) (hb : kd_ M b ≠ 0) (hA : ¬ A b) (hc : c ≠ 0) : own_ ow' M' b j c n := h.own hw hb hA hc g
theorem lp_binit_ok {K E' : Mm → Prop} {E : Nat → Nat → Mm → Prop} (hq : S q) (hk1 : kd_ M1 q = 2) (h0 : kd_ M q = 0)
    (hE : ∀ M2 ow2 c d, c ≤ 18 → d ≤ 272 → BD_ ow M ow2 M2 S → (∀ b, kd_ M1 b ≠ 0 → ow2 b = ow1 b) → Gw_ (fun b => b = q) M1 M2 → own_ ow2 M2 q 0 20 64 → own_ ow2 M2 q 1 23 8 → (∀ z, z < 8 → own_ ow2 M2 (rf_ M2 q 1) z 11 0) → (∀ k, it_ M2 q k = it_ M1 q k) → E c d M2) :
    ∀ n j M2 ow2, 8 - j < n → j ≤ 8 → BD_ ow M ow2 M2 S → (∀ b, kd_ M1 b ≠ 0 → ow2 b = ow1 b) → Gw_ (fun b => b = q) M1 M2 → own_ ow2 M2 q 0 20 64 → own_ ow2 M2 q 1 23 8 → kd_ M (rf_ M2 q 1) = 0 → kd_ M1 (rf_ M2 q 1) = 0 → (∀ z, z < j → own_ ow2 M2 (rf_ M2 q 1) z 11 0) → (∀ k, it_ M2 q k = it_ M1 q k) → lp_X0_init_23 q K E n (nI j) (2 + 2 * j) (72 + 25 * j) M2 := by
  intro n
  induction n with
  | zero => intro j M2 ow2 h; omega
  | succ n ih =>
    intro j M2 ow2 hn hj hB hw hG o0 o1 hn9 hn91 oz hit
    refine ⟨fun e => ?_, fun e => ?_⟩
    · have e : nI 8 ≤ nI j := e
      rw [le_nI (by omega) (by omega)] at e
      have : j = 8 := by omega
      subst this
      exact hE M2 ow2 _ _ (by omega) (by omega) hB hw hG o0 o1 oz hit
    · have e : ¬ nI 8 ≤ nI j := e
      rw [le_nI (by omega) (by omega)] at e
      have k2 : kd_ M2 q = 2 := by rw [hG.kd (by rw [hk1]; decide)]; exact hk1
      have k9 := o1.1
      refine ⟨o1.1, by omega, by omega, fun q19 _ hq19 M22 e22 => ⟨by omega, by omega, ?_⟩⟩
      subst e22
      have hnq : q ≠ q19 := fun e => by rw [e] at k2; omega
      have hn9q : rf_ M2 q 1 ≠ q19 := fun e => by rw [e] at k9; omega
      have b1 := hB.nw (c := 11) (n := 0) hq19 (rf_ M2 q 1, j)
      refine sp_zinit b1 (Or.inr rfl) (kd_nwq _ _ _ _) (hB.new hq19) (fun M3 ow3 hB3 hw3 hG3 _ => ?_)
      have k3q : kd_ M3 q = 2 := by
        rw [hG3.kd (by rw [kd_nwo hnq, k2]; decide), kd_nwo hnq]; exact k2
      have r3 : ∀ k, rf_ M3 q k = rf_ M2 q k := fun k => by
        rw [hG3.rf (by rw [kd_nwo hnq, k2]; decide) hnq, rf_nwo hnq]
      have i3 : ∀ k, it_ M3 q k = it_ M2 q k := fun k => by
        rw [hG3.it (by rw [kd_nwo hnq, k2]; decide) hnq, it_nwo hnq]
      have k39 : kd_ M3 (rf_ M2 q 1) = 23 := by
        rw [hG3.kd (by rw [kd_nwo hn9q, k9]; decide), kd_nwo hn9q]; exact k9
      have l39 : ln_ M3 (rf_ M2 q 1) = 8 := by
        rw [hG3.ln (by rw [kd_nwo hn9q, k9]; decide), ln_nwo hn9q]; exact o1.2.1
      have k319 : kd_ M3 q19 = 11 := by
        rw [hG3.kd (by rw [kd_nwq]; decide), kd_nwq]
      have l319 : ln_ M3 q19 = 0 := by
        rw [hG3.ln (by rw [kd_nwq]; decide), ln_nwq]
      have w319 : ow3 q19 = (rf_ M2 q 1, j) := by
        rw [hw3 _ (by rw [kd_nwq]; decide), upd_s]
      have w39 : ow3 (rf_ M2 q 1) = (q, 1) := by
        rw [hw3 _ (by rw [kd_nwo hn9q, k9]; decide), upd_o _ _ hn9q, o1.2.2]
      have hw23 : ∀ b, kd_ M2 b ≠ 0 → ow3 b = ow2 b := fun b hb => by
        have : b ≠ q19 := fun e => hb (by rw [e]; exact hq19)
        rw [hw3 b (by rw [kd_nwo this]; exact hb), upd_o _ _ this]
      have hG23 : Gw_ (fun b => b = q19) M2 M3 := (Gw_.nw hq19).tr hG3
      rw [ix_nI (show j < 2147483648 by omega)]
      refine ⟨by rw [l39]; exact vi_ (by omega) (by decide), fun M4 e4 => ?_⟩
      subst e4
      have hB4 : BD_ ow M ow3 (sR_ M3 (rf_ M2 q 1) j q19) S := (hB3.set (S' := S) (fun b hb => by
        rcases hb.1 with z | z
        · exact z
        · exact absurd z hb.2)).sR hn9 (Or.inr ⟨Or.inl k39, by rw [w39]; exact hq⟩)
      have hq9 : q ≠ rf_ M2 q 1 := fun e => by rw [← e] at k9; omega
      have r4 : rf_ (sR_ M3 (rf_ M2 q 1) j q19) q 1 = rf_ M2 q 1 := by
        rw [rf_sR, if_neg (fun z => hq9 z.1), r3]
      rw [nI_p1]
      have := ih (j + 1) (sR_ M3 (rf_ M2 q 1) j q19) ow3 (by omega) (by omega) hB4 (fun b hb => by rw [hw23 b (by rw [hG.kd hb]; exact hb)]; exact hw b hb) ⟨((hG.1.tr hG23.1).tr (fun _ _ => rfl)), fun b hb hbq k => ?_⟩ (own_sR (keep_own hw23 hG23 o0 (by rw [k2]; decide) hnq (by decide)) (Or.inl hq9)) (own_sR (keep_own hw23 hG23 o1 (by rw [k2]; decide) hnq (by decide)) (Or.inl hq9)) (by rw [r4]; exact hn9) (by rw [r4]; exact hn91) (fun z hz => ?_) (fun k => by show it_ M3 q k = _; rw [i3]; exact hit k)
      · have h1 : 2 + 2 * (j + 1) = 2 + 2 * j + 1 + 1 := by omega
        have h2 : 72 + 25 * (j + 1) = 72 + 25 * j + 9 + 16 := by omega
        rw [h1, h2] at this
        exact this
      · obtain ⟨g1, g2, g3⟩ := hG.2 b hb hbq k
        have hb2 : kd_ M2 b ≠ 0 := by rw [hG.kd hb]; exact hb
        obtain ⟨p1, p2, p3⟩ := hG23.2 b hb2 (fun e => hb2 (by rw [e]; exact hq19)) k
        refine ⟨?_, p2.trans g2, p3.trans g3⟩
        rw [rf_sR, if_neg (fun z => hb (by rw [z.1]; exact hn91))]
        exact p1.trans g1
      · rw [r4]
        by_cases e : z = j
        · rw [e]
          exact own_set k319 l319 w319
        · exact own_sR (keep_own hw23 hG23 (oz z (by omega)) (by rw [k9]; decide) hn9q (by decide)) (Or.inr e)
theorem sp_binit {K : Mm → Prop} (h : BD_ ow M ow1 M1 S) (hq : S q) (hk : kd_ M1 q = 2) (h0 : kd_ M q = 0)
    (hK : ∀ M2 ow2, BD_ ow M ow2 M2 (fun b => S b ∧ b ≠ q) → (∀ b, kd_ M1 b ≠ 0 → ow2 b = ow1 b) → Gw_ (fun b => b = q) M1 M2 → (∀ k, it_ M2 q k = it_ M1 q k) → K M2) : wp_X0_init q M1 K := by
  refine ⟨hk, fun q1 _ hq1 M4 e4 M8 e8 q9 _ hq9 M12 e12 M16 e16 => ⟨9, ?_⟩⟩
  subst e4; subst e8; subst e12; subst e16
  have i64 : ix_ (64 : Int32) = 64 := rfl
  have i8 : ix_ (8 : Int32) = 8 := rfl
  rw [i64] at hq9 ⊢
  rw [i8]
  have n1 : q ≠ q1 := fun e => by rw [e] at hk; omega
  have hq9' : kd_ (nw_ M1 q1 20 64) q9 = 0 := hq9
  have n91 : q9 ≠ q1 := fun e => by rw [e, kd_nwq] at hq9'; omega
  have hq91 : kd_ M1 q9 = 0 := by rw [kd_nwo n91] at hq9'; exact hq9'
  have n9 : q ≠ q9 := fun e => by rw [e] at hk; omega
  have kq : kd_ (nw_ M1 q1 20 64) q = 2 := by rw [kd_nwo n1]; exact hk
  have b1 := h.nwt (c := 20) (n := 64) hq1 (q, 0) (by decide)
  have b2 := b1.sR (a := q) (k := 0) (v := q1) h0 (Or.inl ⟨hq, by omega, by omega, by omega⟩)
  have b3 := b2.nwt (c := 23) (n := 8) hq9 (q, 1) (by decide)
  have kq3 : kd_ (nw_ (sR_ (nw_ M1 q1 20 64) q 0 q1) q9 23 8) q = 2 := by rw [kd_nwo n9]; exact kq
  have b4 := b3.sR (a := q) (k := 1) (v := q9) h0 (Or.inl ⟨hq, by omega, by omega, by omega⟩)
  have o0 : own_ (upd_ ow1 q1 (q, 0)) (sR_ (nw_ M1 q1 20 64) q 0 q1) q 0 20 64 := own_set (kd_nwq _ _ _ _) (ln_nwq _ _ _ _) (upd_s _ _ _)
  have o0' := own_sR (a := q) (k := 1) (v := q9) (own_nw (c' := 23) (n' := 8) (o := (q, 1)) o0 (by show kd_ (nw_ M1 q1 20 64) q ≠ 0; omega) (by decide) hq9) (Or.inr (by decide))
  have o1 : own_ (upd_ (upd_ ow1 q1 (q, 0)) q9 (q, 1)) (sR_ (nw_ (sR_ (nw_ M1 q1 20 64) q 0 q1) q9 23 8) q 1 q9) q 1 23 8 := own_set (kd_nwq _ _ _ _) (ln_nwq _ _ _ _) (upd_s _ _ _)
  have r9 : rf_ (sR_ (nw_ (sR_ (nw_ M1 q1 20 64) q 0 q1) q9 23 8) q 1 q9) q 1 = q9 := by rw [rf_sR, if_pos ⟨rfl, rfl⟩]
  refine lp_binit_ok (E' := K) (ow := ow) (ow1 := ow1) (M := M) (M1 := M1) hq hk h0 (fun M2 ow2 c d hc hd g1 g2 g3 g4 g5 g6 g7 _ => ⟨hc, hd, hK M2 ow2 (g1.fin (q := q) ?_ (fun b hb => ?_)) g2 g3 g7⟩) 9 0 _ _ (by omega) (by omega) b4 (fun b hb => ?_) ⟨?_, fun b hb hbq k => ?_⟩ o0' o1 (by rw [r9]; exact h.new hq91) (by rw [r9]; exact hq91) (fun z hz => by omega) (fun k => ?_)
  · rw [upd_o _ _ (fun e => hb (by rw [e]; exact hq91)), upd_o _ _ (fun e => hb (by rw [e]; exact hq1))]
  · exact ((Nk_nw_ (c := 20) (n := 64) hq1).tr (fun _ _ => rfl)).tr ((Nk_nw_ hq9).tr (fun _ _ => rfl))
  · have e1 : b ≠ q1 := fun e => hb (by rw [e]; exact hq1)
    have e9 : b ≠ q9 := fun e => hb (by rw [e]; exact hq91)
    refine ⟨?_, ?_, ?_⟩
    · rw [rf_sR, if_neg (fun z => hbq z.1), rf_nwo e9, rf_sR, if_neg (fun z => hbq z.1), rf_nwo e1]
    · show it_ (nw_ (sR_ (nw_ M1 q1 20 64) q 0 q1) q9 23 8) b k = _
      rw [it_nwo e9]
      show it_ (nw_ M1 q1 20 64) b k = _
      rw [it_nwo e1]
    · exact (Gw_.nw (A := fun _ => False) (M := sR_ (nw_ M1 q1 20 64) q 0 q1) (c := 23) (n := 8) hq9).lg (by show kd_ (nw_ M1 q1 20 64) b ≠ 0; rw [kd_nwo e1]; exact hb) id k |>.trans ((Gw_.nw (A := fun _ => False) (c := 20) (n := 64) hq1).lg hb id k)
  · show it_ (nw_ (sR_ (nw_ M1 q1 20 64) q 0 q1) q9 23 8) q k = _
    rw [it_nwo n9]
    show it_ (nw_ M1 q1 20 64) q k = _
    rw [it_nwo n1]
  · have k2 : kd_ M2 q = 2 := by rw [g3.kd (by rw [hk]; decide)]; exact hk
    unfold Sh_
    rw [k2]
    exact ⟨fun _ => ⟨g4, g5, g6⟩, fun z => by omega, fun z => by omega, fun z => by omega, fun z => by omega, fun z => by omega, fun z => by omega, fun z => by omega, fun z => by omega, fun z => by omega⟩
  · by_cases e : b = q
    · exact Or.inr e
    · exact Or.inl ⟨hb, e⟩
end BU
