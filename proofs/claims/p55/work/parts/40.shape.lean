/-! the shape of the objects: what a reference of theirs leads to, and whose it is -/
def own_ (ow : Nat → Nat × Nat) (M : Mm) (a k c n : Nat) : Prop := kd_ M (rf_ M a k) = c ∧ ln_ M (rf_ M a k) = n ∧ ow (rf_ M a k) = (a, k)
def Sh_ (ow : Nat → Nat × Nat) (M : Mm) (a : Nat) : Prop :=
  (kd_ M a = 2 → own_ ow M a 0 20 64 ∧ own_ ow M a 1 23 8 ∧ ∀ j, j < 8 → own_ ow M (rf_ M a 1) j 11 0) ∧
  (kd_ M a = 3 → own_ ow M a 0 20 600 ∧ own_ ow M a 1 21 600) ∧
  (kd_ M a = 5 → own_ ow M a 0 24 4 ∧ ∀ j, j < 4 → own_ ow M (rf_ M a 0) j 4 0) ∧
  (kd_ M a = 6 → own_ ow M a 0 25 4 ∧ ∀ j, j < 4 → own_ ow M (rf_ M a 0) j 5 0) ∧
  (kd_ M a = 7 → own_ ow M a 0 20 600 ∧ own_ ow M a 3 20 600 ∧ own_ ow M a 5 20 600 ∧ own_ ow M a 6 20 601) ∧
  (kd_ M a = 8 → own_ ow M a 0 20 600 ∧ own_ ow M a 5 21 64 ∧ own_ ow M a 7 21 64 ∧ own_ ow M a 8 20 4 ∧ own_ ow M a 9 20 4) ∧
  (kd_ M a = 9 → own_ ow M a 0 22 600 ∧ own_ ow M a 1 20 600) ∧
  (kd_ M a = 10 → own_ ow M a 0 1 0 ∧ own_ ow M a 1 1 0 ∧ own_ ow M a 2 21 600 ∧ own_ ow M a 3 20 600 ∧ own_ ow M a 4 9 0 ∧ own_ ow M a 10 20 64) ∧
  (kd_ M a = 11 → own_ ow M a 7 20 16) ∧
  (kd_ M a = 12 → own_ ow M a 0 10 0 ∧ own_ ow M a 1 6 0 ∧ own_ ow M a 2 8 0 ∧ own_ ow M a 3 7 0)
def SH_ (ow : Nat → Nat × Nat) (M : Mm) : Prop := ∀ a, Sh_ ow M a
theorem Sm_.own {ow : Nat → Nat × Nat} {M M' : Mm} (h : Sm_ M M') (a k c n : Nat) : own_ ow M' a k c n ↔ own_ ow M a k c n := by
  unfold own_
  rw [h.rf, h.kd, h.ln]
theorem Sm_.sh {ow : Nat → Nat × Nat} {M M' : Mm} (h : Sm_ M M') (hs : SH_ ow M) : SH_ ow M' := by
  intro a
  have g := hs a
  unfold Sh_ at g ⊢
  simp only [h.own, h.kd, h.rf]
  exact g
theorem SH_.blk {ow : Nat → Nat × Nat} {M : Mm} (h : SH_ ow M) {a : Nat} (hk : kd_ M a = 2) : own_ ow M a 0 20 64 ∧ own_ ow M a 1 23 8 ∧ ∀ j, j < 8 → own_ ow M (rf_ M a 1) j 11 0 := (h a).1 hk
theorem SH_.col {ow : Nat → Nat × Nat} {M : Mm} (h : SH_ ow M) {a : Nat} (hk : kd_ M a = 3) : own_ ow M a 0 20 600 ∧ own_ ow M a 1 21 600 := (h a).2.1 hk
theorem SH_.grp {ow : Nat → Nat × Nat} {M : Mm} (h : SH_ ow M) {a : Nat} (hk : kd_ M a = 5) : own_ ow M a 0 24 4 ∧ ∀ j, j < 4 → own_ ow M (rf_ M a 0) j 4 0 := (h a).2.2.1 hk
theorem SH_.qry {ow : Nat → Nat × Nat} {M : Mm} (h : SH_ ow M) {a : Nat} (hk : kd_ M a = 6) : own_ ow M a 0 25 4 ∧ ∀ j, j < 4 → own_ ow M (rf_ M a 0) j 5 0 := (h a).2.2.2.1 hk
theorem SH_.res {ow : Nat → Nat × Nat} {M : Mm} (h : SH_ ow M) {a : Nat} (hk : kd_ M a = 7) : own_ ow M a 0 20 600 ∧ own_ ow M a 3 20 600 ∧ own_ ow M a 5 20 600 ∧ own_ ow M a 6 20 601 := (h a).2.2.2.2.1 hk
theorem SH_.sea {ow : Nat → Nat × Nat} {M : Mm} (h : SH_ ow M) {a : Nat} (hk : kd_ M a = 8) : own_ ow M a 0 20 600 ∧ own_ ow M a 5 21 64 ∧ own_ ow M a 7 21 64 ∧ own_ ow M a 8 20 4 ∧ own_ ow M a 9 20 4 := (h a).2.2.2.2.2.1 hk
theorem SH_.sor {ow : Nat → Nat × Nat} {M : Mm} (h : SH_ ow M) {a : Nat} (hk : kd_ M a = 9) : own_ ow M a 0 22 600 ∧ own_ ow M a 1 20 600 := (h a).2.2.2.2.2.2.1 hk
theorem SH_.tab {ow : Nat → Nat × Nat} {M : Mm} (h : SH_ ow M) {a : Nat} (hk : kd_ M a = 10) : own_ ow M a 0 1 0 ∧ own_ ow M a 1 1 0 ∧ own_ ow M a 2 21 600 ∧ own_ ow M a 3 20 600 ∧ own_ ow M a 4 9 0 ∧ own_ ow M a 10 20 64 := (h a).2.2.2.2.2.2.2.1 hk
theorem SH_.zon {ow : Nat → Nat × Nat} {M : Mm} (h : SH_ ow M) {a : Nat} (hk : kd_ M a = 11) : own_ ow M a 7 20 16 := (h a).2.2.2.2.2.2.2.2.1 hk
theorem SH_.cfr {ow : Nat → Nat × Nat} {M : Mm} (h : SH_ ow M) {a : Nat} (hk : kd_ M a = 12) : own_ ow M a 0 10 0 ∧ own_ ow M a 1 6 0 ∧ own_ ow M a 2 8 0 ∧ own_ ow M a 3 7 0 := (h a).2.2.2.2.2.2.2.2.2 hk
/-- what two of different owners are: two -/
theorem own_ne {ow : Nat → Nat × Nat} {M M' : Mm} {a k c n b j d m : Nat} (h : own_ ow M a k c n) (h2 : own_ ow M' b j d m) (hne : a ≠ b ∨ k ≠ j) : rf_ M a k ≠ rf_ M' b j := by
  intro e
  have e2 := h.2.2
  rw [e, h2.2.2] at e2
  have e3 := Prod.mk.inj e2
  rcases hne with h | h
  · exact h e3.1.symm
  · exact h e3.2.symm
/-! what a growing memory keeps -/
def Gw_ (A : Nat → Prop) (M M' : Mm) : Prop := Nk_ M M' ∧ ∀ b, kd_ M b ≠ 0 → ¬ A b → ∀ k, rf_ M' b k = rf_ M b k ∧ it_ M' b k = it_ M b k ∧ lg_ M' b k = lg_ M b k
theorem Gw_.refl (A : Nat → Prop) (M : Mm) : Gw_ A M M := ⟨Nk_.rf M, fun _ _ _ _ => ⟨rfl, rfl, rfl⟩⟩
theorem Gw_.kd {A : Nat → Prop} {M M' : Mm} (h : Gw_ A M M') {a : Nat} (ha : kd_ M a ≠ 0) : kd_ M' a = kd_ M a := h.1.k rfl ha
theorem Gw_.ln {A : Nat → Prop} {M M' : Mm} (h : Gw_ A M M') {a : Nat} (ha : kd_ M a ≠ 0) : ln_ M' a = ln_ M a := h.1.n rfl ha
theorem Gw_.tr {A : Nat → Prop} {M M1 M2 : Mm} (h : Gw_ A M M1) (h2 : Gw_ A M1 M2) : Gw_ A M M2 := ⟨h.1.tr h2.1, fun b hb hA k => by
  obtain ⟨g1, g2, g3⟩ := h.2 b hb hA k
  obtain ⟨q1, q2, q3⟩ := h2.2 b (by rw [h.kd hb]; exact hb) hA k
  exact ⟨q1.trans g1, q2.trans g2, q3.trans g3⟩⟩
theorem Gw_.mono {A B : Nat → Prop} {M M' : Mm} (h : Gw_ A M M') (hAB : ∀ b, kd_ M b ≠ 0 → A b → B b) : Gw_ B M M' := ⟨h.1, fun b hb hB k => h.2 b hb (fun z => hB (hAB b hb z)) k⟩
theorem Gw_.rf {A : Nat → Prop} {M M' : Mm} (h : Gw_ A M M') {a : Nat} (ha : kd_ M a ≠ 0) (hA : ¬ A a) (k : Nat) : rf_ M' a k = rf_ M a k := (h.2 a ha hA k).1
theorem Gw_.it {A : Nat → Prop} {M M' : Mm} (h : Gw_ A M M') {a : Nat} (ha : kd_ M a ≠ 0) (hA : ¬ A a) (k : Nat) : it_ M' a k = it_ M a k := (h.2 a ha hA k).2.1
theorem Gw_.lg {A : Nat → Prop} {M M' : Mm} (h : Gw_ A M M') {a : Nat} (ha : kd_ M a ≠ 0) (hA : ¬ A a) (k : Nat) : lg_ M' a k = lg_ M a k := (h.2 a ha hA k).2.2
theorem Ex_.gw {A : Nat → Prop} {M M' : Mm} (h : Ex_ A M M') : Gw_ A M M' := ⟨fun a _ => by rw [h.1.1], fun b _ hA k => ⟨h.rf b k, h.it hA k, h.lg hA k⟩⟩
theorem Gw_.nw {A : Nat → Prop} {M : Mm} {q c n : Nat} (hq : kd_ M q = 0) : Gw_ A M (nw_ M q c n) := ⟨Nk_nw_ hq, fun b hb _ k => by
  have hne : ¬ b = q := fun z => hb (by rw [z]; exact hq)
  exact ⟨if_neg hne, if_neg hne, if_neg hne⟩⟩
theorem Gw_.sR {A : Nat → Prop} (M : Mm) {a : Nat} (k v : Nat) (ha : A a) : Gw_ A M (sR_ M a k v) := ⟨fun _ _ => rfl, fun b _ hb j => ⟨by rw [rf_sR, if_neg (fun z => hb (by rw [z.1]; exact ha))], rfl, rfl⟩⟩
theorem Gw_.sI {A : Nat → Prop} (M : Mm) {a : Nat} (k : Nat) (v : Int32) (ha : A a) : Gw_ A M (sI_ M a k v) := (Ex_.sI M k v ha).gw
theorem Gw_.aR {A : Nat → Prop} (M : Mm) {a : Nat} (f : Nat → Nat) (ha : A a) : Gw_ A M (aR_ M a f) := ⟨fun _ _ => rfl, fun b _ hb j => ⟨by rw [rf_aR, if_neg (fun z => hb (by rw [z]; exact ha))], rfl, rfl⟩⟩
theorem Gw_.own {A : Nat → Prop} {ow ow' : Nat → Nat × Nat} {M M' : Mm} (h : Gw_ A M M') (hw : ∀ b, kd_ M b ≠ 0 → ow' b = ow b) {a k c n : Nat} (ha : kd_ M a ≠ 0) (hA : ¬ A a) (hc : c ≠ 0) (g : own_ ow M a k c n) : own_ ow' M' a k c n := by
  obtain ⟨g1, g2, g3⟩ := g
  have g0 : kd_ M (rf_ M a k) ≠ 0 := by rw [g1]; exact hc
  unfold own_
  rw [h.rf ha hA, h.kd g0, h.ln g0, hw _ g0]
  exact ⟨g1, g2, g3⟩
/-- the shapes stay where only rows of objects and lists are written, and what is new has no shape of its own -/
theorem Gw_.sh {A : Nat → Prop} {ow ow' : Nat → Nat × Nat} {M M' : Mm} (h : Gw_ A M M') (hw : ∀ b, kd_ M b ≠ 0 → ow' b = ow b) (hA : ∀ b, A b → kd_ M b = 1 ∨ kd_ M b = 26 ∨ kd_ M b = 36 ∨ kd_ M b = 0) (hn : ∀ b, kd_ M b = 0 → kd_ M' b = 0 ∨ kd_ M' b = 26) (hs : SH_ ow M) : SH_ ow' M' := by
  intro a
  by_cases h0 : kd_ M a = 0
  · have := hn a h0
    unfold Sh_
    refine ⟨fun z => by omega, fun z => by omega, fun z => by omega, fun z => by omega, fun z => by omega, fun z => by omega, fun z => by omega, fun z => by omega, fun z => by omega, fun z => by omega⟩
  · have hk := h.kd h0
    have nA : ∀ b, kd_ M b ≠ 0 → kd_ M b ≠ 1 → kd_ M b ≠ 26 → kd_ M b ≠ 36 → ¬ A b := fun b b0 b1 b2 b3 hb => by
      rcases hA b hb with z | z | z | z
      · exact b1 z
      · exact b2 z
      · exact b3 z
      · exact b0 z
    unfold Sh_
    rw [hk]
    refine ⟨fun z => ?_, fun z => ?_, fun z => ?_, fun z => ?_, fun z => ?_, fun z => ?_, fun z => ?_, fun z => ?_, fun z => ?_, fun z => ?_⟩
    · obtain ⟨g1, g2, g3⟩ := hs.blk z
      have n1 := nA a h0 (by omega) (by omega) (by omega)
      have k2 : kd_ M (rf_ M a 1) = 23 := g2.1
      rw [h.rf h0 n1]
      exact ⟨h.own hw h0 n1 (by decide) g1, h.own hw h0 n1 (by decide) g2, fun j hj => h.own hw (by omega) (nA _ (by omega) (by omega) (by omega) (by omega)) (by decide) (g3 j hj)⟩
    · obtain ⟨g1, g2⟩ := hs.col z
      have n1 := nA a h0 (by omega) (by omega) (by omega)
      exact ⟨h.own hw h0 n1 (by decide) g1, h.own hw h0 n1 (by decide) g2⟩
    · obtain ⟨g1, g2⟩ := hs.grp z
      have n1 := nA a h0 (by omega) (by omega) (by omega)
      have k2 : kd_ M (rf_ M a 0) = 24 := g1.1
      rw [h.rf h0 n1]
      exact ⟨h.own hw h0 n1 (by decide) g1, fun j hj => h.own hw (by omega) (nA _ (by omega) (by omega) (by omega) (by omega)) (by decide) (g2 j hj)⟩
    · obtain ⟨g1, g2⟩ := hs.qry z
      have n1 := nA a h0 (by omega) (by omega) (by omega)
      have k2 : kd_ M (rf_ M a 0) = 25 := g1.1
      rw [h.rf h0 n1]
      exact ⟨h.own hw h0 n1 (by decide) g1, fun j hj => h.own hw (by omega) (nA _ (by omega) (by omega) (by omega) (by omega)) (by decide) (g2 j hj)⟩
    · obtain ⟨g1, g2, g3, g4⟩ := hs.res z
      have n1 := nA a h0 (by omega) (by omega) (by omega)
      exact ⟨h.own hw h0 n1 (by decide) g1, h.own hw h0 n1 (by decide) g2, h.own hw h0 n1 (by decide) g3, h.own hw h0 n1 (by decide) g4⟩
    · obtain ⟨g1, g2, g3, g4, g5⟩ := hs.sea z
      have n1 := nA a h0 (by omega) (by omega) (by omega)
      exact ⟨h.own hw h0 n1 (by decide) g1, h.own hw h0 n1 (by decide) g2, h.own hw h0 n1 (by decide) g3, h.own hw h0 n1 (by decide) g4, h.own hw h0 n1 (by decide) g5⟩
    · obtain ⟨g1, g2⟩ := hs.sor z
      have n1 := nA a h0 (by omega) (by omega) (by omega)
      exact ⟨h.own hw h0 n1 (by decide) g1, h.own hw h0 n1 (by decide) g2⟩
    · obtain ⟨g1, g2, g3, g4, g5, g6⟩ := hs.tab z
      have n1 := nA a h0 (by omega) (by omega) (by omega)
      exact ⟨h.own hw h0 n1 (by decide) g1, h.own hw h0 n1 (by decide) g2, h.own hw h0 n1 (by decide) g3, h.own hw h0 n1 (by decide) g4, h.own hw h0 n1 (by decide) g5, h.own hw h0 n1 (by decide) g6⟩
    · have n1 := nA a h0 (by omega) (by omega) (by omega)
      exact h.own hw h0 n1 (by decide) (hs.zon z)
    · obtain ⟨g1, g2, g3, g4⟩ := hs.cfr z
      have n1 := nA a h0 (by omega) (by omega) (by omega)
      exact ⟨h.own hw h0 n1 (by decide) g1, h.own hw h0 n1 (by decide) g2, h.own hw h0 n1 (by decide) g3, h.own hw h0 n1 (by decide) g4⟩
/-! lists -/
def el_ (M : Mm) (l i : Nat) : Nat := rf_ M (rf_ M l 1) i
def Ls_ (ow : Nat → Nat × Nat) (M : Mm) (l n c : Nat) : Prop :=
  kd_ M l = 1 ∧ it_ M l 2 = nI n ∧ n ≤ 200 ∧ ((n = 0 ∧ kd_ M (rf_ M l 1) = 36 ∧ ln_ M (rf_ M l 1) = 0) ∨ (kd_ M (rf_ M l 1) = 26 ∧ n ≤ ln_ M (rf_ M l 1) ∧ 10 ≤ ln_ M (rf_ M l 1) ∧ ln_ M (rf_ M l 1) ≤ 200 ∧ ow (rf_ M l 1) = (l, 1))) ∧ (∀ i, i < n → kd_ M (el_ M l i) = c) ∧ ∀ i j, i < n → j < n → el_ M l i = el_ M l j → i = j
theorem Ls_.k1 {ow : Nat → Nat × Nat} {M : Mm} {l n c : Nat} (h : Ls_ ow M l n c) : kd_ M l = 1 := h.1
theorem Ls_.sz {ow : Nat → Nat × Nat} {M : Mm} {l n c : Nat} (h : Ls_ ow M l n c) : it_ M l 2 = nI n := h.2.1
theorem Ls_.le {ow : Nat → Nat × Nat} {M : Mm} {l n c : Nat} (h : Ls_ ow M l n c) : n ≤ 200 := h.2.2.1
theorem Ls_.el {ow : Nat → Nat × Nat} {M : Mm} {l n c i : Nat} (h : Ls_ ow M l n c) (hi : i < n) : kd_ M (el_ M l i) = c := h.2.2.2.2.1 i hi
theorem Ls_.inj {ow : Nat → Nat × Nat} {M : Mm} {l n c i j : Nat} (h : Ls_ ow M l n c) (hi : i < n) (hj : j < n) (e : el_ M l i = el_ M l j) : i = j := h.2.2.2.2.2 i j hi hj e
theorem Ls_.arr {ow : Nat → Nat × Nat} {M : Mm} {l n c i : Nat} (h : Ls_ ow M l n c) (hi : i < n) : kd_ M (rf_ M l 1) = 26 ∧ n ≤ ln_ M (rf_ M l 1) ∧ 10 ≤ ln_ M (rf_ M l 1) ∧ ln_ M (rf_ M l 1) ≤ 200 ∧ ow (rf_ M l 1) = (l, 1) := by
  rcases h.2.2.2.1 with ⟨h0, -⟩ | h0
  · omega
  · exact h0
theorem Sm_.el {M M' : Mm} (h : Sm_ M M') (l i : Nat) : el_ M' l i = el_ M l i := by
  unfold el_
  rw [h.rf, h.rf]
theorem Sm_.ls {ow : Nat → Nat × Nat} {M M' : Mm} {l n c : Nat} (h : Sm_ M M') (hi : it_ M' l 2 = it_ M l 2) (g : Ls_ ow M l n c) : Ls_ ow M' l n c := by
  unfold Ls_ at g ⊢
  simp only [h.kd, h.ln, h.rf, h.el, hi]
  exact g
theorem Gw_.el {A : Nat → Prop} {ow : Nat → Nat × Nat} {M M' : Mm} {l n c i : Nat} (h : Gw_ A M M') (g : Ls_ ow M l n c) (hl : ¬ A l) (ha : ¬ A (rf_ M l 1)) (hi : i < n) : el_ M' l i = el_ M l i := by
  have ga := g.arr hi
  unfold el_
  rw [h.rf (by rw [g.1]; decide) hl, h.rf (by rw [ga.1]; decide) ha]
theorem Gw_.ls {A : Nat → Prop} {ow ow' : Nat → Nat × Nat} {M M' : Mm} {l n c : Nat} (h : Gw_ A M M') (hw : ∀ b, kd_ M b ≠ 0 → ow' b = ow b) (hl : ¬ A l) (ha : kd_ M (rf_ M l 1) = 26 → ¬ A (rf_ M l 1)) (hc : c ≠ 0) (g : Ls_ ow M l n c) : Ls_ ow' M' l n c := by
  have g1 := g.1
  have hel : ∀ i, i < n → el_ M' l i = el_ M l i := fun i hi => h.el g hl (ha (g.arr hi).1) hi
  have hr : rf_ M' l 1 = rf_ M l 1 := h.rf (by rw [g1]; decide) hl 1
  have hk0 : kd_ M (rf_ M l 1) ≠ 0 := by
    rcases g.2.2.2.1 with z | z
    · rw [z.2.1]; decide
    · rw [z.1]; decide
  refine ⟨by rw [h.kd (by rw [g1]; decide)]; exact g1, by rw [h.it (by rw [g1]; decide) hl]; exact g.sz, g.le, ?_, fun i hi => by rw [hel i hi, h.kd (by rw [g.el hi]; exact hc)]; exact g.el hi, fun i j hi hj e => by rw [hel i hi, hel j hj] at e; exact g.inj hi hj e⟩
  rw [hr, h.kd hk0, h.ln hk0, hw _ hk0]
  exact g.2.2.2.1
