/-! ints as numbers -/
theorem ix_nI {n : Nat} (h : n < 2147483648) : ix_ (nI n) = n := nI_clamp (by simpa using h)
theorem nI_t {n : Nat} (h : n < 2147483648) : (nI n).toInt = (n : Int) := nI_toInt (by simpa using h)
theorem vi_ {n N : Nat} (h : n < N) (hN : N < 2147483648) : vp_in (nI n) N := vp_in_nI h (by simpa using hN)
theorem nI_inj {a b : Nat} (ha : a < 2147483648) (hb : b < 2147483648) (h : nI a = nI b) : a = b := (nI_eq (by simpa using ha) (by simpa using hb)).mp h
theorem le_nI {a b : Nat} (ha : a < 2147483648) (hb : b < 2147483648) : nI a ≤ nI b ↔ a ≤ b := nI_leI (by simpa using ha) (by simpa using hb)
theorem lt_nI {a b : Nat} (ha : a < 2147483648) (hb : b < 2147483648) : nI a < nI b ↔ a < b := nI_ltI (by simpa using ha) (by simpa using hb)
theorem eq_nI {a b : Nat} (ha : a < 2147483648) (hb : b < 2147483648) : nI a = nI b ↔ a = b := nI_eq (by simpa using ha) (by simpa using hb)
theorem nI_p1 (a : Nat) : nI a + (1 : Int32) = nI (a + 1) := nI_1 a
theorem nI_s1 {a : Nat} (h : 0 < a) : nI a - (1 : Int32) = nI (a - 1) := by
  have k := pk_sub (a := a) (b := 1) h
  exact k
theorem i_lt {a b : Int32} : a < b ↔ a.toInt < b.toInt := Int32.lt_iff_toInt_lt
theorem i_le {a b : Int32} : a ≤ b ↔ a.toInt ≤ b.toInt := Int32.le_iff_toInt_le
theorem i_eq {a b : Int32} : a = b ↔ a.toInt = b.toInt := Int32.toInt_inj.symm
theorem l_lt {a b : Int64} : a < b ↔ a.toInt < b.toInt := Int64.lt_iff_toInt_lt
theorem l_le {a b : Int64} : a ≤ b ↔ a.toInt ≤ b.toInt := Int64.le_iff_toInt_le
theorem i_rng (a : Int32) : -2147483648 ≤ a.toInt ∧ a.toInt < 2147483648 := ⟨by have := a.le_toInt; omega, by have := a.toInt_lt; omega⟩
theorem i_nI {x : Int32} (h0 : 0 ≤ x.toInt) : x = nI x.toInt.toNat ∧ x.toInt.toNat < 2147483648 := by
  have h1 := (i_rng x).2
  refine ⟨?_, by omega⟩
  rw [i_eq, nI_t (by omega)]
  omega
theorem nI_min {a b : Nat} (ha : a < 2147483648) (hb : b < 2147483648) : (if nI b < nI a then nI b else nI a) = nI (min a b) := by
  by_cases h : b < a
  · rw [if_pos ((lt_nI hb ha).mpr h), Nat.min_eq_right (by omega)]
  · rw [if_neg (fun z => h ((lt_nI hb ha).mp z)), Nat.min_eq_left (by omega)]
theorem nI_max {a b : Nat} (ha : a < 2147483648) (hb : b < 2147483648) : (if nI a < nI b then nI b else nI a) = nI (max a b) := by
  by_cases h : a < b
  · rw [if_pos ((lt_nI ha hb).mpr h), Nat.max_eq_right (by omega)]
  · rw [if_neg (fun z => h ((lt_nI ha hb).mp z)), Nat.max_eq_left (by omega)]
/-! what stays of a memory -/
def Sm_ (M M' : Mm) : Prop := M'.1 = M.1 ∧ M'.2.1 = M.2.1
theorem Sm_.kd {M M' : Mm} (h : Sm_ M M') (a : Nat) : kd_ M' a = kd_ M a := by unfold kd_; rw [h.1]
theorem Sm_.ln {M M' : Mm} (h : Sm_ M M') (a : Nat) : ln_ M' a = ln_ M a := by unfold ln_; rw [h.1]
theorem Sm_.rf {M M' : Mm} (h : Sm_ M M') (a k : Nat) : rf_ M' a k = rf_ M a k := by unfold rf_; rw [h.2]
theorem Sm_.refl (M : Mm) : Sm_ M M := ⟨rfl, rfl⟩
theorem Sm_.tr {M M1 M2 : Mm} (h : Sm_ M M1) (h2 : Sm_ M1 M2) : Sm_ M M2 := ⟨h2.1.trans h.1, h2.2.trans h.2⟩
/-- the ints and longs of the cells outside A stay, kinds and references all stay -/
def Ex_ (A : Nat → Prop) (M M' : Mm) : Prop := Sm_ M M' ∧ ∀ b, ¬ A b → ∀ k, it_ M' b k = it_ M b k ∧ lg_ M' b k = lg_ M b k
theorem Ex_.refl (A : Nat → Prop) (M : Mm) : Ex_ A M M := ⟨Sm_.refl M, fun _ _ _ => ⟨rfl, rfl⟩⟩
theorem Ex_.tr {A : Nat → Prop} {M M1 M2 : Mm} (h : Ex_ A M M1) (h2 : Ex_ A M1 M2) : Ex_ A M M2 := ⟨h.1.tr h2.1, fun b hb k => ⟨(h2.2 b hb k).1.trans (h.2 b hb k).1, (h2.2 b hb k).2.trans (h.2 b hb k).2⟩⟩
theorem Ex_.mono {A B : Nat → Prop} {M M' : Mm} (h : Ex_ A M M') (hAB : ∀ b, A b → B b) : Ex_ B M M' := ⟨h.1, fun b hb k => h.2 b (fun z => hb (hAB b z)) k⟩
theorem Ex_.kd {A : Nat → Prop} {M M' : Mm} (h : Ex_ A M M') (a : Nat) : kd_ M' a = kd_ M a := h.1.kd a
theorem Ex_.ln {A : Nat → Prop} {M M' : Mm} (h : Ex_ A M M') (a : Nat) : ln_ M' a = ln_ M a := h.1.ln a
theorem Ex_.rf {A : Nat → Prop} {M M' : Mm} (h : Ex_ A M M') (a k : Nat) : rf_ M' a k = rf_ M a k := h.1.rf a k
theorem Ex_.it {A : Nat → Prop} {M M' : Mm} (h : Ex_ A M M') {a : Nat} (ha : ¬ A a) (k : Nat) : it_ M' a k = it_ M a k := (h.2 a ha k).1
theorem Ex_.lg {A : Nat → Prop} {M M' : Mm} (h : Ex_ A M M') {a : Nat} (ha : ¬ A a) (k : Nat) : lg_ M' a k = lg_ M a k := (h.2 a ha k).2
theorem Ex_.sI {A : Nat → Prop} (M : Mm) {a : Nat} (k : Nat) (v : Int32) (ha : A a) : Ex_ A M (sI_ M a k v) := ⟨⟨rfl, rfl⟩, fun b hb j => ⟨by rw [it_sI, if_neg (fun z => hb (by rw [z.1]; exact ha))], rfl⟩⟩
theorem Ex_.sL {A : Nat → Prop} (M : Mm) {a : Nat} (k : Nat) (v : Int64) (ha : A a) : Ex_ A M (sL_ M a k v) := ⟨⟨rfl, rfl⟩, fun b hb j => ⟨rfl, by rw [lg_sL, if_neg (fun z => hb (by rw [z.1]; exact ha))]⟩⟩
theorem Ex_.aI {A : Nat → Prop} (M : Mm) {a : Nat} (f : Nat → Int32) (ha : A a) : Ex_ A M (aI_ M a f) := ⟨⟨rfl, rfl⟩, fun b hb j => ⟨by rw [it_aI, if_neg (fun z => hb (by rw [z]; exact ha))], rfl⟩⟩
theorem it_sIs (M : Mm) (a k : Nat) (v : Int32) : it_ (sI_ M a k v) a k = v := by rw [it_sI, if_pos ⟨rfl, rfl⟩]
theorem it_sIn {M : Mm} {a k : Nat} {v : Int32} {b j : Nat} (h : ¬ (b = a ∧ j = k)) : it_ (sI_ M a k v) b j = it_ M b j := by rw [it_sI, if_neg h]
theorem it_sIk {M : Mm} {a k : Nat} {v : Int32} {b j : Nat} (h : j ≠ k) : it_ (sI_ M a k v) b j = it_ M b j := it_sIn (fun z => h z.2)
theorem it_sIa {M : Mm} {a k : Nat} {v : Int32} {b j : Nat} (h : b ≠ a) : it_ (sI_ M a k v) b j = it_ M b j := it_sIn (fun z => h z.1)
theorem lg_sLs (M : Mm) (a k : Nat) (v : Int64) : lg_ (sL_ M a k v) a k = v := by rw [lg_sL, if_pos ⟨rfl, rfl⟩]
theorem lg_sLn {M : Mm} {a k : Nat} {v : Int64} {b j : Nat} (h : ¬ (b = a ∧ j = k)) : lg_ (sL_ M a k v) b j = lg_ M b j := by rw [lg_sL, if_neg h]
theorem kd_ne {M : Mm} {a b c d : Nat} (h : kd_ M a = c) (h2 : kd_ M b = d) (hcd : c ≠ d) : a ≠ b := fun z => hcd (by rw [← h, ← h2, z])
/-! a stretch of a row -/
def sg_ {α : Type} (f : Nat → α) : Nat → Nat → List α
  | _, 0 => []
  | i, n + 1 => f i :: sg_ f (i + 1) n
theorem sg_len {α : Type} (f : Nat → α) (n : Nat) : ∀ i, (sg_ f i n).length = n := by
  induction n with
  | zero => intro i; rfl
  | succ n ih => intro i; simp [sg_, ih]
theorem sg_app {α : Type} (f : Nat → α) (m n : Nat) : ∀ i, sg_ f i (n + m) = sg_ f i n ++ sg_ f (i + n) m := by
  induction n with
  | zero => intro i; simp [sg_]
  | succ n ih =>
    intro i
    rw [show n + 1 + m = n + m + 1 by omega]
    simp only [sg_, List.cons_append]
    rw [ih, show i + 1 + n = i + (n + 1) by omega]
theorem sg_snoc {α : Type} (f : Nat → α) (i n : Nat) : sg_ f i (n + 1) = sg_ f i n ++ [f (i + n)] := by
  rw [sg_app]
  rfl
theorem sg_congr {α : Type} {f g : Nat → α} {n : Nat} : ∀ {i : Nat}, (∀ j, i ≤ j → j < i + n → f j = g j) → sg_ f i n = sg_ g i n := by
  induction n with
  | zero => intro i _; rfl
  | succ n ih =>
    intro i h
    simp only [sg_]
    rw [h i (Nat.le_refl _) (by omega), ih (fun j h1 h2 => h j (by omega) (by omega))]
theorem sg_mem {α : Type} {f : Nat → α} {x : α} {n : Nat} : ∀ {i : Nat}, x ∈ sg_ f i n ↔ ∃ j, i ≤ j ∧ j < i + n ∧ f j = x := by
  induction n with
  | zero =>
    intro i
    simp only [sg_, List.not_mem_nil, false_iff]
    rintro ⟨j, h1, h2, -⟩
    omega
  | succ n ih =>
    intro i
    simp only [sg_, List.mem_cons]
    rw [ih]
    constructor
    · rintro (h | ⟨j, h1, h2, h3⟩)
      · exact ⟨i, Nat.le_refl _, by omega, h.symm⟩
      · exact ⟨j, by omega, by omega, h3⟩
    · rintro ⟨j, h1, h2, h3⟩
      by_cases e : j = i
      · subst e
        exact Or.inl h3.symm
      · exact Or.inr ⟨j, by omega, by omega, h3⟩
theorem sg_get {α : Type} (f : Nat → α) {n : Nat} : ∀ {i j : Nat}, j < n → (sg_ f i n)[j]? = some (f (i + j)) := by
  induction n with
  | zero => intro i j h; omega
  | succ n ih =>
    intro i j h
    cases j with
    | zero => simp [sg_]
    | succ j =>
      simp only [sg_, List.getElem?_cons_succ]
      rw [ih (by omega), show i + 1 + j = i + (j + 1) by omega]
theorem sg_take {α : Type} (f : Nat → α) (n : Nat) : ∀ (i k : Nat), (sg_ f i n).take k = sg_ f i (min k n) := by
  induction n with
  | zero => intro i k; simp [sg_]
  | succ n ih =>
    intro i k
    cases k with
    | zero => simp [sg_]
    | succ k =>
      rw [show min (k + 1) (n + 1) = min k n + 1 by omega]
      simp only [sg_, List.take_succ_cons]
      rw [ih]
theorem sg_drop {α : Type} (f : Nat → α) (n : Nat) : ∀ (i k : Nat), (sg_ f i n).drop k = sg_ f (i + k) (n - k) := by
  induction n with
  | zero => intro i k; simp [sg_]
  | succ n ih =>
    intro i k
    cases k with
    | zero => simp
    | succ k =>
      rw [show n + 1 - (k + 1) = n - k by omega]
      simp only [sg_, List.drop_succ_cons]
      rw [ih, show i + 1 + k = i + (k + 1) by omega]
theorem sg_map {α β : Type} (f : Nat → α) (g : α → β) (n : Nat) : ∀ i, (sg_ f i n).map g = sg_ (fun j => g (f j)) i n := by
  induction n with
  | zero => intro i; rfl
  | succ n ih => intro i; simp only [sg_, List.map_cons]; rw [ih]
theorem sg_eq_get {α : Type} {f g : Nat → α} {n : Nat} (h : sg_ f 0 n = sg_ g 0 n) {j : Nat} (hj : j < n) : f j = g j := by
  have h1 := sg_get f (i := 0) hj
  have h2 := sg_get g (i := 0) hj
  rw [h, h2] at h1
  simpa using (Option.some.inj h1).symm
/-! the sorter's merging, on lists -/
def pas_ {α : Type} (le : α → α → Bool) (w : Nat) : Nat → List α → List α
  | 0, l => l
  | n + 1, l => if l.length = 0 then [] else ((l.take w).merge ((l.drop w).take w) le) ++ pas_ le w n (l.drop (2 * w))
def srt_ {α : Type} (le : α → α → Bool) : Nat → Nat → List α → List α
  | 0, _, l => l
  | n + 1, w, l => if w < l.length then srt_ le n (w * 2) (pas_ le w l.length l) else l
/-- a row of things in the order that the sorter brings them to -/
def ar_ {α : Type} (le : α → α → Bool) (l : List α) : List α := srt_ le l.length 1 l
theorem pas_perm {α : Type} (le : α → α → Bool) (w n : Nat) : ∀ l : List α, (pas_ le w n l).Perm l := by
  induction n with
  | zero => intro l; exact List.Perm.refl _
  | succ n ih =>
    intro l
    unfold pas_
    by_cases h : l.length = 0
    · rw [if_pos h, List.eq_nil_of_length_eq_zero h]
    · rw [if_neg h]
      refine ((List.merge_perm_append le).append (ih _)).trans ?_
      have e : l = (l.take w ++ (l.drop w).take w) ++ l.drop (2 * w) := by
        rw [List.append_assoc, show l.drop (2 * w) = (l.drop w).drop w by rw [List.drop_drop]; congr 1; omega, List.take_append_drop, List.take_append_drop]
      exact (List.Perm.of_eq e.symm)
theorem pas_len {α : Type} (le : α → α → Bool) (w n : Nat) (l : List α) : (pas_ le w n l).length = l.length := (pas_perm le w n l).length_eq
theorem srt_perm {α : Type} (le : α → α → Bool) (n : Nat) : ∀ (w : Nat) (l : List α), (srt_ le n w l).Perm l := by
  induction n with
  | zero => intro w l; exact List.Perm.refl _
  | succ n ih =>
    intro w l
    unfold srt_
    by_cases h : w < l.length
    · rw [if_pos h]
      exact (ih _ _).trans (pas_perm le w _ l)
    · rw [if_neg h]
theorem ar_perm {α : Type} (le : α → α → Bool) (l : List α) : (ar_ le l).Perm l := srt_perm le _ _ _
theorem ar_len {α : Type} (le : α → α → Bool) (l : List α) : (ar_ le l).length = l.length := (ar_perm le l).length_eq
/-- stretches of w are sorted -/
def cs_ {α : Type} (le : α → α → Bool) (w : Nat) : Nat → List α → Prop
  | 0, l => l = []
  | n + 1, l => l = [] ∨ ((l.take w).Pairwise (fun a b => le a b = true) ∧ cs_ le w n (l.drop w))
theorem cs_nil {α : Type} (le : α → α → Bool) (w n : Nat) : cs_ le w n [] := by
  cases n with
  | zero => rfl
  | succ n => exact Or.inl rfl
theorem cs_up {α : Type} {le : α → α → Bool} {w n : Nat} : ∀ {l : List α} (m : Nat), n ≤ m → cs_ le w n l → cs_ le w m l := by
  induction n with
  | zero =>
    intro l m _ h
    have h : l = [] := h
    subst h
    exact cs_nil _ _ _
  | succ n ih =>
    intro l m hm h
    cases m with
    | zero => omega
    | succ m =>
      rcases h with h | ⟨h1, h2⟩
      · exact Or.inl h
      · exact Or.inr ⟨h1, ih m (by omega) h2⟩
theorem cs_1 {α : Type} (le : α → α → Bool) : ∀ l : List α, cs_ le 1 l.length l := by
  intro l
  induction l with
  | nil => rfl
  | cons x l ih => exact Or.inr ⟨by simp, by simpa using ih⟩
theorem cs_pas {α : Type} {le : α → α → Bool} (ht : ∀ a b c, le a b = true → le b c = true → le a c = true) (htot : ∀ a b, (le a b || le b a) = true) {w : Nat} (hw : 0 < w) (n : Nat) : ∀ l : List α, cs_ le w (2 * n) l → cs_ le (w * 2) n (pas_ le w n l) := by
  induction n with
  | zero => intro l h; exact h
  | succ n ih =>
    intro l h
    unfold pas_
    by_cases h0 : l.length = 0
    · rw [if_pos h0]
      exact Or.inl rfl
    · rw [if_neg h0]
      have hne : l ≠ [] := fun z => h0 (by rw [z]; rfl)
      rw [show 2 * (n + 1) = 2 * n + 1 + 1 by omega] at h
      rcases h with h | ⟨h1, h2⟩
      · exact absurd h hne
      have h3 : ((l.drop w).take w).Pairwise (fun a b => le a b = true) ∧ cs_ le w (2 * n) (l.drop (2 * w)) := by
        rcases h2 with h2 | ⟨h2, h3⟩
        · refine ⟨by rw [h2]; simp, ?_⟩
          rw [show l.drop (2 * w) = (l.drop w).drop w by rw [List.drop_drop]; congr 1; omega, h2]
          simp only [List.drop_nil]
          exact cs_nil _ _ _
        · refine ⟨h2, ?_⟩
          rw [show l.drop (2 * w) = (l.drop w).drop w by rw [List.drop_drop]; congr 1; omega]
          exact h3
      have hB := List.pairwise_merge (le := le) ht htot _ _ h1 h3.1
      have hlen : ((l.take w).merge ((l.drop w).take w) le).length = min (2 * w) l.length := by
        rw [(List.merge_perm_append le).length_eq]
        simp only [List.length_append, List.length_take, List.length_drop]
        omega
      have hrest := ih (l.drop (2 * w)) h3.2
      generalize (l.take w).merge ((l.drop w).take w) le = B at hB hlen ⊢
      right
      by_cases hl : 2 * w ≤ l.length
      · have hBl : B.length = w * 2 := by rw [hlen]; omega
        rw [List.take_append_of_le_length (by omega), List.take_of_length_le (by omega), List.drop_append_of_le_length (by omega), List.drop_of_length_le (by omega)]
        exact ⟨hB, by simpa using hrest⟩
      · have hR : pas_ le w n (l.drop (2 * w)) = [] := by
          have : (pas_ le w n (l.drop (2 * w))).length = 0 := by rw [pas_len]; simp; omega
          exact List.eq_nil_of_length_eq_zero this
        rw [hR, List.append_nil, List.take_of_length_le (by omega), List.drop_of_length_le (by omega)]
        exact ⟨hB, cs_nil _ _ _⟩
theorem pas_fuel {α : Type} (le : α → α → Bool) {w : Nat} (hw : 0 < w) (k1 : Nat) : ∀ (k2 : Nat) (l : List α), l.length ≤ k1 → l.length ≤ k2 → pas_ le w k1 l = pas_ le w k2 l := by
  induction k1 with
  | zero =>
    intro k2 l h1 _
    have : l = [] := List.eq_nil_of_length_eq_zero (by omega)
    subst this
    cases k2 <;> simp [pas_]
  | succ k1 ih =>
    intro k2 l h1 h2
    by_cases h0 : l.length = 0
    · have : l = [] := List.eq_nil_of_length_eq_zero h0
      subst this
      cases k2 <;> simp [pas_]
    · cases k2 with
      | zero => omega
      | succ k2 =>
        simp only [pas_]
        rw [if_neg h0, if_neg h0, ih k2 (l.drop (2 * w)) (by simp; omega) (by simp; omega)]
theorem srt_sorted {α : Type} {le : α → α → Bool} (ht : ∀ a b c, le a b = true → le b c = true → le a c = true) (htot : ∀ a b, (le a b || le b a) = true) (n : Nat) : ∀ (w m : Nat) (l : List α), 0 < w → cs_ le w m l → l.length ≤ w * 2 ^ n → (srt_ le n w l).Pairwise (fun a b => le a b = true) := by
  have fin : ∀ (w m : Nat) (l : List α), cs_ le w m l → l.length ≤ w → l.Pairwise (fun a b => le a b = true) := by
    intro w m l h hl
    cases m with
    | zero =>
      have h : l = [] := h
      subst h
      exact List.Pairwise.nil
    | succ m =>
      rcases h with h | ⟨h1, -⟩
      · subst h
        exact List.Pairwise.nil
      · rwa [List.take_of_length_le hl] at h1
  induction n with
  | zero => intro w m l _ h hl; exact fin w m l h (by simpa using hl)
  | succ n ih =>
    intro w m l hw h hl
    unfold srt_
    by_cases hlt : w < l.length
    · rw [if_pos hlt]
      have h2 : cs_ le w (2 * (max m l.length)) l := cs_up _ (by omega) h
      have h3 := cs_pas ht htot hw (max m l.length) l h2
      rw [pas_fuel le hw _ l.length l (by omega) (Nat.le_refl _)] at h3
      exact ih (w * 2) _ _ (by omega) h3 (by rw [pas_len]; rw [Nat.pow_succ] at hl; rw [Nat.mul_assoc, Nat.mul_comm 2]; exact hl)
    · rw [if_neg hlt]
      exact fin w m l h (by omega)
theorem ar_sorted {α : Type} {le : α → α → Bool} (ht : ∀ a b c, le a b = true → le b c = true → le a c = true) (htot : ∀ a b, (le a b || le b a) = true) (l : List α) : (ar_ le l).Pairwise (fun a b => le a b = true) :=
  srt_sorted ht htot _ 1 _ l (by decide) (cs_1 le l) (by have := Nat.lt_two_pow_self (n := l.length); omega)
