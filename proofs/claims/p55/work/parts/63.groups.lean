/-! the result: groups, as plain functions -/
/-- the sum of a row's values -/
def su_ (v : Nat → Int32) : List Int32 → Int32
  | [] => 0
  | x :: L => v (ix_ x) + su_ v L
theorem su_app (v : Nat → Int32) (A B : List Int32) : su_ v (A ++ B) = su_ v A + su_ v B := by
  induction A with
  | nil => exact (Int32.zero_add _).symm
  | cons x A ih =>
    show v (ix_ x) + su_ v (A ++ B) = v (ix_ x) + su_ v A + su_ v B
    rw [ih, Int32.add_assoc]
theorem su_perm {v : Nat → Int32} {A B : List Int32} (h : A.Perm B) : su_ v A = su_ v B := by
  induction h with
  | nil => rfl
  | cons x _ ih => show v (ix_ x) + _ = v (ix_ x) + _; rw [ih]
  | swap x y l =>
    show v (ix_ y) + (v (ix_ x) + su_ v l) = v (ix_ x) + (v (ix_ y) + su_ v l)
    rw [← Int32.add_assoc, ← Int32.add_assoc, Int32.add_comm (v (ix_ y))]
  | trans _ _ ih1 ih2 => exact ih1.trans ih2
theorem su_one (v : Nat → Int32) (x : Int32) : su_ v [x] = v (ix_ x) := Int32.add_zero _
/-- the groups' rows; whether two rows are the same; where groups begin -/
def gl_ (l v : Nat → Int32) (L : List Int32) : List Int32 := ar_ (lk_ (ky_ 0 l v)) L
def gj_ (l v : Nat → Int32) (L : List Int32) (j : Nat) : Int32 := ((gl_ l v L)[j]?).getD 0
def sm_ (l v : Nat → Int32) (x y : Int32) : Bool := decide (l (ix_ x) = l (ix_ y)) && decide (v (ix_ x) = v (ix_ y))
def nb_ (l v : Nat → Int32) (L : List Int32) (i : Nat) : Bool := decide (i = 0) || !(sm_ l v (gj_ l v L (i - 1)) (gj_ l v L i))
def bs_ (l v : Nat → Int32) (L : List Int32) : Nat → List Nat
  | 0 => []
  | i + 1 => if nb_ l v L i = true then bs_ l v L i ++ [i] else bs_ l v L i
def st_ (l v : Nat → Int32) (L : List Int32) (n g : Nat) : Nat := ((bs_ l v L n)[g]?).getD n
section GR
variable {l v : Nat → Int32} {L : List Int32} {n i j g : Nat}
theorem gl_len : (gl_ l v L).length = L.length := ar_len _ _
theorem gl_perm : (gl_ l v L).Perm L := ar_perm _ _
theorem gj_get (h : j < L.length) : (gl_ l v L)[j]? = some (gj_ l v L j) := by
  unfold gj_
  rw [List.getElem?_eq_getElem (by rw [gl_len]; exact h)]
  rfl
theorem gj_mem (h : j < L.length) : gj_ l v L j ∈ L := by
  have := List.mem_of_getElem? (gj_get (l := l) (v := v) h)
  exact gl_perm.mem_iff.mp this
theorem gl_sg : sg_ (gj_ l v L) 0 L.length = gl_ l v L := by
  apply List.ext_getElem?
  intro j
  by_cases h : j < L.length
  · rw [sg_get _ h, gj_get h, Nat.zero_add]
  · rw [List.getElem?_eq_none (by rw [sg_len]; omega), List.getElem?_eq_none (by rw [gl_len]; omega)]
theorem gj_sort {a b : Nat} (hab : a < b) (hb : b < L.length) : (ky_ 0 l v (ix_ (gj_ l v L a))).toInt ≤ (ky_ 0 l v (ix_ (gj_ l v L b))).toInt := by
  have hp := ar_sorted (lk_tr (ky_ 0 l v)) (lk_tot (ky_ 0 l v)) L
  have g := List.pairwise_iff_getElem.mp hp a b (by rw [ar_len]; omega) (by rw [ar_len]; omega) hab
  have ga := gj_get (l := l) (v := v) (L := L) (j := a) (by omega)
  have gb := gj_get (l := l) (v := v) (L := L) (j := b) hb
  unfold gl_ at ga gb
  rw [List.getElem?_eq_getElem (by rw [ar_len]; omega)] at ga gb
  rw [Option.some.inj ga, Option.some.inj gb] at g
  simpa [lk_] using g
theorem bs_mem {x : Nat} : x ∈ bs_ l v L i ↔ x < i ∧ nb_ l v L x = true := by
  induction i with
  | zero => exact ⟨fun h => (by cases h), fun h => by omega⟩
  | succ i ih =>
    unfold bs_
    by_cases h : nb_ l v L i = true
    · rw [if_pos h, List.mem_append, ih]
      constructor
      · rintro (⟨h1, h2⟩ | h1)
        · exact ⟨by omega, h2⟩
        · have : x = i := by simpa using h1
          rw [this]
          exact ⟨by omega, h⟩
      · rintro ⟨h1, h2⟩
        by_cases e : x = i
        · exact Or.inr (by rw [e]; exact List.mem_singleton.mpr rfl)
        · exact Or.inl ⟨by omega, h2⟩
    · rw [if_neg h, ih]
      constructor
      · rintro ⟨h1, h2⟩
        exact ⟨by omega, h2⟩
      · rintro ⟨h1, h2⟩
        refine ⟨?_, h2⟩
        by_cases e : x = i
        · rw [e] at h2
          exact absurd h2 h
        · omega
theorem bs_len : (bs_ l v L i).length ≤ i := by
  induction i with
  | zero => exact Nat.le_refl _
  | succ i ih =>
    unfold bs_
    split
    · rw [List.length_append]
      simp
      exact ih
    · omega
theorem bs_pw : (bs_ l v L i).Pairwise (fun a b => a < b) := by
  induction i with
  | zero => exact List.Pairwise.nil
  | succ i ih =>
    unfold bs_
    split
    · rw [List.pairwise_append]
      refine ⟨ih, List.pairwise_singleton _ _, fun a ha b hb => ?_⟩
      have : b = i := by simpa using hb
      rw [this]
      exact (bs_mem.mp ha).1
    · exact ih
theorem bs_0 : ∃ t, bs_ l v L (i + 1) = 0 :: t := by
  induction i with
  | zero =>
    refine ⟨[], ?_⟩
    unfold bs_
    rw [if_pos (by unfold nb_; simp)]
    rfl
  | succ i ih =>
    obtain ⟨t, e⟩ := ih
    show ∃ t, (if nb_ l v L (i + 1) = true then bs_ l v L (i + 1) ++ [i + 1] else bs_ l v L (i + 1)) = 0 :: t
    split
    · rw [e]; exact ⟨t ++ [i + 1], rfl⟩
    · exact ⟨t, e⟩
theorem st_at (h : g < (bs_ l v L n).length) : st_ l v L n g = (bs_ l v L n)[g] := by
  unfold st_
  rw [List.getElem?_eq_getElem h]
  rfl
theorem st_end (h : (bs_ l v L n).length ≤ g) : st_ l v L n g = n := by
  unfold st_
  rw [List.getElem?_eq_none h]
  rfl
theorem st_in (h : g < (bs_ l v L n).length) : st_ l v L n g < n ∧ nb_ l v L (st_ l v L n g) = true := by
  rw [st_at h]
  exact bs_mem.mp (List.getElem_mem h)
theorem st_le : st_ l v L n g ≤ n := by
  by_cases h : g < (bs_ l v L n).length
  · exact Nat.le_of_lt (st_in h).1
  · rw [st_end (by omega)]
    exact Nat.le_refl _
theorem st_lt {a b : Nat} (hab : a < b) (ha : a < (bs_ l v L n).length) : st_ l v L n a < st_ l v L n b := by
  by_cases h : b < (bs_ l v L n).length
  · rw [st_at ha, st_at h]
    exact List.pairwise_iff_getElem.mp bs_pw a b ha h hab
  · rw [st_end (g := b) (by omega)]
    exact (st_in ha).1
theorem st_0 (h : 0 < n) : st_ l v L n 0 = 0 := by
  obtain ⟨k, rfl⟩ : ∃ k, n = k + 1 := ⟨n - 1, by omega⟩
  obtain ⟨t, e⟩ := bs_0 (l := l) (v := v) (L := L) (i := k)
  unfold st_
  rw [e]
  rfl
theorem st_btw (h1 : st_ l v L n g < j) (h2 : j < st_ l v L n (g + 1)) (hg : g < (bs_ l v L n).length) : nb_ l v L j = false := by
  cases h : nb_ l v L j
  · rfl
  · have hjn : j < n := by
      have := st_le (l := l) (v := v) (L := L) (n := n) (g := g + 1)
      omega
    have hm : j ∈ bs_ l v L n := bs_mem.mpr ⟨hjn, h⟩
    obtain ⟨k, hk, ek⟩ := List.mem_iff_getElem.mp hm
    rw [← st_at hk] at ek
    by_cases e1 : k ≤ g
    · by_cases e2 : k = g
      · rw [e2] at ek; omega
      · have := st_lt (l := l) (v := v) (L := L) (n := n) (show k < g by omega) hk
        omega
    · by_cases e2 : k = g + 1
      · rw [e2] at ek; omega
      · have := st_lt (l := l) (v := v) (L := L) (n := n) (show g + 1 < k by omega) (by omega)
        omega
/-- lacks are booleans, as they were read -/
def BZ_ (l v : Nat → Int32) (L : List Int32) (n : Nat) : Prop := ∀ i, 1 ≤ i → i < n → bz_ (l (ix_ (gj_ l v L (i - 1)))) ∧ bz_ (l (ix_ (gj_ l v L i)))
/-- the values of groups rise, NULL aside, which is the last -/
theorem st_rise (hb : BZ_ l v L L.length) (hv : ∀ x, x ∈ L → l (ix_ x) ≠ 0 → v (ix_ x) = 0) (hg : 0 < g) (hg2 : g + 1 < (bs_ l v L L.length).length) : (v (ix_ (gj_ l v L (st_ l v L L.length (g - 1))))).toInt < (v (ix_ (gj_ l v L (st_ l v L L.length g)))).toInt := by
  have c1 := st_in (l := l) (v := v) (L := L) (n := L.length) (g := g + 1) hg2
  have c2 := st_in (l := l) (v := v) (L := L) (n := L.length) (g := g) (by omega)
  have lt1 := st_lt (l := l) (v := v) (L := L) (n := L.length) (show g < g + 1 by omega) (by omega)
  have lt0 := st_lt (l := l) (v := v) (L := L) (n := L.length) (show g - 1 < g by omega) (by omega)
  have btw := fun j h1 h2 => st_btw (l := l) (v := v) (L := L) (n := L.length) (g := g - 1) (j := j) h1 h2 (by omega)
  rw [show g - 1 + 1 = g by omega] at btw
  generalize st_ l v L L.length (g - 1) = a at *
  generalize st_ l v L L.length g = b at *
  generalize st_ l v L L.length (g + 1) = c at *
  have ky := fun j => ky0_t l v (ix_ (gj_ l v L j))
  have rg := fun j => i_rng (v (ix_ (gj_ l v L j)))
  -- b isn't NULL
  have hbn : l (ix_ (gj_ l v L b)) = 0 := by
    by_cases e : l (ix_ (gj_ l v L b)) = 0
    · exact e
    · exfalso
      have nul : ∀ j, b ≤ j → j < L.length → l (ix_ (gj_ l v L j)) ≠ 0 := fun j h1 h2 h3 => by
        by_cases e2 : j = b
        · rw [e2] at h3; exact e h3
        · have := gj_sort (l := l) (v := v) (L := L) (show b < j by omega) h2
          rw [ky, ky, if_neg e, if_pos h3] at this
          have := rg j
          omega
      have n1 := nul (c - 1) (by omega) (by omega)
      have n2 := nul c (by omega) (by omega)
      obtain ⟨z1, z2⟩ := hb c (by omega) (by omega)
      have y1 : l (ix_ (gj_ l v L (c - 1))) = 1 := z1.resolve_left n1
      have y2 : l (ix_ (gj_ l v L c)) = 1 := z2.resolve_left n2
      have w1 := hv _ (gj_mem (l := l) (v := v) (L := L) (j := c - 1) (by omega)) n1
      have w2 := hv _ (gj_mem (l := l) (v := v) (L := L) (j := c) (by omega)) n2
      have := c1.2
      unfold nb_ sm_ at this
      rw [y1, y2, w1, w2] at this
      simp at this
      omega
  have han : l (ix_ (gj_ l v L a)) = 0 := by
    by_cases e : l (ix_ (gj_ l v L a)) = 0
    · exact e
    · exfalso
      have := gj_sort (l := l) (v := v) (L := L) lt0 (by omega)
      rw [ky, ky, if_neg e, if_pos hbn] at this
      have := rg b
      omega
  have hle := gj_sort (l := l) (v := v) (L := L) lt0 (by omega)
  rw [ky, ky, if_pos han, if_pos hbn] at hle
  have hne : (v (ix_ (gj_ l v L a))).toInt ≠ (v (ix_ (gj_ l v L b))).toInt := fun e => by
    -- the row ahead of b is the same
    have hp : l (ix_ (gj_ l v L (b - 1))) = 0 ∧ (v (ix_ (gj_ l v L (b - 1)))).toInt = (v (ix_ (gj_ l v L b))).toInt := by
      by_cases e2 : b - 1 = a
      · rw [e2]; exact ⟨han, e⟩
      · have s1 := gj_sort (l := l) (v := v) (L := L) (show a < b - 1 by omega) (by omega)
        have s2 := gj_sort (l := l) (v := v) (L := L) (show b - 1 < b by omega) (by omega)
        rw [ky, ky, if_pos han] at s1
        rw [ky, ky, if_pos hbn] at s2
        by_cases e3 : l (ix_ (gj_ l v L (b - 1))) = 0
        · rw [if_pos e3] at s1 s2
          exact ⟨e3, by omega⟩
        · rw [if_neg e3] at s2
          have := rg b
          omega
    have := c2.2
    unfold nb_ sm_ at this
    rw [hp.1, hbn, i_eq.mpr hp.2] at this
    simp at this
    omega
  omega
/-- the least (f is 1), the greatest of a stretch -/
def cm_ (f w u : Int32) : Prop := if f = 0 then u.toInt ≤ w.toInt else w.toInt ≤ u.toInt
def EN_ (l v g : Nat → Int32) (f : Int32) (s e : Nat) (w : Int32) : Prop := (∀ j, s ≤ j → j < e → l (ix_ (g j)) = 0 → cm_ f w (v (ix_ (g j)))) ∧ ((∃ j, s ≤ j ∧ j < e ∧ l (ix_ (g j)) = 0 ∧ v (ix_ (g j)) = w) ∨ ((∀ j, s ≤ j → j < e → l (ix_ (g j)) ≠ 0) ∧ w = 0))
theorem EN_.le {g : Nat → Int32} {s e : Nat} {w w' : Int32} (h : EN_ l v g 1 s e w) (h' : EN_ l v g 0 s e w') : w.toInt ≤ w'.toInt := by
  obtain ⟨h1, h2⟩ := h
  obtain ⟨h1', h2'⟩ := h'
  rcases h2 with ⟨j, a1, a2, a3, a4⟩ | ⟨a1, a2⟩
  · have := h1' j a1 a2 a3
    unfold cm_ at this
    rw [if_pos rfl, a4] at this
    exact this
  · rcases h2' with ⟨j, b1, b2, b3, -⟩ | ⟨-, b2⟩
    · exact absurd b3 (a1 j b1 b2)
    · rw [a2, b2]
      exact Int.le_refl _
end GR
