/-! Zone.countValues, countRuns -/
def Zh_ (M : Mm) (z C : Nat) : Prop := kd_ M z = 11 ∧ kd_ M (rf_ M z 7) = 20 ∧ ln_ M (rf_ M z 7) = 16 ∧ kd_ M C = 3 ∧ kd_ M (rf_ M C 0) = 20 ∧ ln_ M (rf_ M C 0) = 600 ∧ kd_ M (rf_ M C 1) = 21 ∧ ln_ M (rf_ M C 1) = 600 ∧ rf_ M z 7 ≠ rf_ M C 0
theorem ky1_t (l v : Nat → Int32) (r : Nat) : (ky_ 1 l v r).toInt = if l r = 0 then (v r).toInt else -1099511627776 := by
  unfold ky_
  by_cases h : l r = 0
  · rw [if_pos h, if_pos h, Int32.toInt_toInt64]
  · rw [if_neg h, if_neg h, if_neg (by decide)]
    rfl
theorem ky0_t (l v : Nat → Int32) (r : Nat) : (ky_ 0 l v r).toInt = if l r = 0 then (v r).toInt else 1099511627776 := by
  unfold ky_
  by_cases h : l r = 0
  · rw [if_pos h, if_pos h, Int32.toInt_toInt64]
  · rw [if_neg h, if_neg h, if_pos rfl]
    rfl
/-- what the counting of values has found among the first i of the sorted rows s -/
def cv_ (l v : Nat → Int32) (s : Nat → Nat) (i nc dc : Nat) : Prop := nc + dc ≤ i ∧ (∀ j, j < i → (l (s j) = 0 ↔ nc ≤ j)) ∧ ∃ D : List Int, D.length = dc ∧ D.Nodup ∧ ∀ d ∈ D, (∃ j, j < i ∧ l (s j) = 0 ∧ (v (s j)).toInt = d) ∧ (0 < i → l (s (i - 1)) = 0 → d ≤ (v (s (i - 1))).toInt)
theorem cv_0 (l v : Nat → Int32) (s : Nat → Nat) : cv_ l v s 0 0 0 := ⟨Nat.le_refl _, fun j h => by omega, [], rfl, List.nodup_nil, fun d h => by cases h⟩
theorem cv_null {l v : Nat → Int32} {s : Nat → Nat} {i nc dc k : Nat} (hs : ∀ a b, a < b → b < k → (ky_ 1 l v (s a)).toInt ≤ (ky_ 1 l v (s b)).toInt) (hi : i < k) (h : cv_ l v s i nc dc) (hn : ¬ l (s i) = 0) : cv_ l v s (i + 1) (nc + 1) dc := by
  obtain ⟨h1, h2, D, h3, h4, h5⟩ := h
  have hnc : nc = i := by
    by_cases e : nc < i
    · have h6 := (h2 nc e).mpr (Nat.le_refl _)
      have h7 := hs nc i e hi
      rw [ky1_t, ky1_t, if_pos h6, if_neg hn] at h7
      have := i_rng (v (s nc))
      omega
    · omega
  subst hnc
  refine ⟨by omega, fun j hj => ?_, D, h3, h4, fun d hd => ⟨?_, fun _ z => ?_⟩⟩
  · by_cases e : j = nc
    · subst e
      exact ⟨fun z => absurd z hn, fun z => by omega⟩
    · have := h2 j (by omega)
      constructor
      · intro z
        have := this.mp z
        omega
      · intro z
        omega
  · obtain ⟨j, g1, g2⟩ := (h5 d hd).1
    exact ⟨j, by omega, g2⟩
  · rw [show nc + 1 - 1 = nc by omega] at z
    exact absurd z hn
theorem cv_same {l v : Nat → Int32} {s : Nat → Nat} {i nc dc : Nat} (hi : 0 < i) (h : cv_ l v s i nc dc) (hn : l (s i) = 0) (hl : l (s (i - 1)) = l (s i)) (hv : v (s (i - 1)) = v (s i)) : cv_ l v s (i + 1) nc dc := by
  obtain ⟨h1, h2, D, h3, h4, h5⟩ := h
  have hp := (h2 (i - 1) (by omega)).mp (by rw [hl]; exact hn)
  refine ⟨by omega, fun j hj => ?_, D, h3, h4, fun d hd => ⟨?_, fun _ _ => ?_⟩⟩
  · by_cases e : j = i
    · subst e
      exact ⟨fun _ => by omega, fun _ => hn⟩
    · exact h2 j (by omega)
  · obtain ⟨j, g1, g2⟩ := (h5 d hd).1
    exact ⟨j, by omega, g2⟩
  · rw [show i + 1 - 1 = i by omega, ← hv]
    exact (h5 d hd).2 hi (by rw [hl]; exact hn)
theorem cv_new {l v : Nat → Int32} {s : Nat → Nat} {i nc dc k : Nat} (hs : ∀ a b, a < b → b < k → (ky_ 1 l v (s a)).toInt ≤ (ky_ 1 l v (s b)).toInt) (hi : i < k) (h : cv_ l v s i nc dc) (hn : l (s i) = 0) (hd : i = 0 ∨ ¬ (l (s (i - 1)) = l (s i) ∧ v (s (i - 1)) = v (s i))) : cv_ l v s (i + 1) nc (dc + 1) := by
  obtain ⟨h1, h2, D, h3, h4, h5⟩ := h
  have hlt : ∀ d ∈ D, d < (v (s i)).toInt := by
    intro d hd2
    have hi0 : 0 < i := by
      obtain ⟨j, g1, -⟩ := (h5 d hd2).1
      omega
    rcases hd with hd | hd
    · omega
    by_cases hp : l (s (i - 1)) = 0
    · have g1 := (h5 d hd2).2 hi0 hp
      have g2 := hs (i - 1) i (by omega) hi
      rw [ky1_t, ky1_t, if_pos hp, if_pos hn] at g2
      have g3 : (v (s (i - 1))).toInt ≠ (v (s i)).toInt := fun z => hd ⟨by rw [hp, hn], i_eq.mpr z⟩
      omega
    · have g1 : ¬ nc ≤ i - 1 := fun z => hp ((h2 (i - 1) (by omega)).mpr z)
      have : D = [] := List.eq_nil_of_length_eq_zero (by omega)
      rw [this] at hd2
      cases hd2
  have hnci : nc ≤ i := by omega
  refine ⟨?_, fun j hj => ?_, (v (s i)).toInt :: D, by simp [h3], ?_, fun d hd2 => ?_⟩
  · by_cases e : nc = i
    · have : dc = 0 := by omega
      omega
    · omega
  · by_cases e : j = i
    · subst e
      exact ⟨fun _ => hnci, fun _ => hn⟩
    · exact h2 j (by omega)
  · exact List.nodup_cons.mpr ⟨fun z => by have := hlt _ z; omega, h4⟩
  · rw [show i + 1 - 1 = i by omega]
    rcases List.mem_cons.mp hd2 with e | e
    · subst e
      exact ⟨⟨i, by omega, hn, rfl⟩, fun _ _ => Int.le_refl _⟩
    · obtain ⟨j, g1, g2⟩ := (h5 d e).1
      exact ⟨⟨j, by omega, g2⟩, fun _ _ => by have := hlt d e; omega⟩
theorem lp_values_ok {z C S k : Nat} {M : Mm} {K E : Mm → Prop} (h : Zh_ M z C) (hS : kd_ M S = 20) (hSl : k ≤ ln_ M S) (hSb : ln_ M S < 1000000) (hk : it_ M z 0 = nI k) (hkb : k ≤ 64) (hS7 : S ≠ rf_ M z 7) (hrow : ∀ j, j < k → ∃ r, it_ M S j = nI r ∧ r < 600)
    (hsort : ∀ a b, a < b → b < k → (ky_ 1 (it_ M (rf_ M C 1)) (it_ M (rf_ M C 0)) (ix_ (it_ M S a))).toInt ≤ (ky_ 1 (it_ M (rf_ M C 1)) (it_ M (rf_ M C 0)) (ix_ (it_ M S b))).toInt)
    (hE : ∀ M' nc dc, Ex_ (fun b => b = z ∨ b = rf_ M z 7) M M' → (∀ j, j ≠ 1 → j ≠ 2 → it_ M' z j = it_ M z j) → (∀ j, lg_ M' z j = lg_ M z j) → it_ M' z 1 = nI nc → it_ M' z 2 = nI dc → cv_ (it_ M (rf_ M C 1)) (it_ M (rf_ M C 0)) (fun j => ix_ (it_ M S j)) k nc dc → E M') :
    ∀ (n i nc dc : Nat) (M2 : Mm), i ≤ k → k - i < n → Ex_ (fun b => b = z ∨ b = rf_ M z 7) M M2 → (∀ j, j ≠ 1 → j ≠ 2 → it_ M2 z j = it_ M z j) → (∀ j, lg_ M2 z j = lg_ M z j) → it_ M2 z 1 = nI nc → it_ M2 z 2 = nI dc → cv_ (it_ M (rf_ M C 1)) (it_ M (rf_ M C 0)) (fun j => ix_ (it_ M S j)) i nc dc →
      lp_X9_countValues_12 z C S K E n (nI i) M2 := by
  obtain ⟨z1, z2, z3, c1, c2, c3, c4, c5, c6⟩ := id h
  have hzS : S ≠ z := fun e => by rw [e] at hS; omega
  have hz7 : rf_ M z 7 ≠ z := fun e => by rw [e] at z2; omega
  have hcz : rf_ M C 0 ≠ z := fun e => by rw [e] at c2; omega
  have hlz : rf_ M C 1 ≠ z := fun e => by rw [e] at c4; omega
  have hl7 : rf_ M C 1 ≠ rf_ M z 7 := fun e => by rw [e] at c4; omega
  intro n
  induction n with
  | zero => intro i nc dc M2 _ h; omega
  | succ n ih =>
    intro i nc dc M2 hik hn hX hf hg hnc hdc hcv
    have er : ∀ a k, rf_ M2 a k = rf_ M a k := fun a k => hX.rf a k
    have eS : ∀ k, it_ M2 S k = it_ M S k := fun k => hX.it (fun e => e.elim hzS hS7) k
    have ev : ∀ k, it_ M2 (rf_ M C 0) k = it_ M (rf_ M C 0) k := fun k => hX.it (fun e => e.elim hcz c6.symm) k
    have el : ∀ k, it_ M2 (rf_ M C 1) k = it_ M (rf_ M C 1) k := fun k => hX.it (fun e => e.elim hlz hl7) k
    have hdi : nc + dc ≤ i := hcv.1
    unfold lp_X9_countValues_12
    simp only [er, hX.ln, hX.kd]
    rw [hf 0 (by decide) (by decide), hk, le_nI (by omega) (by omega)]
    refine ⟨fun hc => ?_, fun hc => ?_⟩
    · have : i = k := by omega
      subst this
      exact hE M2 nc dc hX hf hg hnc hdc hcv
    obtain ⟨r, hr, hr6⟩ := hrow i (by omega)
    have hv6 : vp_in (nI r) 600 := vi_ hr6 (by omega)
    have hvS : vp_in (nI i) (ln_ M S) := vi_ (by omega) (by omega)
    have hsi : ix_ (it_ M S i) = r := by rw [hr, ix_nI (by omega)]
    rw [ix_nI (n := i) (by omega), eS, hr, ix_nI (n := r) (by omega), c3, c5, el, nI_p1]
    -- a value that is new
    have inc : it_ M (rf_ M C 1) r = 0 → (i = 0 ∨ ¬ (it_ M (rf_ M C 1) (ix_ (it_ M S (i - 1))) = it_ M (rf_ M C 1) (ix_ (it_ M S i)) ∧ it_ M (rf_ M C 0) (ix_ (it_ M S (i - 1))) = it_ M (rf_ M C 0) (ix_ (it_ M S i)))) →
        (((16 : Int32) ≤ (it_ M2 z 2) → (∀ M11, M11 = sI_ M2 z 2 ((it_ M2 z 2) + (1 : Int32)) → lp_X9_countValues_12 z C S K E n (nI (i + 1)) M11)) ∧ (¬ (16 : Int32) ≤ (it_ M2 z 2) → (kd_ M (rf_ M z 7) = 20 ∧ (kd_ M (rf_ M C 0) = 20 ∧ (vp_in (nI i) (ln_ M S) ∧ (vp_in (nI r) 600 ∧ (vp_in (it_ M2 z 2) (ln_ M (rf_ M z 7)) ∧ (∀ M17, M17 = sI_ M2 (rf_ M z 7) (ix_ (it_ M2 z 2)) (it_ M2 (rf_ M C 0) r) → (∀ M18, M18 = sI_ M17 z 2 ((it_ M17 z 2) + (1 : Int32)) → lp_X9_countValues_12 z C S K E n (nI (i + 1)) M18))))))))) := by
      intro hl0 hnew
      have hcv2 := cv_new (k := k) (s := fun j => ix_ (it_ M S j)) hsort (by omega) hcv (by show it_ M (rf_ M C 1) (ix_ (it_ M S i)) = 0; rw [hsi]; exact hl0) hnew
      refine ⟨fun _ M11 e11 => ?_, fun h16 => ⟨z2, c2, hvS, hv6, ?_, fun M17 e17 M18 e18 => ?_⟩⟩
      · subst e11
        rw [hdc, nI_p1]
        exact ih (i + 1) nc (dc + 1) _ (by omega) (by omega) (hX.tr (Ex_.sI _ _ _ (Or.inl rfl))) (fun j j1 j2 => by rw [it_sIk j2]; exact hf j j1 j2) hg (by rw [it_sIk (by decide)]; exact hnc) (it_sIs _ _ _ _) hcv2
      · rw [hdc] at h16 ⊢
        have : ¬ 16 ≤ dc := fun e => h16 ((le_nI (a := 16) (by omega) (by omega)).mpr e)
        rw [z3]
        exact vi_ (by omega) (by omega)
      · subst e17
        subst e18
        rw [it_sIa hz7.symm, hdc, nI_p1]
        exact ih (i + 1) nc (dc + 1) _ (by omega) (by omega) ((hX.tr (Ex_.sI _ _ _ (Or.inr rfl))).tr (Ex_.sI _ _ _ (Or.inl rfl))) (fun j j1 j2 => by rw [it_sIk j2, it_sIa hz7.symm]; exact hf j j1 j2) hg (by rw [it_sIk (by decide), it_sIa hz7.symm]; exact hnc) (it_sIs _ _ _ _) hcv2
    refine ⟨c4, hvS, hv6, fun _ => ⟨fun hl0 => ⟨fun hi0 => ?_, fun hi0 => ?_⟩, fun hl0 M40 e40 => ?_⟩⟩
    · exact inc hl0 (Or.inl (by
        have : nI i = nI 0 := hi0
        exact nI_inj (by omega) (by omega) this))
    · have hi : 0 < i := Nat.pos_of_ne_zero fun e => hi0 (by rw [e]; rfl)
      obtain ⟨q, hq, hq6⟩ := hrow (i - 1) (by omega)
      rw [nI_s1 hi, ix_nI (n := i - 1) (by omega), eS, hq]
      refine ⟨vi_ (by omega) (by omega), hvS, ?_⟩
      have sm := sp_isSame (a0 := C) (r := q) (q := r) (M := M2) (K := fun M21 r22 => Nk_ M2 M21 → bz_ r22 → ((r22 = 0 → (((16 : Int32) ≤ (it_ M21 z 2) → (∀ M32, M32 = sI_ M21 z 2 ((it_ M21 z 2) + (1 : Int32)) → lp_X9_countValues_12 z C S K E n (nI (i + 1)) M32)) ∧ (¬ (16 : Int32) ≤ (it_ M21 z 2) → (kd_ M21 (rf_ M21 z 7) = 20 ∧ (kd_ M21 (rf_ M21 C 0) = 20 ∧ (vp_in (nI i) (ln_ M21 S) ∧ (vp_in (it_ M21 S i) (ln_ M21 (rf_ M21 C 0)) ∧ (vp_in (it_ M21 z 2) (ln_ M21 (rf_ M21 z 7)) ∧ (∀ M38, M38 = sI_ M21 (rf_ M21 z 7) (ix_ (it_ M21 z 2)) (it_ M21 (rf_ M21 C 0) (ix_ (it_ M21 S i))) → (∀ M39, M39 = sI_ M38 z 2 ((it_ M38 z 2) + (1 : Int32)) → lp_X9_countValues_12 z C S K E n (nI (i + 1)) M39)))))))))) ∧ (¬ r22 = 0 → lp_X9_countValues_12 z C S K E n (nI (i + 1)) M21)))
      simp only [er, hX.ln, hX.kd] at sm
      refine sm c1 c2 c4 c3 c5 hq6 hr6 (fun x hx _ _ => ⟨fun hx0 => ?_, fun hx0 => ?_⟩)
      · rcases hx with ⟨e, -⟩ | ⟨-, hx⟩
        · rw [e] at hx0
          exact absurd hx0 (by decide)
        · rw [eS, hr, ix_nI (n := r) (by omega), c3]
          refine inc hl0 (Or.inr fun e => hx ?_)
          rw [hq, hr, ix_nI (by omega), ix_nI (by omega)] at e
          rw [el, el, ev, ev]
          exact e
      · rcases hx with ⟨-, e1, e2⟩ | ⟨e, -⟩
        · rw [el, el] at e1
          rw [ev, ev] at e2
          exact ih (i + 1) nc dc _ (by omega) (by omega) hX hf hg hnc hdc (cv_same (s := fun j => ix_ (it_ M S j)) hi hcv (by show it_ M (rf_ M C 1) (ix_ (it_ M S i)) = 0; rw [hsi]; exact hl0) (by show it_ M (rf_ M C 1) (ix_ (it_ M S (i - 1))) = it_ M (rf_ M C 1) (ix_ (it_ M S i)); rw [hq, hsi, ix_nI (by omega)]; exact e1) (by show it_ M (rf_ M C 0) (ix_ (it_ M S (i - 1))) = it_ M (rf_ M C 0) (ix_ (it_ M S i)); rw [hq, hsi, ix_nI (by omega)]; exact e2))
        · exact absurd e hx0
    · subst e40
      rw [hnc, nI_p1]
      exact ih (i + 1) (nc + 1) dc _ (by omega) (by omega) (hX.tr (Ex_.sI _ _ _ (Or.inl rfl))) (fun j j1 j2 => by rw [it_sIk j1]; exact hf j j1 j2) hg (it_sIs _ _ _ _) (by rw [it_sIk (by decide)]; exact hdc) (cv_null (k := k) (s := fun j => ix_ (it_ M S j)) hsort (by omega) hcv (by show ¬ it_ M (rf_ M C 1) (ix_ (it_ M S i)) = 0; rw [hsi]; exact hl0))
theorem sp_countValues {z C S k : Nat} {M : Mm} {K : Mm → Prop} (h : Zh_ M z C) (hS : kd_ M S = 20) (hSl : k ≤ ln_ M S) (hSb : ln_ M S < 1000000) (hk : it_ M z 0 = nI k) (hkb : k ≤ 64) (hS7 : S ≠ rf_ M z 7) (hrow : ∀ j, j < k → ∃ r, it_ M S j = nI r ∧ r < 600)
    (hsort : ∀ a b, a < b → b < k → (ky_ 1 (it_ M (rf_ M C 1)) (it_ M (rf_ M C 0)) (ix_ (it_ M S a))).toInt ≤ (ky_ 1 (it_ M (rf_ M C 1)) (it_ M (rf_ M C 0)) (ix_ (it_ M S b))).toInt)
    (hK : ∀ M' nc dc, Ex_ (fun b => b = z ∨ b = rf_ M z 7) M M' → (∀ j, j ≠ 1 → j ≠ 2 → it_ M' z j = it_ M z j) → (∀ j, lg_ M' z j = lg_ M z j) → it_ M' z 1 = nI nc → it_ M' z 2 = nI dc → cv_ (it_ M (rf_ M C 1)) (it_ M (rf_ M C 0)) (fun j => ix_ (it_ M S j)) k nc dc → K M') : wp_X9_countValues z C S M K := by
  obtain ⟨z1, z2, z3, c1, c2, c3, c4, c5, c6⟩ := id h
  refine ⟨z1, c1, hS, fun M1 e1 M2 e2 => ⟨k + 1, ?_⟩⟩
  subst e1
  subst e2
  exact lp_values_ok (E := fun M41 => Nk_ (sI_ (sI_ M z 1 0) z 2 0) M41 → K M41) h hS hSl hSb hk hkb hS7 hrow hsort (fun M' nc dc x1 x2 x3 x4 x5 x6 _ => hK M' nc dc x1 x2 x3 x4 x5 x6) (k + 1) 0 0 0 _ (by omega) (by omega) ((Ex_.sI _ _ _ (Or.inl rfl)).tr (Ex_.sI _ _ _ (Or.inl rfl))) (fun j j1 j2 => by rw [it_sIk j2, it_sIk j1]) (fun _ => rfl) (by rw [it_sIk (by decide), it_sIs]; rfl) (it_sIs _ _ _ _) (cv_0 _ _ _)
