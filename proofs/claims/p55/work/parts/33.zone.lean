/-! Zone: bits and bytes as plain functions -/
def bl_ (y : Int64) : Nat → Nat → Nat
  | 0, n => n
  | f + 1, n => if n < 62 ∧ ¬ (y >>> ((nI n).toInt64 &&& 63)) ≤ (0 : Int64) then bl_ y f (n + 1) else n
def bN_ (y : Int64) : Nat := bl_ y 63 0
theorem bl_le (y : Int64) (f : Nat) : ∀ n, n ≤ 62 → bl_ y f n ≤ 62 := by
  induction f with
  | zero => intro n h; exact h
  | succ f ih =>
    intro n h
    unfold bl_
    by_cases hc : n < 62 ∧ ¬ (y >>> ((nI n).toInt64 &&& 63)) ≤ (0 : Int64)
    · rw [if_pos hc]
      exact ih _ (by omega)
    · rw [if_neg hc]
      exact h
theorem sp_bits {y : Int64} {M : Mm} {K : Mm → Int32 → Prop} (hK : K M (nI (bN_ y))) : wp_X9_bits y M K := by
  refine ⟨64, ?_⟩
  have key : ∀ (f n : Nat) (E : Int32 → Mm → Prop), n ≤ 62 → 62 - n < f + 1 → E (nI (bl_ y f n)) M → lp_X9_bits_2 y K E (f + 1) (nI n) M := by
    intro f
    induction f with
    | zero =>
      intro n E h1 h2 hE
      have : n = 62 := by omega
      subst this
      exact ⟨fun _ => hE, fun h => absurd (by decide) h⟩
    | succ f ih =>
      intro n E h1 h2 hE
      unfold lp_X9_bits_2
      unfold bl_ at hE
      refine ⟨fun hc => ?_, fun hc => ⟨fun hc2 => ?_, fun hc2 => ?_⟩⟩
      · have hc' := (le_nI (a := 62) (by omega) (by omega)).mp hc
        rw [if_neg (by omega)] at hE
        exact hE
      · rw [if_neg (fun z => z.2 hc2)] at hE
        exact hE
      · have hn : n < 62 := by
          have : ¬ 62 ≤ n := fun z => hc ((le_nI (a := 62) (by omega) (by omega)).mpr z)
          omega
        rw [if_pos ⟨hn, hc2⟩] at hE
        rw [nI_p1]
        exact ih (n + 1) E (by omega) (by omega) hE
  exact key 63 0 _ (by omega) (by omega) (fun _ => hK)
def wF_ (nc : Int32) (y : Int64) : Int32 := nI (bN_ (if nc = 0 then y else y + 1))
theorem sp_widthFor {z : Nat} {y : Int64} {M : Mm} {K : Mm → Int32 → Prop} (hz : kd_ M z = 11) (hK : K M (wF_ (it_ M z 1) y)) : wp_X9_widthFor z y M K := by
  unfold wF_ at hK
  refine ⟨hz, fun h => sp_bits (fun _ => ?_), fun h => sp_bits (fun _ => ?_)⟩
  · rw [if_pos h] at hK
    exact hK
  · rw [if_neg h] at hK
    exact hK
/-- the bytes of a form, out of what a zone holds -/
def bF_ (cn nc dc rn lo hi : Int32) (gs : Int64) (o : Int32) : Int32 :=
  if o = 0 then (if nc = 0 then (4 : Int32) * cn + (0 : Int32) else (4 : Int32) * cn + (cn + (7 : Int32)) / (8 : Int32))
  else if o = 1 then (if dc = 0 then (-1 : Int32) else (9 : Int32) + (cn * wF_ nc (hi.toInt64 - lo.toInt64) + (7 : Int32)) / (8 : Int32))
  else if o = 2 then (6 : Int32) * rn
  else if o = 3 then ((2 : Int32) + (4 : Int32) * dc) + (cn * wF_ nc ((dc - (1 : Int32)).toInt64) + (7 : Int32)) / (8 : Int32)
  else if o = 4 then (if nc = 0 then (9 : Int32) + ((cn - (1 : Int32)) * nI (bN_ gs) + (7 : Int32)) / (8 : Int32) else (-1 : Int32))
  else (-1 : Int32)
def bz_F (M : Mm) (z : Nat) (o : Int32) : Int32 := bF_ (it_ M z 0) (it_ M z 1) (it_ M z 2) (it_ M z 3) (it_ M z 4) (it_ M z 5) (lg_ M z 8) o
theorem sp_bytesIn {z : Nat} {o : Int32} {M : Mm} {K : Mm → Int32 → Prop} (hz : kd_ M z = 11) (hK : K M (bz_F M z o)) : wp_X9_bytesIn z o M K := by
  unfold bz_F bF_ at hK
  refine ⟨hz, fun h => ?_, fun h => ?_, fun h => ?_, fun h => ?_, fun h => ?_, fun h0 h1 h2 h3 h4 => ?_⟩
  · rw [if_pos h] at hK
    refine ⟨fun h1 => ?_, fun h1 _ => ?_⟩
    · rw [if_pos h1] at hK
      exact hK
    · rw [if_neg h1] at hK
      exact hK
  · subst h
    rw [if_neg (by decide), if_pos rfl] at hK
    refine ⟨fun h1 => ?_, fun h1 => sp_widthFor hz (fun _ _ => ?_)⟩
    · rw [if_pos h1] at hK
      exact hK
    · rw [if_neg h1] at hK
      exact hK
  · subst h
    rw [if_neg (by decide), if_neg (by decide), if_pos rfl] at hK
    exact hK
  · subst h
    rw [if_neg (by decide), if_neg (by decide), if_neg (by decide), if_pos rfl] at hK
    exact sp_widthFor hz (fun _ _ => hK)
  · subst h
    rw [if_neg (by decide), if_neg (by decide), if_neg (by decide), if_neg (by decide), if_pos rfl] at hK
    refine ⟨fun h1 => sp_bits (fun _ _ => ?_), fun h1 => ?_⟩
    · rw [if_pos h1] at hK
      exact hK
    · rw [if_neg h1] at hK
      exact hK
  · rw [if_neg h0, if_neg h1, if_neg h2, if_neg h3, if_neg h4] at hK
    exact hK
theorem bz_plain {M : Mm} {z k : Nat} (hk : it_ M z 0 = nI k) (h : k ≤ 64) : ∃ b, b ≤ 264 ∧ bz_F M z (nI 0) = nI b := by
  unfold bz_F bF_
  rw [if_pos (show nI 0 = 0 from rfl), hk]
  have e4 : (4 : Int32) * nI k = nI (4 * k) := pk_mul 4 k
  by_cases h1 : it_ M z 1 = 0
  · rw [if_pos h1, e4]
    exact ⟨4 * k, by omega, nI_add (4 * k) 0⟩
  · rw [if_neg h1, e4, show nI k + (7 : Int32) = nI (k + 7) from nI_add k 7, show nI (k + 7) / (8 : Int32) = nI ((k + 7) / 8) from pk_div (d := 8) (by omega) (by decide) (by decide)]
    exact ⟨4 * k + (k + 7) / 8, by omega, nI_add _ _⟩
/-! the loop over the forms -/
/-- the form that is had is the least in bytes, the first of these -/
def fm_ok (M : Mm) (z fm i : Nat) : Prop := fm < 5 ∧ 0 ≤ (bz_F M z (nI fm)).toInt ∧ (bz_F M z (nI fm)).toInt ≤ 264 ∧ ∀ o, o < i → 0 ≤ (bz_F M z (nI o)).toInt → (bz_F M z (nI fm)).toInt ≤ (bz_F M z (nI o)).toInt ∧ ((bz_F M z (nI o)).toInt = (bz_F M z (nI fm)).toInt → fm ≤ o)
theorem bz_form (M : Mm) (z : Nat) (v o : Int32) : bz_F (sI_ M z 6 v) z o = bz_F M z o := by
  unfold bz_F
  simp only [it_sIk (show (0 : Nat) ≠ 6 by decide), it_sIk (show (1 : Nat) ≠ 6 by decide), it_sIk (show (2 : Nat) ≠ 6 by decide), it_sIk (show (3 : Nat) ≠ 6 by decide), it_sIk (show (4 : Nat) ≠ 6 by decide), it_sIk (show (5 : Nat) ≠ 6 by decide)]
  rfl
theorem lp_forms_ok {z : Nat} {K : Mm → Prop} {M : Mm} (hz : kd_ M z = 11) (E : Mm → Prop)
    (hE : ∀ fm, fm_ok M z fm 5 → E (sI_ M z 6 (nI fm))) :
    ∀ (n i fm : Nat) (M2 : Mm), 1 ≤ i → i ≤ 5 → 5 - i < n → fm < i → fm_ok M z fm i → (M2 = sI_ M z 6 (nI fm)) → lp_X9_reckon_94 z K E n (nI i) M2 := by
  intro n
  induction n with
  | zero => intro i fm M2 _ _ h; omega
  | succ n ih =>
    intro i fm M2 hi1 hi5 hn hfi hfm e2
    subst e2
    unfold lp_X9_reckon_94
    refine ⟨fun hc => ?_, fun hc => ?_⟩
    · have : 5 ≤ i := (le_nI (a := 5) (by omega) (by omega)).mp hc
      have : i = 5 := by omega
      subst this
      exact hE fm hfm
    · have hi : i < 5 := by
        have : ¬ 5 ≤ i := fun h => hc ((le_nI (a := 5) (by omega) (by omega)).mpr h)
        omega
      refine sp_bytesIn hz (fun _ => ?_)
      rw [bz_form, nI_p1, it_sIs]
      obtain ⟨f1, f2, f3, f4⟩ := id hfm
      refine ⟨fun hlt => ?_, fun hge => sp_bytesIn hz (fun _ => ?_)⟩
      · refine ih (i + 1) fm _ (by omega) (by omega) (by omega) (by omega) ⟨f1, f2, f3, fun o ho hp => ?_⟩ rfl
        by_cases ho2 : o = i
        · subst ho2
          rw [i_lt] at hlt
          have : (0 : Int32).toInt = 0 := rfl
          omega
        · exact f4 o (by omega) hp
      · rw [bz_form]
        have hge' : 0 ≤ (bz_F M z (nI i)).toInt := by
          rw [i_lt] at hge
          have : (0 : Int32).toInt = 0 := rfl
          omega
        refine ⟨fun hle => ?_, fun hnle M37 e37 => ?_⟩
        · refine ih (i + 1) fm _ (by omega) (by omega) (by omega) (by omega) ⟨f1, f2, f3, fun o ho hp => ?_⟩ rfl
          by_cases ho2 : o = i
          · subst ho2
            rw [i_le] at hle
            exact ⟨hle, fun _ => by omega⟩
          · exact f4 o (by omega) hp
        · subst e37
          rw [i_le] at hnle
          refine ih (i + 1) i _ (by omega) (by omega) (by omega) (by omega) ⟨hi, hge', by omega, fun o ho hp => ?_⟩ ?_
          · by_cases ho2 : o = i
            · subst ho2
              exact ⟨Int.le_refl _, fun _ => Nat.le_refl _⟩
            · have := f4 o (by omega) hp
              exact ⟨by omega, fun h => by omega⟩
          · unfold sI_
            congr 1
            congr 1
            congr 1
            funext b j
            unfold up2_
            by_cases h9 : b = z ∧ j = 6
            · rw [if_pos h9, if_pos h9]
            · rw [if_neg h9, if_neg h9]
              exact if_neg h9
