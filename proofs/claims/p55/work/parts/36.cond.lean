/-! Condition: its tests as plain functions -/
/-- is met by a value x, or (n) NULL -/
def mF_ (t v n x : Int32) : Int32 :=
  if t = 0 then (if n = 0 then (if x = v then 1 else 0) else 0)
  else if t = 1 then (if n = 0 then (if x = v then 0 else 1) else 0)
  else if t = 2 then (if n = 0 then (if v ≤ x then 0 else 1) else 0)
  else if t = 3 then (if n = 0 then (if v < x then 0 else 1) else 0)
  else if t = 4 then (if n = 0 then (if x ≤ v then 0 else 1) else 0)
  else if t = 5 then (if n = 0 then (if x < v then 0 else 1) else 0)
  else if t = 6 then n
  else if t = 7 then (if n = 0 then 1 else 0) else 0
theorem sp_isMetBy {a0 : Nat} {n x : Int32} {M : Mm} {K : Mm → Int32 → Prop} (h0 : kd_ M a0 = 4) (hn : bz_ n) (hK : K M (mF_ (it_ M a0 1) (it_ M a0 2) n x)) : wp_X2_isMetBy a0 n x M K := by
  unfold mF_ at hK
  refine ⟨h0, fun h => ⟨fun h1 => ⟨fun h2 => ?_, fun h2 => ?_⟩, fun h1 => ?_⟩, fun h => ⟨fun h1 => ⟨fun h2 => ?_, fun h2 => ?_⟩, fun h1 => ?_⟩, fun h => ⟨fun h1 => ⟨fun h2 => ?_, fun h2 => ?_⟩, fun h1 => ?_⟩, fun h => ⟨fun h1 => ⟨fun h2 => ?_, fun h2 => ?_⟩, fun h1 => ?_⟩, fun h => ⟨fun h1 => ⟨fun h2 => ?_, fun h2 => ?_⟩, fun h1 => ?_⟩, fun h => ⟨fun h1 => ⟨fun h2 => ?_, fun h2 => ?_⟩, fun h1 => ?_⟩, fun h => ⟨hn, ?_⟩, fun h => ⟨fun h1 => ?_, fun h1 => ?_⟩, fun g0 g1 g2 g3 g4 g5 g6 g7 => ?_⟩
  all_goals first
    | (simp +decide only [h, h1, h2, ↓reduceIte] at hK; exact hK)
    | (simp +decide only [h, h1, ↓reduceIte] at hK; exact hK)
    | (simp +decide only [h, ↓reduceIte] at hK; exact hK)
    | (simp +decide only [g0, g1, g2, g3, g4, g5, g6, g7, ↓reduceIte] at hK; exact hK)
theorem mF_bz {t v n x : Int32} (hn : bz_ n) : bz_ (mF_ t v n x) := by
  have b0 : bz_ 0 := Or.inl rfl
  have b1 : bz_ 1 := Or.inr rfl
  unfold mF_
  repeat' split
  all_goals first | exact b0 | exact b1 | exact hn
/-- is met by no row of a zone -/
def nF_ (t v cn nc lo hi : Int32) : Int32 :=
  if nc = cn then
    (if t = 0 then 1 else if t = 1 then 1 else if t = 2 then 1 else if t = 3 then 1 else if t = 4 then 1 else if t = 5 then 1 else if t = 6 then (if nc = 0 then 1 else 0) else if t = 7 then 1 else 1)
  else
    (if t = 0 then (if v < lo then 1 else if v ≤ hi then 0 else 1)
    else if t = 1 then (if lo = v then (if hi = v then 1 else 0) else 0)
    else if t = 2 then (if lo < v then 0 else 1)
    else if t = 3 then (if lo ≤ v then 0 else 1)
    else if t = 4 then (if v < hi then 0 else 1)
    else if t = 5 then (if v ≤ hi then 0 else 1)
    else if t = 6 then (if nc = 0 then 1 else 0)
    else if t = 7 then 0 else 1)
theorem sp_none {a0 a1 : Nat} {M : Mm} {K : Mm → Int32 → Prop} (h0 : kd_ M a0 = 4) (h1 : kd_ M a1 = 11) (hK : K M (nF_ (it_ M a0 1) (it_ M a0 2) (it_ M a1 0) (it_ M a1 1) (it_ M a1 4) (it_ M a1 5))) : wp_X2_isMetByNone a0 a1 M K := by
  unfold nF_ at hK
  refine ⟨h0, h1, fun hh => ?_, fun hh => ?_⟩
  · rw [if_pos hh] at hK
    refine ⟨fun h => ?_, fun h => ?_, fun h => ?_, fun h => ?_, fun h => ?_, fun h => ?_, fun h => ⟨fun h1 => ?_, fun h1 => ?_⟩, fun h => ?_, fun g0 g1 g2 g3 g4 g5 g6 g7 => ?_⟩
    all_goals first
      | (simp +decide only [h, h1, ↓reduceIte] at hK; exact hK)
      | (simp +decide only [h, ↓reduceIte] at hK; exact hK)
      | (simp +decide only [g0, g1, g2, g3, g4, g5, g6, g7, ↓reduceIte] at hK; exact hK)
  · rw [if_neg hh] at hK
    refine ⟨fun h => ⟨fun h1 => ?_, fun h1 => ⟨fun h2 => ?_, fun h2 => ?_⟩⟩, fun h => ⟨fun h1 => ⟨fun h2 => ?_, fun h2 => ?_⟩, fun h1 => ?_⟩, fun h => ⟨fun h1 => ?_, fun h1 => ?_⟩, fun h => ⟨fun h1 => ?_, fun h1 => ?_⟩, fun h => ⟨fun h1 => ?_, fun h1 => ?_⟩, fun h => ⟨fun h1 => ?_, fun h1 => ?_⟩, fun h => ⟨fun h1 => ?_, fun h1 => ?_⟩, fun h => ?_, fun g0 g1 g2 g3 g4 g5 g6 g7 => ?_⟩
    all_goals first
      | (simp +decide only [h, h1, h2, ↓reduceIte] at hK; exact hK)
      | (simp +decide only [h, h1, ↓reduceIte] at hK; exact hK)
      | (simp +decide only [h, ↓reduceIte] at hK; exact hK)
      | (simp +decide only [g0, g1, g2, g3, g4, g5, g6, g7, ↓reduceIte] at hK; exact hK)
def aF_ (t v cn nc lo hi : Int32) : Int32 :=
  if nc = 0 then
    (if t = 0 then (if lo = v then (if hi = v then 1 else 0) else 0)
    else if t = 1 then (if v < lo then 1 else if v ≤ hi then 0 else 1)
    else if t = 2 then (if v ≤ hi then 0 else 1)
    else if t = 3 then (if v < hi then 0 else 1)
    else if t = 4 then (if lo ≤ v then 0 else 1)
    else if t = 5 then (if lo < v then 0 else 1)
    else if t = 6 then (if nc = cn then 1 else 0)
    else if t = 7 then 1 else 0)
  else
    (if t = 0 then 0 else if t = 1 then 0 else if t = 2 then 0 else if t = 3 then 0 else if t = 4 then 0 else if t = 5 then 0 else if t = 6 then (if nc = cn then 1 else 0) else if t = 7 then 0 else 0)
theorem sp_all {a0 a1 : Nat} {M : Mm} {K : Mm → Int32 → Prop} (h0 : kd_ M a0 = 4) (h1 : kd_ M a1 = 11) (hK : K M (aF_ (it_ M a0 1) (it_ M a0 2) (it_ M a1 0) (it_ M a1 1) (it_ M a1 4) (it_ M a1 5))) : wp_X2_isMetByAll a0 a1 M K := by
  unfold aF_ at hK
  refine ⟨h0, h1, fun hh => ?_, fun hh => ?_⟩
  · rw [if_pos hh] at hK
    refine ⟨fun h => ⟨fun h1 => ⟨fun h2 => ?_, fun h2 => ?_⟩, fun h1 => ?_⟩, fun h => ⟨fun h1 => ?_, fun h1 => ⟨fun h2 => ?_, fun h2 => ?_⟩⟩, fun h => ⟨fun h1 => ?_, fun h1 => ?_⟩, fun h => ⟨fun h1 => ?_, fun h1 => ?_⟩, fun h => ⟨fun h1 => ?_, fun h1 => ?_⟩, fun h => ⟨fun h1 => ?_, fun h1 => ?_⟩, fun h => ⟨fun h1 => ?_, fun h1 => ?_⟩, fun h => ?_, fun g0 g1 g2 g3 g4 g5 g6 g7 => ?_⟩
    all_goals first
      | (simp +decide only [h, h1, h2, ↓reduceIte] at hK; exact hK)
      | (simp +decide only [h, h1, ↓reduceIte] at hK; exact hK)
      | (simp +decide only [h, ↓reduceIte] at hK; exact hK)
      | (simp +decide only [g0, g1, g2, g3, g4, g5, g6, g7, ↓reduceIte] at hK; exact hK)
  · rw [if_neg hh] at hK
    refine ⟨fun h => ?_, fun h => ?_, fun h => ?_, fun h => ?_, fun h => ?_, fun h => ?_, fun h => ⟨fun h1 => ?_, fun h1 => ?_⟩, fun h => ?_, fun g0 g1 g2 g3 g4 g5 g6 g7 => ?_⟩
    all_goals first
      | (simp +decide only [h, h1, ↓reduceIte] at hK; exact hK)
      | (simp +decide only [h, ↓reduceIte] at hK; exact hK)
      | (simp +decide only [g0, g1, g2, g3, g4, g5, g6, g7, ↓reduceIte] at hK; exact hK)
theorem nF_bz (t v cn nc lo hi : Int32) : bz_ (nF_ t v cn nc lo hi) := by
  have b0 : bz_ 0 := Or.inl rfl
  have b1 : bz_ 1 := Or.inr rfl
  unfold nF_
  repeat' split
  all_goals first | exact b0 | exact b1
theorem aF_bz (t v cn nc lo hi : Int32) : bz_ (aF_ t v cn nc lo hi) := by
  have b0 : bz_ 0 := Or.inl rfl
  have b1 : bz_ 1 := Or.inr rfl
  unfold aF_
  repeat' split
  all_goals first | exact b0 | exact b1
/-- as if the values lay evenly -/
def sF_ (most : Int32) (reach : Int64) (lo hi : Int32) : Int32 :=
  if (1 : Int64) ≤ ((hi.toInt64 - lo.toInt64) + (1 : Int64)) then (if ((most.toInt64 * reach) / ((hi.toInt64 - lo.toInt64) + (1 : Int64))) < (most.toInt64) then ((most.toInt64 * reach) / ((hi.toInt64 - lo.toInt64) + (1 : Int64))) else (most.toInt64)).toInt32 else 0
theorem sp_share {x : Int32} {y : Int64} {z : Nat} {M : Mm} {K : Mm → Int32 → Prop} (hz : kd_ M z = 11) (hK : K M (sF_ x y (it_ M z 4) (it_ M z 5))) : wp_X2_shareOf x y z M K := by
  unfold sF_ at hK
  refine ⟨hz, fun h => ⟨fun e => ?_, ?_⟩, fun h => ?_⟩
  · rw [e] at h
    exact absurd h (by decide)
  · rw [if_pos h] at hK
    exact hK
  · rw [if_neg h] at hK
    exact hK
def gF_ (t v cn nc dc lo hi : Int32) : Int32 :=
  if nF_ t v cn nc lo hi = 0 then
    (if aF_ t v cn nc lo hi = 0 then
      (if dc = 0 then
        (if t = 0 then (0 : Int32) else if t = 1 then (cn - nc) - (0 : Int32) else if t = 2 then sF_ (cn - nc) (v.toInt64 - lo.toInt64) lo hi else if t = 3 then sF_ (cn - nc) (v.toInt64 - lo.toInt64) lo hi else if t = 4 then sF_ (cn - nc) (hi.toInt64 - v.toInt64) lo hi else if t = 5 then sF_ (cn - nc) (hi.toInt64 - v.toInt64) lo hi else if t = 6 then nc else if t = 7 then cn - nc else 0)
      else
        (if t = 0 then (cn - nc) / dc else if t = 1 then (cn - nc) - ((cn - nc) / dc) else if t = 2 then sF_ (cn - nc) (v.toInt64 - lo.toInt64) lo hi else if t = 3 then sF_ (cn - nc) (v.toInt64 - lo.toInt64) lo hi else if t = 4 then sF_ (cn - nc) (hi.toInt64 - v.toInt64) lo hi else if t = 5 then sF_ (cn - nc) (hi.toInt64 - v.toInt64) lo hi else if t = 6 then nc else if t = 7 then cn - nc else 0))
    else cn)
  else 0
theorem sp_guess {a0 a1 : Nat} {M : Mm} {K : Mm → Int32 → Prop} (h0 : kd_ M a0 = 4) (hz : kd_ M a1 = 11) (hK : K M (gF_ (it_ M a0 1) (it_ M a0 2) (it_ M a1 0) (it_ M a1 1) (it_ M a1 2) (it_ M a1 4) (it_ M a1 5))) : wp_X2_guessIn a0 a1 M K := by
  unfold gF_ at hK
  refine ⟨h0, hz, sp_none h0 hz (fun _ _ => ⟨fun hn => sp_all h0 hz (fun _ _ => ⟨fun ha => ⟨fun hd => ?_, fun hd => ⟨hd, ?_⟩⟩, fun ha => ?_⟩), fun hn => ?_⟩)⟩
  · rw [if_pos hn, if_pos ha, if_pos hd] at hK
    refine ⟨fun h => ?_, fun h => ?_, fun h => sp_share hz (fun _ => ?_), fun h => sp_share hz (fun _ => ?_), fun h => sp_share hz (fun _ => ?_), fun h => sp_share hz (fun _ => ?_), fun h => ?_, fun h => ?_, fun g0 g1 g2 g3 g4 g5 g6 g7 => ?_⟩
    all_goals first
      | (simp +decide only [h, ↓reduceIte] at hK; exact hK)
      | (simp +decide only [g0, g1, g2, g3, g4, g5, g6, g7, ↓reduceIte] at hK; exact hK)
  · rw [if_pos hn, if_pos ha, if_neg hd] at hK
    refine ⟨fun h => ?_, fun h => ?_, fun h => sp_share hz (fun _ => ?_), fun h => sp_share hz (fun _ => ?_), fun h => sp_share hz (fun _ => ?_), fun h => sp_share hz (fun _ => ?_), fun h => ?_, fun h => ?_, fun g0 g1 g2 g3 g4 g5 g6 g7 => ?_⟩
    all_goals first
      | (simp +decide only [h, ↓reduceIte] at hK; exact hK)
      | (simp +decide only [g0, g1, g2, g3, g4, g5, g6, g7, ↓reduceIte] at hK; exact hK)
  · rw [if_pos hn, if_neg ha] at hK
    exact hK
  · rw [if_neg hn] at hK
    exact hK
def hF_ (dc : Int32) : Int32 := if dc < 1 then 0 else if 16 < dc then 0 else 1
theorem sp_hasBitmaps {z : Nat} {M : Mm} {K : Mm → Int32 → Prop} (hz : kd_ M z = 11) (hK : K M (hF_ (it_ M z 2))) : wp_X9_hasBitmaps z M K := by
  unfold hF_ at hK
  refine ⟨hz, fun h => ?_, fun h => ⟨fun h1 => ?_, fun h1 => ?_⟩⟩
  · rw [if_pos h] at hK; exact hK
  · rw [if_neg h, if_pos h1] at hK; exact hK
  · rw [if_neg h, if_neg h1] at hK; exact hK
theorem hF_bz (dc : Int32) : bz_ (hF_ dc) := by
  unfold hF_
  repeat' split
  all_goals first | exact Or.inl rfl | exact Or.inr rfl
def fF_ (form : Int32) : Int32 := if form = 2 then 3 else if form = 3 then 4 else 5
def xF_ (t v cn nc dc lo hi form flag : Int32) : Int32 :=
  if nF_ t v cn nc lo hi = 0 then (if aF_ t v cn nc lo hi = 0 then (if flag = 0 then fF_ form else if hF_ dc = 0 then fF_ form else if 6 ≤ t then fF_ form else 2) else 1) else 0
theorem sp_methodIn {a0 a1 : Nat} {flag : Int32} {M : Mm} {K : Mm → Int32 → Prop} (h0 : kd_ M a0 = 4) (hz : kd_ M a1 = 11) (hK : K M (xF_ (it_ M a0 1) (it_ M a0 2) (it_ M a1 0) (it_ M a1 1) (it_ M a1 2) (it_ M a1 4) (it_ M a1 5) (it_ M a1 6) flag)) : wp_X2_methodIn a0 a1 flag M K := by
  unfold xF_ at hK
  have bs : K M (fF_ (it_ M a1 6)) → ((it_ M a1 6) = (2 : Int32) → (K M (3 : Int32))) ∧ (¬ (it_ M a1 6) = (2 : Int32) → (((it_ M a1 6) = (3 : Int32) → (K M (4 : Int32))) ∧ (¬ (it_ M a1 6) = (3 : Int32) → (K M (5 : Int32))))) := by
    intro hb
    unfold fF_ at hb
    refine ⟨fun h => ?_, fun h => ⟨fun h1 => ?_, fun h1 => ?_⟩⟩
    · rw [if_pos h] at hb; exact hb
    · rw [if_neg h, if_pos h1] at hb; exact hb
    · rw [if_neg h, if_neg h1] at hb; exact hb
  refine ⟨h0, hz, sp_none h0 hz (fun _ _ => ⟨fun hn => sp_all h0 hz (fun _ _ => ⟨fun ha => ⟨fun hf => ?_, fun hf => sp_hasBitmaps hz (fun _ _ => ⟨fun hb => ?_, fun hb => ⟨fun h6 => ?_, fun h6 => ?_⟩⟩)⟩, fun ha => ?_⟩), fun hn => ?_⟩)⟩
  · rw [if_pos hn, if_pos ha, if_pos hf] at hK; exact bs hK
  · rw [if_pos hn, if_pos ha, if_neg hf, if_pos hb] at hK; exact bs hK
  · rw [if_pos hn, if_pos ha, if_neg hf, if_neg hb, if_pos h6] at hK; exact bs hK
  · rw [if_pos hn, if_pos ha, if_neg hf, if_neg hb, if_neg h6] at hK; exact hK
  · rw [if_pos hn, if_neg ha] at hK; exact hK
  · rw [if_neg hn] at hK; exact hK
/-- the bitmaps' bytes of a zone -/
def zb_ (cn dc : Int32) : Int32 := if hF_ dc = 0 then 0 else dc * ((cn + (7 : Int32)) / (8 : Int32))
theorem sp_zbob {z : Nat} {M : Mm} {K : Mm → Int32 → Prop} (hz : kd_ M z = 11) (hK : K M (zb_ (it_ M z 0) (it_ M z 2))) : wp_X9_bytesOfBitmaps z M K := by
  unfold zb_ at hK
  refine ⟨hz, sp_hasBitmaps hz (fun _ _ => ⟨fun hb => ?_, fun hb _ => ?_⟩)⟩
  · rw [if_pos hb] at hK; exact hK
  · rw [if_neg hb] at hK; exact hK
theorem zb_le {k dc : Nat} (hk6 : k ≤ 64) (hdk : dc ≤ 64) : ∃ b, b ≤ 128 ∧ zb_ (nI k) (nI dc) = nI b := by
  unfold zb_
  by_cases hb : hF_ (nI dc) = 0
  · rw [if_pos hb]
    exact ⟨0, by omega, rfl⟩
  rw [if_neg hb]
  have h16 : dc ≤ 16 := by
    unfold hF_ at hb
    by_cases h1 : nI dc < 1
    · rw [if_pos h1] at hb
      exact absurd rfl hb
    · rw [if_neg h1] at hb
      by_cases h2 : (16 : Int32) < nI dc
      · rw [if_pos h2] at hb
        exact absurd rfl hb
      · have : ¬ 16 < dc := fun e => h2 ((lt_nI (a := 16) (by omega) (by omega)).mpr e)
        omega
  rw [show nI k + (7 : Int32) = nI (k + 7) from nI_add k 7, show nI (k + 7) / (8 : Int32) = nI ((k + 7) / 8) from pk_div (d := 8) (by omega) (by decide) (by decide), pk_mul]
  refine ⟨_, ?_, rfl⟩
  have : (k + 7) / 8 ≤ 8 := by omega
  calc dc * ((k + 7) / 8) ≤ 16 * 8 := Nat.mul_le_mul h16 this
    _ = 128 := rfl
theorem sp_bitmapsFor {z c k : Nat} {M : Mm} {K : Mm → Int32 → Prop} (hz : kd_ M z = 11) (hc : kd_ M c = 4) (hv : kd_ M (rf_ M z 7) = 20) (nv : ln_ M (rf_ M z 7) = 16) (hK : ∀ b, b ≤ 16 → K M (nI b)) : wp_X9_bitmapsFor z c M K := by
  refine ⟨hz, hc, 17, ?_⟩
  have key : ∀ (n i b : Nat), b ≤ i → i ≤ 16 → 16 - i < n → lp_X9_bitmapsFor_4 z c K (fun xv14 M15 => Nk_ M M15 → (K M15 xv14)) n (nI b) (nI i) M := by
    intro n
    induction n with
    | zero => intro i b _ _ h; omega
    | succ n ih =>
      intro i b hb hi hn
      unfold lp_X9_bitmapsFor_4
      refine ⟨fun _ _ => hK b (by omega), fun _ => ⟨fun _ _ => hK b (by omega), fun h16 => ?_⟩⟩
      have hi16 : i < 16 := by
        have : ¬ 16 ≤ i := fun e => h16 ((le_nI (a := 16) (by omega) (by omega)).mpr e)
        omega
      rw [nv, ix_nI (by omega), nI_p1, nI_p1]
      exact ⟨hv, vi_ hi16 (by omega), sp_isMetBy hc (Or.inl rfl) (fun _ _ => ⟨fun _ => ih (i + 1) b (by omega) (by omega) (by omega), fun _ => ih (i + 1) (b + 1) (by omega) (by omega) (by omega)⟩)⟩
  exact key 17 0 0 (Nat.le_refl _) (by omega) (by omega)
