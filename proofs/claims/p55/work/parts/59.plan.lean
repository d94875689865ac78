/-! the plan, as plain functions: the order of conditions, what is selected and what it costs, what is found -/
def b2_ (b : Bool) : Int32 := if b = true then 1 else 0
theorem b2_bz (b : Bool) : bz_ (b2_ b) := by
  unfold b2_ bz_
  cases b
  · exact Or.inl rfl
  · exact Or.inr rfl
theorem b2_0 {b : Bool} : b2_ b = 0 ↔ b = false := by
  unfold b2_
  cases b
  · exact ⟨fun _ => rfl, fun _ => rfl⟩
  · exact ⟨fun h => absurd h (by decide), fun h => absurd h (by decide)⟩
/-- where a guess goes among the first a ones -/
def po_ (G : Nat → Int32) (g : Int32) : Nat → Nat
  | 0 => 0
  | a + 1 => if G a ≤ g then a + 1 else po_ G g a
theorem po_le (G : Nat → Int32) (g : Int32) : ∀ a, po_ G g a ≤ a := by
  intro a
  induction a with
  | zero => exact Nat.le_refl _
  | succ a ih =>
    unfold po_
    split
    · exact Nat.le_refl _
    · omega
def oG_ (gs : Nat → Int32) : Nat → Nat → Int32
  | 0 => fun _ => 0
  | k + 1 => fun j => if j < po_ (oG_ gs k) (gs k) k then oG_ gs k j else if j = po_ (oG_ gs k) (gs k) k then gs k else oG_ gs k (j - 1)
def oO_ (gs : Nat → Int32) : Nat → Nat → Nat
  | 0 => fun _ => 0
  | k + 1 => fun j => if j < po_ (oG_ gs k) (gs k) k then oO_ gs k j else if j = po_ (oG_ gs k) (gs k) k then k else oO_ gs k (j - 1)
theorem oG_congr {gs gs' : Nat → Int32} : ∀ {k : Nat}, (∀ i, i < k → gs i = gs' i) → oG_ gs k = oG_ gs' k := by
  intro k
  induction k with
  | zero => intro _; rfl
  | succ k ih =>
    intro h
    funext j
    unfold oG_
    rw [ih (fun i hi => h i (by omega)), h k (by omega)]
theorem oO_congr {gs gs' : Nat → Int32} : ∀ {k : Nat}, (∀ i, i < k → gs i = gs' i) → oO_ gs k = oO_ gs' k := by
  intro k
  induction k with
  | zero => intro _; rfl
  | succ k ih =>
    intro h
    funext j
    unfold oO_
    rw [ih (fun i hi => h i (by omega)), h k (by omega), oG_congr (fun i hi => h i (by omega))]
theorem oO_lt (gs : Nat → Int32) : ∀ {k j : Nat}, j < k → oO_ gs k j < k := by
  intro k
  induction k with
  | zero => intro j h; omega
  | succ k ih =>
    intro j hj
    have hp := po_le (oG_ gs k) (gs k) k
    unfold oO_
    by_cases h1 : j < po_ (oG_ gs k) (gs k) k
    · rw [if_pos h1]
      have := ih (j := j) (by omega)
      omega
    · rw [if_neg h1]
      by_cases h2 : j = po_ (oG_ gs k) (gs k) k
      · rw [if_pos h2]; omega
      · rw [if_neg h2]
        have := ih (j := j - 1) (by omega)
        omega
theorem oO_sur (gs : Nat → Int32) : ∀ {k i : Nat}, i < k → ∃ j, j < k ∧ oO_ gs k j = i := by
  intro k
  induction k with
  | zero => intro i h; omega
  | succ k ih =>
    intro i hi
    have hp := po_le (oG_ gs k) (gs k) k
    by_cases e : i = k
    · refine ⟨po_ (oG_ gs k) (gs k) k, by omega, ?_⟩
      unfold oO_
      rw [if_neg (by omega), if_pos rfl]
      exact e.symm
    · obtain ⟨j, hj, ej⟩ := ih (i := i) (by omega)
      by_cases h1 : j < po_ (oG_ gs k) (gs k) k
      · refine ⟨j, by omega, ?_⟩
        unfold oO_
        rw [if_pos h1]
        exact ej
      · refine ⟨j + 1, by omega, ?_⟩
        unfold oO_
        rw [if_neg (by omega), if_neg (by omega), show j + 1 - 1 = j by omega]
        exact ej
/-! all, any, of the first n -/
def qa_ (p : Nat → Bool) : Nat → Bool
  | 0 => true
  | n + 1 => qa_ p n && p n
def qe_ (p : Nat → Bool) : Nat → Bool
  | 0 => false
  | n + 1 => qe_ p n || p n
theorem qa_iff {p : Nat → Bool} {n : Nat} : qa_ p n = true ↔ ∀ i, i < n → p i = true := by
  induction n with
  | zero => exact ⟨fun _ i hi => absurd hi (by omega), fun _ => rfl⟩
  | succ n ih =>
    unfold qa_
    rw [Bool.and_eq_true, ih]
    constructor
    · rintro ⟨h1, h2⟩ i hi
      by_cases e : i = n
      · rw [e]; exact h2
      · exact h1 i (by omega)
    · intro h
      exact ⟨fun i hi => h i (by omega), h n (by omega)⟩
theorem qa_congr {p p' : Nat → Bool} {n : Nat} (h : ∀ i, i < n → p i = p' i) : qa_ p n = qa_ p' n := by
  induction n with
  | zero => rfl
  | succ n ih => unfold qa_; rw [ih (fun i hi => h i (by omega)), h n (by omega)]
theorem qe_congr {p p' : Nat → Bool} {n : Nat} (h : ∀ i, i < n → p i = p' i) : qe_ p n = qe_ p' n := by
  induction n with
  | zero => rfl
  | succ n ih => unfold qe_; rw [ih (fun i hi => h i (by omega)), h n (by omega)]
theorem bool_iff {a b : Bool} (h : a = true ↔ b = true) : a = b := by
  cases a <;> cases b
  · rfl
  · exact absurd (h.mpr rfl) (by decide)
  · exact absurd (h.mp rfl) (by decide)
  · rfl
/-- the order doesn't matter to what is selected by all conditions -/
theorem qa_ord (gs : Nat → Int32) (me : Nat → Bool) (n : Nat) : qa_ (fun i => me (oO_ gs n i)) n = qa_ me n := by
  apply bool_iff
  rw [qa_iff, qa_iff]
  constructor
  · intro h i hi
    obtain ⟨j, hj, ej⟩ := oO_sur gs hi
    rw [← ej]
    exact h j hj
  · intro h i hi
    exact h _ (oO_lt gs hi)
theorem qa_ord_le (gs : Nat → Int32) (me : Nat → Bool) {n p : Nat} (hp : p ≤ n) (h : qa_ me n = true) : qa_ (fun i => me (oO_ gs n i)) p = true := by
  rw [qa_iff] at h ⊢
  intro i hi
  exact h _ (oO_lt gs (by omega))
/-! the cost of a group in a block -/
def sc_ (cf : Nat → Nat → Nat) (me : Nat → Int32 → Bool) (o : Nat → Nat) : Nat → Nat → List Int32 → Nat
  | 0, _, _ => 0
  | n + 1, p, L => if L.length = 0 then 0 else cf (o p) L.length + sc_ cf me o n (p + 1) (L.filter (me (o p)))
theorem sc_0 {cf : Nat → Nat → Nat} {me : Nat → Int32 → Bool} {o : Nat → Nat} {n p : Nat} {L : List Int32} (h : L.length = 0) : sc_ cf me o n p L = 0 := by
  cases n with
  | zero => rfl
  | succ n => unfold sc_; rw [if_pos h]
theorem sc_congr {cf cf' : Nat → Nat → Nat} {me me' : Nat → Int32 → Bool} {o : Nat → Nat} {N : Nat} (ho : ∀ j, j < N → o j < N) (hc : ∀ i, i < N → cf i = cf' i) (hm : ∀ i, i < N → me i = me' i) : ∀ {n p : Nat} {L : List Int32}, p + n ≤ N → sc_ cf me o n p L = sc_ cf' me' o n p L := by
  intro n
  induction n with
  | zero => intro p L _; rfl
  | succ n ih =>
    intro p L h
    unfold sc_
    rw [hc _ (ho p (by omega)), hm _ (ho p (by omega)), ih (by omega)]
theorem sc_le {cf : Nat → Nat → Nat} {me : Nat → Int32 → Bool} {o : Nat → Nat} {N B k : Nat} (ho : ∀ j, j < N → o j < N) (hc : ∀ i s, i < N → s ≤ k → cf i s ≤ B) : ∀ {n p : Nat} {L : List Int32}, p + n ≤ N → L.length ≤ k → sc_ cf me o n p L ≤ B * n := by
  intro n
  induction n with
  | zero => intro p L _ _; exact Nat.le_refl _
  | succ n ih =>
    intro p L h hL
    unfold sc_
    split
    · exact Nat.zero_le _
    · have h1 := hc (o p) L.length (ho p (by omega)) hL
      have h2 := ih (p := p + 1) (L := L.filter (me (o p))) (by omega) (Nat.le_trans (List.length_filter_le _ _) hL)
      rw [Nat.mul_succ]
      omega
/-- of all groups in a block -/
def co_ (cf : Nat → Nat → Nat → Nat) (me : Nat → Nat → Int32 → Bool) (gs : Nat → Nat → Int32) (cq : Nat → Nat) (L : List Int32) : Nat → Nat
  | 0 => 0
  | g + 1 => co_ cf me gs cq L g + (if cq g = 0 then 0 else sc_ (cf g) (me g) (oO_ (gs g) (cq g)) (cq g) 0 L)
theorem co_congr {cf cf' : Nat → Nat → Nat → Nat} {me me' : Nat → Nat → Int32 → Bool} {gs gs' : Nat → Nat → Int32} {cq : Nat → Nat} {L : List Int32} {n : Nat} (h : ∀ g k, g < n → k < cq g → cf g k = cf' g k ∧ me g k = me' g k ∧ gs g k = gs' g k) : co_ cf me gs cq L n = co_ cf' me' gs' cq L n := by
  induction n with
  | zero => rfl
  | succ n ih =>
    unfold co_
    rw [ih (fun g k hg hk => h g k (by omega) hk), oO_congr (fun i hi => (h n i (by omega) hi).2.2)]
    congr 1
    split
    · rfl
    · exact sc_congr (N := cq n) (fun j hj => oO_lt _ hj) (fun i hi => (h n i (by omega) hi).1) (fun i hi => (h n i (by omega) hi).2.1) (by omega)
theorem co_le {cf : Nat → Nat → Nat → Nat} {me : Nat → Nat → Int32 → Bool} {gs : Nat → Nat → Int32} {cq : Nat → Nat} {L : List Int32} {k : Nat} (hL : L.length ≤ k) : ∀ {n : Nat}, (∀ g, g < n → cq g ≤ 4) → (∀ g i s, g < n → i < cq g → s ≤ k → cf g i s ≤ 128) → co_ cf me gs cq L n ≤ 512 * n := by
  intro n
  induction n with
  | zero => intro _ _; exact Nat.le_refl _
  | succ n ih =>
    intro h4 hc
    have h1 := ih (fun g hg => h4 g (by omega)) (fun g i s hg => hc g i s (by omega))
    have h2 : (if cq n = 0 then 0 else sc_ (cf n) (me n) (oO_ (gs n) (cq n)) (cq n) 0 L) ≤ 512 := by
      split
      · omega
      · have := sc_le (cf := cf n) (me := me n) (o := oO_ (gs n) (cq n)) (N := cq n) (B := 128) (k := k) (fun j hj => oO_lt _ hj) (fun i s hi hs => hc n i s (by omega) hi hs) (n := cq n) (p := 0) (L := L) (by omega) hL
        have := h4 n (by omega)
        omega
    unfold co_
    omega
/-- of all frames, and the BUFFER behind them -/
def cb_ (cf : Nat → Nat → Nat → Nat → Nat) (me : Nat → Nat → Int32 → Bool) (gs : Nat → Nat → Nat → Int32) (cq : Nat → Nat) (rw : Nat → List Int32) (nq : Nat) : Nat → Nat
  | 0 => 0
  | i + 1 => cb_ cf me gs cq rw nq i + co_ (cf i) me (gs i) cq (rw i) nq
theorem cb_congr {cf cf' : Nat → Nat → Nat → Nat → Nat} {me me' : Nat → Nat → Int32 → Bool} {gs gs' : Nat → Nat → Nat → Int32} {cq : Nat → Nat} {rw rw' : Nat → List Int32} {nq n : Nat} (hr : ∀ i, i < n → rw i = rw' i) (h : ∀ i g k, i < n → g < nq → k < cq g → cf i g k = cf' i g k ∧ me g k = me' g k ∧ gs i g k = gs' i g k) : cb_ cf me gs cq rw nq n = cb_ cf' me' gs' cq rw' nq n := by
  induction n with
  | zero => rfl
  | succ n ih =>
    unfold cb_
    rw [ih (fun i hi => hr i (by omega)) (fun i g k hi => h i g k (by omega)), hr n (by omega), co_congr (fun g k hg hk => h n g k (by omega) hg hk)]
theorem cb_le {cf : Nat → Nat → Nat → Nat → Nat} {me : Nat → Nat → Int32 → Bool} {gs : Nat → Nat → Nat → Int32} {cq : Nat → Nat} {rw : Nat → List Int32} {nq k : Nat} (hq : nq ≤ 4) (h4 : ∀ g, g < nq → cq g ≤ 4) : ∀ {n : Nat}, (∀ i, i < n → (rw i).length ≤ k) → (∀ i g j s, i < n → g < nq → j < cq g → s ≤ k → cf i g j s ≤ 128) → cb_ cf me gs cq rw nq n ≤ 2048 * n := by
  intro n
  induction n with
  | zero => intro _ _; exact Nat.le_refl _
  | succ n ih =>
    intro hr hc
    have h1 := ih (fun i hi => hr i (by omega)) (fun i g j s hi => hc i g j s (by omega))
    have h2 := co_le (cf := cf n) (me := me) (gs := gs n) (cq := cq) (L := rw n) (k := k) (hr n (by omega)) (n := nq) h4 (fun g i s hg hi hs => hc n g i s (by omega) hg hi hs)
    unfold cb_
    omega
/-! what is found -/
def hh_ (me : Nat → Nat → Int32 → Bool) (cq : Nat → Nat) (nq : Nat) (x : Int32) : Bool := qe_ (fun g => decide (0 < cq g) && qa_ (fun k => me g k x) (cq g)) nq
def qn_ (cq : Nat → Nat) : Nat → Nat
  | 0 => 0
  | g + 1 => qn_ cq g + cq g
theorem qn_le {cq : Nat → Nat} : ∀ {n : Nat}, (∀ g, g < n → cq g ≤ 4) → qn_ cq n ≤ 4 * n := by
  intro n
  induction n with
  | zero => intro _; exact Nat.le_refl _
  | succ n ih =>
    intro h
    have := ih (fun g hg => h g (by omega))
    have := h n (by omega)
    unfold qn_
    omega
def pr_ (al : Int32 → Bool) (me : Nat → Nat → Int32 → Bool) (cq : Nat → Nat) (nq : Nat) (x : Int32) : Bool := al x && (decide (qn_ cq nq = 0) || hh_ me cq nq x)
def ca_ (rw : Nat → List Int32) (P : Int32 → Bool) : Nat → List Int32
  | 0 => []
  | i + 1 => ca_ rw P i ++ (rw i).filter P
theorem pr_congr {al al' : Int32 → Bool} {me me' : Nat → Nat → Int32 → Bool} {cq : Nat → Nat} {nq : Nat} (ha : ∀ x, al x = al' x) (hm : ∀ g k, g < nq → k < cq g → me g k = me' g k) : pr_ al me cq nq = pr_ al' me' cq nq := by
  funext x
  unfold pr_ hh_
  rw [ha, qe_congr (fun g hg => by rw [qa_congr (fun k hk => by rw [hm g k hg hk])])]
theorem ca_congr {rw rw' : Nat → List Int32} {P : Int32 → Bool} {n : Nat} (h : ∀ i, i < n → rw i = rw' i) : ca_ rw P n = ca_ rw' P n := by
  induction n with
  | zero => rfl
  | succ n ih => unfold ca_; rw [ih (fun i hi => h i (by omega)), h n (by omega)]
/-! the same, of a memory -/
def alB_ (M : Mm) (T : Nat) : Int32 → Bool := lv_f (it_ M (rf_ M T 2))
def meC_ (M : Mm) (cd C : Nat) (x : Int32) : Bool := decide (mF_ (it_ M cd 1) (it_ M cd 2) (it_ M (rf_ M C 1) (ix_ x)) (it_ M (rf_ M C 0) (ix_ x)) ≠ 0)
def me_ (M : Mm) (T cd : Nat) : Int32 → Bool := meC_ M cd (cl_ M T (ix_ (it_ M cd 0)))
def cfN_ (M : Mm) (z cd s : Nat) : Nat := if xF_ (it_ M cd 1) (it_ M cd 2) (it_ M z 0) (it_ M z 1) (it_ M z 2) (it_ M z 4) (it_ M z 5) (it_ M z 6) 0 = 0 then 0 else if xF_ (it_ M cd 1) (it_ M cd 2) (it_ M z 0) (it_ M z 1) (it_ M z 2) (it_ M z 4) (it_ M z 5) (it_ M z 6) 0 = 1 then 0 else if xF_ (it_ M cd 1) (it_ M cd 2) (it_ M z 0) (it_ M z 1) (it_ M z 2) (it_ M z 4) (it_ M z 5) (it_ M z 6) 0 = 3 then ix_ (it_ M z 3) else if xF_ (it_ M cd 1) (it_ M cd 2) (it_ M z 0) (it_ M z 1) (it_ M z 2) (it_ M z 4) (it_ M z 5) (it_ M z 6) 0 = 4 then ix_ (it_ M z 2) + s else s
def gsN_ (M : Mm) (z cd : Nat) : Int32 := gF_ (it_ M cd 1) (it_ M cd 2) (it_ M z 0) (it_ M z 1) (it_ M z 2) (it_ M z 4) (it_ M z 5)
def zc_ (M : Mm) (b cd : Nat) : Nat := rf_ M (rf_ M b 1) (ix_ (it_ M cd 0))
def cfB_ (M : Mm) (b : Nat) (fr : Int32) (cd s : Nat) : Nat := if fr = 0 then s else cfN_ M (zc_ M b cd) cd s
def gsB_ (M : Mm) (b : Nat) (fr : Int32) (cd : Nat) : Int32 := if fr = 0 then 0 else gsN_ M (zc_ M b cd) cd
/-- a group's conditions -/
def cg_ (M : Mm) (G k : Nat) : Nat := rf_ M (rf_ M G 0) k
def sl_ (M : Mm) (T G n b : Nat) (fr : Int32) (L : List Int32) : Nat := sc_ (fun k => cfB_ M b fr (cg_ M G k)) (fun k => me_ M T (cg_ M G k)) (oO_ (fun k => gsB_ M b fr (cg_ M G k)) n) n 0 L
/-- the rows of a block -/
def rl_ (M : Mm) (b k : Nat) : List Int32 := sg_ (it_ M (rf_ M b 0)) 0 k
def frf_ (m i : Nat) : Int32 := if i < m then 1 else 0
/-- all costs, without bitmaps; all rows found -/
def CW_ (M : Mm) (T Q m nq : Nat) (kk cq : Nat → Nat) : Nat := cb_ (fun i g k => cfB_ M (bk_ M T m i) (frf_ m i) (cd_ M Q g k)) (fun g k => me_ M T (cd_ M Q g k)) (fun i g k => gsB_ M (bk_ M T m i) (frf_ m i) (cd_ M Q g k)) cq (fun i => rl_ M (bk_ M T m i) (kk i)) nq (m + 1)
def FP_ (M : Mm) (T Q nq : Nat) (cq : Nat → Nat) : Int32 → Bool := pr_ (alB_ M T) (fun g k => me_ M T (cd_ M Q g k)) cq nq
def FR_ (M : Mm) (T Q m nq : Nat) (kk cq : Nat → Nat) : List Int32 := (ca_ (fun i => rl_ M (bk_ M T m i) (kk i)) (FP_ M T Q nq cq) (m + 1)).take 600
section PW
variable {ow : Nat → Nat × Nat} {M M' : Mm} {T F Q nc m R sz nq i c r g k : Nat} {kk cq : Nat → Nat} {Z A : Nat → Prop}
theorem me_wa (hS : TS_ ow M T nc m) (hX : Ex_ A M M') (hA : ∀ b, A b → WA_ ow M b) {cd : Nat} (hk : kd_ M cd = 4) (hc : ∃ c, c < nc ∧ it_ M cd 0 = nI c) : me_ M' T cd = me_ M T cd := by
  obtain ⟨c, hc, e⟩ := hc
  have n8 := hS.nc8
  have n0 : ¬ A cd := fun z => wa_k hk (by decide) (hA _ z)
  have n1 : ¬ A (rf_ M (cl_ M T c) 0) := fun z => wa_o (hS.co hc).1 (Or.inr (Or.inl (hS.cl hc))) (by decide) (hA _ z)
  have n2 : ¬ A (rf_ M (cl_ M T c) 1) := fun z => wa_o (hS.co hc).2 (Or.inr (Or.inl (hS.cl hc))) (by decide) (hA _ z)
  funext x
  unfold me_ meC_
  rw [hX.it n0, hX.it n0, hX.it n0, hX.1.cl, hX.rf, hX.rf, e, ix_nI (by omega), hX.it n1, hX.it n2]
theorem cfB_wa (hs : SH_ ow M) (hX : Ex_ A M M') (hA : ∀ b, A b → WA_ ow M b) {cd b : Nat} {fr : Int32} (hb : kd_ M b = 2) (hn : nc ≤ 8) (hk : kd_ M cd = 4) (hc : ∃ c, c < nc ∧ it_ M cd 0 = nI c) : cfB_ M' b fr cd = cfB_ M b fr cd ∧ gsB_ M' b fr cd = gsB_ M b fr cd := by
  obtain ⟨c, hc, e⟩ := hc
  have n0 : ¬ A cd := fun z => wa_k hk (by decide) (hA _ z)
  have hz := ((hs.blk hb).2.2 c (by omega)).1
  have nz : ¬ A (rf_ M (rf_ M b 1) c) := fun z => wa_k hz (by decide) (hA _ z)
  have ez : zc_ M b cd = rf_ M (rf_ M b 1) c := by unfold zc_; rw [e, ix_nI (by omega)]
  have ez' : zc_ M' b cd = rf_ M (rf_ M b 1) c := by unfold zc_; rw [hX.it n0, hX.rf, hX.rf, e, ix_nI (by omega)]
  constructor
  · funext s
    unfold cfB_ cfN_
    rw [ez, ez']
    simp only [hX.it n0, hX.it nz]
  · unfold gsB_ gsN_
    rw [ez, ez']
    simp only [hX.it n0, hX.it nz]
theorem rl_wa (hs : SH_ ow M) (hX : Ex_ A M M') (hA : ∀ b, A b → WA_ ow M b) {b k : Nat} (hb : kd_ M b = 2) : rl_ M' b k = rl_ M b k := by
  unfold rl_
  have n : ¬ A (rf_ M b 0) := fun z => wa_o (hs.blk hb).1 (Or.inl hb) (by decide) (hA _ z)
  rw [hX.rf]
  exact sg_congr (fun j _ _ => hX.it n j)
theorem alB_wa (hS : TS_ ow M T nc m) (hX : Ex_ A M M') (hA : ∀ b, A b → WA_ ow M b) : alB_ M' T = alB_ M T := by
  unfold alB_
  have n : ¬ A (rf_ M T 2) := fun z => wa_o hS.t.2.2.1 (by rw [hS.kT]; omega) (by decide) (hA _ z)
  have : it_ M' (rf_ M' T 2) = it_ M (rf_ M T 2) := funext fun j => by rw [hX.rf, hX.it n]
  rw [this]
theorem QI_.cd (h : QI_ M Q nc nq cq) (hs : SH_ ow M) (hQ : kd_ M Q = 6) (hg : g < nq) (hk : k < cq g) : kd_ M (cd_ M Q g k) = 4 ∧ ∃ c, c < nc ∧ it_ M (cd_ M Q g k) 0 = nI c := by
  obtain ⟨h1, h2, h3, h4⟩ := h
  obtain ⟨g1, g2, g3⟩ := h4 g hg
  exact ⟨cd_k hs hQ (by omega) (by omega), g3 k hk⟩
theorem CW_wa (hS : TS_ ow M T nc m) (hq : QI_ M Q nc nq cq) (hQ : kd_ M Q = 6) (hX : Ex_ A M M') (hA : ∀ b, A b → WA_ ow M b) : CW_ M' T Q m nq kk cq = CW_ M T Q m nq kk cq := by
  unfold CW_
  refine cb_congr (fun i hi => ?_) (fun i g k hi hg hk => ?_)
  · rw [hX.1.bk]
    exact rl_wa hS.sh hX hA (hS.bk i)
  · obtain ⟨c1, c2⟩ := hq.cd hS.sh hQ hg hk
    have b := cfB_wa (fr := frf_ m i) hS.sh hX hA (hS.bk i) hS.nc8 c1 c2
    rw [hX.1.bk, hX.1.cd]
    exact ⟨b.1, me_wa hS hX hA c1 c2, b.2⟩
theorem FP_wa (hS : TS_ ow M T nc m) (hq : QI_ M Q nc nq cq) (hQ : kd_ M Q = 6) (hX : Ex_ A M M') (hA : ∀ b, A b → WA_ ow M b) : FP_ M' T Q nq cq = FP_ M T Q nq cq := by
  unfold FP_
  refine pr_congr (fun x => by rw [alB_wa hS hX hA]) (fun g k hg hk => ?_)
  obtain ⟨c1, c2⟩ := hq.cd hS.sh hQ hg hk
  rw [hX.1.cd]
  exact me_wa hS hX hA c1 c2
theorem FR_wa (hS : TS_ ow M T nc m) (hq : QI_ M Q nc nq cq) (hQ : kd_ M Q = 6) (hX : Ex_ A M M') (hA : ∀ b, A b → WA_ ow M b) : FR_ M' T Q m nq kk cq = FR_ M T Q m nq kk cq := by
  unfold FR_
  rw [FP_wa hS hq hQ hX hA, ca_congr (rw' := fun i => rl_ M (bk_ M T m i) (kk i)) (fun i _ => by rw [hX.1.bk]; exact rl_wa hS.sh hX hA (hS.bk i))]
end PW
