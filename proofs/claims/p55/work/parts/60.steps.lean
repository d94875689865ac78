/-! the search's steps: narrow, collect, costIn, orderConditions -/
section ST
variable {ow : Nat → Nat × Nat} {M M' : Mm} {T F Q nc m R sz nq i c r g k n Se b cd C G : Nat} {kk cq : Nat → Nat}
/-- what is selected: the rows of which q holds -/
def SL_ (M : Mm) (Se b k : Nat) (q : Int32 → Bool) : Prop := (∀ j, j < k → it_ M (rf_ M Se 5) j = b2_ (q (it_ M (rf_ M b 0) j))) ∧ it_ M Se 6 = nI ((rl_ M b k).filter q).length
theorem lp_narrow_ok {K E : Mm → Prop} {q : Int32 → Bool} (hs : SH_ ow M) (hSe : kd_ M Se = 8) (hb : kd_ M b = 2) (hcd : kd_ M cd = 4) (hC : kd_ M C = 3) (hR : R ≤ 600) (hB : BR_ M b k R)
    (hE : ∀ M', Ex_ (fun a => a = Se ∨ a = rf_ M Se 5) M M' → (∀ j, j ≠ 6 → it_ M' Se j = it_ M Se j) → SL_ M' Se b k (fun x => q x && meC_ M cd C x) → E M') :
    ∀ (n i s : Nat) (M2 : Mm), i ≤ k → k - i < n → Ex_ (fun a => a = Se ∨ a = rf_ M Se 5) M M2 → (∀ j, j ≠ 6 → it_ M2 Se j = it_ M Se j) → (∀ j, j < i → it_ M2 (rf_ M Se 5) j = b2_ (q (it_ M (rf_ M b 0) j) && meC_ M cd C (it_ M (rf_ M b 0) j))) → (∀ j, i ≤ j → j < k → it_ M2 (rf_ M Se 5) j = b2_ (q (it_ M (rf_ M b 0) j))) →
      it_ M2 Se 6 = nI s → s = ((rl_ M b i).filter (fun x => q x && meC_ M cd C x)).length + ((sg_ (it_ M (rf_ M b 0)) i (k - i)).filter q).length → lp_X6_narrow_3 Se b cd C K E n (nI i) M2 := by
  obtain ⟨s0, s5, s7, s8, s9⟩ := hs.sea hSe
  obtain ⟨b0, b1, bz⟩ := hs.blk hb
  obtain ⟨c0, c1⟩ := hs.col hC
  have hk6 := hB.2.1
  have n5 : rf_ M Se 5 ≠ Se := kd_ne s5.1 hSe (by decide)
  have no : ∀ a, kd_ M a ≠ 8 → kd_ M a ≠ 21 → ¬ (a = Se ∨ a = rf_ M Se 5) := fun a h1 h2 z => by
    rcases z with z | z
    · rw [z] at h1; exact h1 hSe
    · rw [z] at h2; exact h2 s5.1
  have nb := no b (by rw [hb]; decide) (by rw [hb]; decide)
  have nb0 := no (rf_ M b 0) (by rw [b0.1]; decide) (by rw [b0.1]; decide)
  have ncd := no cd (by rw [hcd]; decide) (by rw [hcd]; decide)
  have nC := no C (by rw [hC]; decide) (by rw [hC]; decide)
  have nc0 := no (rf_ M C 0) (by rw [c0.1]; decide) (by rw [c0.1]; decide)
  have nc1 : ¬ (rf_ M C 1 = Se ∨ rf_ M C 1 = rf_ M Se 5) := fun z => by
    rcases z with z | z
    · exact kd_ne c1.1 hSe (by decide) z
    · exact own_ne c1 s5 (Or.inl (kd_ne hC hSe (by decide))) z
  intro n
  induction n with
  | zero => intro i s M2 _ h; omega
  | succ n ih =>
    intro i s M2 hik hn hX hf hlt hge hsel hs2
    have q1 : i < k → k - (i + 1) < n := by omega
    unfold lp_X6_narrow_3
    rw [hX.rf, hX.rf, hX.rf, hX.rf, hX.kd, hX.kd, hX.kd, hX.kd, hX.ln, hX.ln, hX.ln, hX.ln, hX.it nb, hX.it nb0, hB.1, le_nI (by omega) (by omega), ix_nI (n := i) (by omega)]
    refine ⟨fun h => ?_, fun h => ?_⟩
    · have : i = k := by omega
      subst this
      refine hE M2 hX hf ⟨fun j hj => ?_, ?_⟩
      · rw [hX.rf, hX.rf, hX.it nb0]
        exact hlt j hj
      · unfold rl_
        rw [hX.rf, hsel, hs2]
        congr 1
        rw [Nat.sub_self]
        show _ + 0 = _
        rw [Nat.add_zero]
        congr 2
        exact sg_congr (fun j _ _ => (hX.it nb0 j).symm)
    have hi : i < k := by omega
    have hn' := q1 hi
    obtain ⟨r, hr, er⟩ := hB.2.2 i hi
    have v6 : vp_in (nI r) 600 := vi_ (by omega) (by decide)
    have eA : (rl_ M b (i + 1)).filter (fun x => q x && meC_ M cd C x) = (rl_ M b i).filter (fun x => q x && meC_ M cd C x) ++ (if (q (nI r) && meC_ M cd C (nI r)) = true then [nI r] else []) := by
      unfold rl_
      rw [sg_snoc, List.filter_append, Nat.zero_add, er, List.filter_cons, List.filter_nil]
    have eB : (sg_ (it_ M (rf_ M b 0)) i (k - i)).filter q = (if q (nI r) = true then [nI r] else []) ++ (sg_ (it_ M (rf_ M b 0)) (i + 1) (k - (i + 1))).filter q := by
      have : k - i = (k - (i + 1)) + 1 := by omega
      rw [this]
      simp only [sg_]
      rw [List.filter_cons, er]
      split <;> rfl
    have hgi := hge i (Nat.le_refl i) hi
    rw [er, ix_nI (n := r) (by omega), b0.2.1, s5.2.1, c0.2.1, c1.2.1, nI_p1, hgi]
    have lA := congrArg List.length eA
    have lB := congrArg List.length eB
    simp only [List.length_append] at lA lB
    rw [er]
    refine ⟨b0.1, vi_ (by omega) (by decide), s5.1, vi_ (by omega) (by decide), fun _ => ⟨fun h0 => ?_, fun h0 => ⟨c1.1, v6, fun hbz => ⟨c0.1, v6, sp_isMetBy (by rw [hX.kd]; exact hcd) hbz ?_⟩⟩⟩⟩
    · have hq : q (nI r) = false := b2_0.mp h0
      rw [hq] at lA lB
      refine ih (i + 1) s M2 (by omega) hn' hX hf (fun j hj => ?_) (fun j h1 h2 => hge j (by omega) h2) hsel ?_
      · by_cases e : j = i
        · subst e
          rw [hgi, er, hq]
          rfl
        · exact hlt j (by omega)
      · rw [hs2, lA, lB]
        simp
    · have hq : q (nI r) = true := by
        cases h9 : q (nI r)
        · rw [h9] at h0
          exact absurd rfl h0
        · rfl
      rw [hX.it ncd, hX.it ncd, hX.it nc1, hX.it nc0]
      intro _ _
      rw [hX.rf, hX.kd, hX.ln]
      have hmx : ∀ w, mF_ (it_ M cd 1) (it_ M cd 2) (it_ M (rf_ M C 1) r) (it_ M (rf_ M C 0) r) = w → meC_ M cd C (nI r) = decide (w ≠ 0) := fun w e => by
        unfold meC_
        rw [ix_nI (by omega), e]
      refine ⟨fun hz => ⟨s5.1, by rw [s5.2.1]; exact vi_ (by omega) (by decide), fun M26 e26 M27 e27 => ?_⟩, fun hz => ?_⟩
      · have hme : meC_ M cd C (nI r) = false := by rw [hmx _ hz]; rfl
        rw [hq, hme] at lA
        rw [hq] at lB
        simp only [Bool.and_false, Bool.false_eq_true, if_false, if_true, List.length_nil, List.length_singleton] at lA lB
        subst e26
        rw [it_sIa n5.symm] at e27
        have X27 : Ex_ (fun a => a = Se ∨ a = rf_ M Se 5) M M27 := by
          rw [e27]
          exact (hX.tr (Ex_.sI _ _ _ (Or.inr rfl))).tr (Ex_.sI _ _ _ (Or.inl rfl))
        refine ih (i + 1) (s - 1) M27 (by omega) hn' X27 (fun j hj => ?_) (fun j hj => ?_) (fun j h1 h2 => ?_) ?_ (by omega)
        · rw [e27, it_sIk hj, it_sIa n5.symm]
          exact hf j hj
        · rw [e27, it_sIa n5]
          by_cases e : j = i
          · subst e
            rw [it_sIs, er, hq, hme]
            rfl
          · rw [it_sIk e]
            exact hlt j (by omega)
        · rw [e27, it_sIa n5, it_sIk (by omega)]
          exact hge j (by omega) h2
        · rw [e27, it_sIs, hsel, nI_s1 (by omega)]
      · have hme : meC_ M cd C (nI r) = true := by
          rw [hmx _ rfl]
          exact decide_eq_true hz
        rw [hq, hme] at lA
        rw [hq] at lB
        simp only [Bool.and_true, if_true, List.length_singleton] at lA lB
        refine ih (i + 1) s M2 (by omega) hn' hX hf (fun j hj => ?_) (fun j h1 h2 => hge j (by omega) h2) hsel (by omega)
        by_cases e : j = i
        · subst e
          rw [hgi, er, hq, hme]
          rfl
        · exact hlt j (by omega)
theorem sp_narrow {K : Mm → Prop} {q : Int32 → Bool} (hs : SH_ ow M) (hSe : kd_ M Se = 8) (hb : kd_ M b = 2) (hcd : kd_ M cd = 4) (hC : kd_ M C = 3) (hR : R ≤ 600) (hB : BR_ M b k R) (hq : SL_ M Se b k q)
    (hK : ∀ M', Ex_ (fun a => a = Se ∨ a = rf_ M Se 5) M M' → (∀ j, j ≠ 6 → it_ M' Se j = it_ M Se j) → SL_ M' Se b k (fun x => q x && meC_ M cd C x) → K M') : wp_X6_narrow Se b cd C M K := by
  refine ⟨hSe, hb, hcd, hC, k + 1, lp_narrow_ok (E := fun M29 => Nk_ M M29 → K M29) hs hSe hb hcd hC hR hB (fun M' x1 x2 x3 _ => hK M' x1 x2 x3) (k + 1) 0 _ M (by omega) (by omega) (Ex_.refl _ _) (fun _ _ => rfl) (fun j hj => by omega) (fun j _ hj => hq.1 j hj) hq.2 ?_⟩
  show _ = 0 + _
  rw [Nat.zero_add]
  rfl
/-! collect -/
def FL_ (M : Mm) (Se : Nat) (L : List Int32) : Prop := it_ M Se 1 = nI (min 600 L.length) ∧ sg_ (it_ M (rf_ M Se 0)) 0 (min 600 L.length) = L.take 600
theorem FL_.full {L : List Int32} {x : Int32} (h : FL_ M Se L) (h6 : 600 ≤ L.length) : FL_ M Se (L ++ [x]) := by
  obtain ⟨h1, h2⟩ := h
  have e1 : min 600 (L ++ [x]).length = min 600 L.length := by
    rw [List.length_append]
    omega
  refine ⟨by rw [e1]; exact h1, ?_⟩
  rw [e1, h2, List.take_append_of_le_length h6]
theorem FL_.push {L : List Int32} {x : Int32} (h : FL_ M Se L) (hs : SH_ ow M) (hSe : kd_ M Se = 8) (h6 : L.length < 600) : FL_ (sI_ (sI_ M (rf_ M Se 0) L.length x) Se 1 (nI L.length + 1)) Se (L ++ [x]) := by
  obtain ⟨h1, h2⟩ := h
  have s0 := (hs.sea hSe).1
  have n0 : rf_ M Se 0 ≠ Se := kd_ne s0.1 hSe (by decide)
  have e0 : min 600 L.length = L.length := by omega
  have e1 : min 600 (L ++ [x]).length = L.length + 1 := by
    rw [List.length_append]
    simp
    omega
  refine ⟨by rw [it_sIs, e1, nI_p1], ?_⟩
  rw [e1]
  show sg_ (it_ (sI_ (sI_ M (rf_ M Se 0) L.length x) Se 1 (nI L.length + 1)) (rf_ M Se 0)) 0 (L.length + 1) = _
  rw [sg_snoc, Nat.zero_add, it_sIa n0, it_sIs, List.take_of_length_le (by simp; omega)]
  congr 1
  rw [e0, List.take_of_length_le (by omega)] at h2
  rw [← h2, sg_len]
  refine sg_congr (fun j _ hj => ?_)
  rw [it_sIa n0, it_sIk (by omega)]
theorem lp_collect_ok {K E : Mm → Prop} {x3 : Int32} {h : Int32 → Bool} {L : List Int32} (hs : SH_ ow M) (hSe : kd_ M Se = 8) (hT : kd_ M T = 10) (hb : kd_ M b = 2) (hR : R ≤ 600) (hB : BR_ M b k R) (hh : x3 = 0 → ∀ j, j < k → it_ M (rf_ M Se 7) j = b2_ (h (it_ M (rf_ M b 0) j)))
    (hE : ∀ M', Ex_ (fun a => a = Se ∨ a = rf_ M Se 0) M M' → (∀ j, j ≠ 1 → it_ M' Se j = it_ M Se j) → FL_ M' Se (L ++ (rl_ M b k).filter (fun x => alB_ M T x && (decide (x3 ≠ 0) || h x))) → E M') :
    ∀ (n i : Nat) (M2 : Mm), i ≤ k → k - i < n → Ex_ (fun a => a = Se ∨ a = rf_ M Se 0) M M2 → (∀ j, j ≠ 1 → it_ M2 Se j = it_ M Se j) → FL_ M2 Se (L ++ (rl_ M b i).filter (fun x => alB_ M T x && (decide (x3 ≠ 0) || h x))) → lp_X6_collect_3 Se T b x3 K E n (nI i) M2 := by
  obtain ⟨s0, s5, s7, s8, s9⟩ := hs.sea hSe
  obtain ⟨b0, b1, bz⟩ := hs.blk hb
  obtain ⟨t0, t1, t2, t3, t4, t5⟩ := hs.tab hT
  have hk6 := hB.2.1
  have n0 : rf_ M Se 0 ≠ Se := kd_ne s0.1 hSe (by decide)
  have no : ∀ a, kd_ M a ≠ 8 → kd_ M a ≠ 20 → ¬ (a = Se ∨ a = rf_ M Se 0) := fun a h1 h2 z => by
    rcases z with z | z
    · rw [z] at h1; exact h1 hSe
    · rw [z] at h2; exact h2 s0.1
  have nb := no b (by rw [hb]; decide) (by rw [hb]; decide)
  have n7 := no (rf_ M Se 7) (by rw [s7.1]; decide) (by rw [s7.1]; decide)
  have n2 := no (rf_ M T 2) (by rw [t2.1]; decide) (by rw [t2.1]; decide)
  have nb0 : ¬ (rf_ M b 0 = Se ∨ rf_ M b 0 = rf_ M Se 0) := fun z => by
    rcases z with z | z
    · exact kd_ne b0.1 hSe (by decide) z
    · exact own_ne b0 s0 (Or.inl (kd_ne hb hSe (by decide))) z
  intro n
  induction n with
  | zero => intro i M2 _ h; omega
  | succ n ih =>
    intro i M2 hik hn hX hf hL
    have q1 : i < k → k - (i + 1) < n := by omega
    unfold lp_X6_collect_3
    rw [hX.rf, hX.rf, hX.rf, hX.rf, hX.kd, hX.kd, hX.kd, hX.kd, hX.ln, hX.ln, hX.ln, hX.ln, hX.it nb, hX.it nb0, hB.1, le_nI (by omega) (by omega), ix_nI (n := i) (by omega)]
    refine ⟨fun hki => ?_, fun hki => ?_⟩
    · have : i = k := by omega
      subst this
      exact hE M2 hX hf hL
    have hi : i < k := by omega
    have hn' := q1 hi
    obtain ⟨r, hr, er⟩ := hB.2.2 i hi
    have v6 : vp_in (nI r) 600 := vi_ (by omega) (by decide)
    rw [er, ix_nI (n := r) (by omega), b0.2.1, s7.2.1, t2.2.1, s0.2.1, nI_p1, hX.it n2, hX.it n7]
    have eA : L ++ (rl_ M b (i + 1)).filter (fun x => alB_ M T x && (decide (x3 ≠ 0) || h x)) = (L ++ (rl_ M b i).filter (fun x => alB_ M T x && (decide (x3 ≠ 0) || h x))) ++ (if (alB_ M T (nI r) && (decide (x3 ≠ 0) || h (nI r))) = true then [nI r] else []) := by
      unfold rl_
      rw [sg_snoc, List.filter_append, Nat.zero_add, er, List.filter_cons, List.filter_nil, List.append_assoc]
    have eal : alB_ M T (nI r) = decide (it_ M (rf_ M T 2) r ≠ 0) := by
      unfold alB_ lv_f
      rw [ix_nI (by omega)]
    have skip : (alB_ M T (nI r) && (decide (x3 ≠ 0) || h (nI r))) = false → lp_X6_collect_3 Se T b x3 K E n (nI (i + 1)) M2 := fun e => by
      refine ih (i + 1) M2 (by omega) hn' hX hf ?_
      rw [eA, e, if_neg (by decide), List.append_nil]
      exact hL
    have put : (alB_ M T (nI r) && (decide (x3 ≠ 0) || h (nI r))) = true → (((600 : Int32) ≤ (it_ M2 Se 1) → lp_X6_collect_3 Se T b x3 K E n (nI (i + 1)) M2) ∧ (¬ (600 : Int32) ≤ (it_ M2 Se 1) → (kd_ M (rf_ M Se 0) = 20 ∧ (vp_in (it_ M2 Se 1) 600 ∧ (∀ M21, M21 = sI_ M2 (rf_ M Se 0) (ix_ (it_ M2 Se 1)) (nI r) → (∀ M22, M22 = sI_ M21 Se 1 ((it_ M21 Se 1) + (1 : Int32)) → lp_X6_collect_3 Se T b x3 K E n (nI (i + 1)) M22)))))) := fun e => by
      rw [e, if_pos rfl] at eA
      obtain ⟨hl1, hl2⟩ := id hL
      have hmin : ∀ l : Nat, min 600 l ≤ 600 := fun l => by omega
      have hm := hmin (L ++ (rl_ M b i).filter (fun x => alB_ M T x && (decide (x3 ≠ 0) || h x))).length
      have hS2 : kd_ M2 Se = 8 := by rw [hX.kd]; exact hSe
      refine ⟨fun z => ?_, fun z => ⟨s0.1, ?_, fun M21 e21 M22 e22 => ?_⟩⟩
      · rw [hl1] at z
        have z := (le_nI (a := 600) (by omega) (by omega)).mp z
        refine ih (i + 1) M2 (by omega) hn' hX hf ?_
        rw [eA]
        exact hL.full (by omega)
      · rw [hl1] at z ⊢
        have z : ¬ 600 ≤ _ := fun y => z ((le_nI (a := 600) (by omega) (by omega)).mpr y)
        exact vi_ (by omega) (by decide)
      · rw [hl1] at z e21
        have z : ¬ 600 ≤ _ := fun y => z ((le_nI (a := 600) (by omega) (by omega)).mpr y)
        have em : min 600 (L ++ (rl_ M b i).filter (fun x => alB_ M T x && (decide (x3 ≠ 0) || h x))).length = (L ++ (rl_ M b i).filter (fun x => alB_ M T x && (decide (x3 ≠ 0) || h x))).length := by omega
        have e1 : it_ M21 Se 1 = nI (L ++ (rl_ M b i).filter (fun x => alB_ M T x && (decide (x3 ≠ 0) || h x))).length := by rw [e21, it_sIa n0.symm, hl1, em]
        rw [em, ix_nI (by omega)] at e21
        rw [e1, e21] at e22
        have hp := hL.push (x := nI r) (hX.1.sh hs) hS2 (by omega)
        rw [hX.rf, ← e22] at hp
        refine ih (i + 1) M22 (by omega) hn' ?_ (fun j hj => ?_) (by rw [eA]; exact hp)
        · rw [e22]
          exact (hX.tr (Ex_.sI _ _ _ (Or.inr rfl))).tr (Ex_.sI _ _ _ (Or.inl rfl))
        · rw [e22, it_sIk hj, it_sIa n0.symm]
          exact hf j hj
    refine ⟨b0.1, vi_ (by omega) (by decide), t2.1, v6, fun _ => ⟨fun h0 => skip ?_, fun h0 => ⟨fun h3 => ⟨s7.1, vi_ (by omega) (by decide), fun _ => ⟨fun h7 => skip ?_, fun h7 => put ?_⟩⟩, fun h3 => put ?_⟩⟩⟩
    · rw [eal, decide_eq_false (fun z => z h0)]
      rfl
    · rw [hh h3 i hi, er] at h7
      rw [b2_0.mp h7, decide_eq_false (fun z => z h3)]
      simp
    · rw [hh h3 i hi, er] at h7
      have : h (nI r) = true := by
        cases h9 : h (nI r)
        · rw [h9] at h7
          exact absurd rfl h7
        · rfl
      rw [eal, decide_eq_true h0, this]
      simp
    · rw [eal, decide_eq_true h0, decide_eq_true h3]
      rfl
theorem sp_collect {K : Mm → Prop} {x3 : Int32} {h : Int32 → Bool} {L : List Int32} (hs : SH_ ow M) (hSe : kd_ M Se = 8) (hT : kd_ M T = 10) (hb : kd_ M b = 2) (hR : R ≤ 600) (hB : BR_ M b k R) (hh : x3 = 0 → ∀ j, j < k → it_ M (rf_ M Se 7) j = b2_ (h (it_ M (rf_ M b 0) j))) (hL : FL_ M Se L)
    (hK : ∀ M', Ex_ (fun a => a = Se ∨ a = rf_ M Se 0) M M' → (∀ j, j ≠ 1 → it_ M' Se j = it_ M Se j) → FL_ M' Se (L ++ (rl_ M b k).filter (fun x => alB_ M T x && (decide (x3 ≠ 0) || h x))) → K M') : wp_X6_collect Se T b x3 M K := by
  refine ⟨hSe, hT, hb, k + 1, lp_collect_ok (E := fun M24 => Nk_ M M24 → K M24) hs hSe hT hb hR hB hh (fun M' x1 x2 x3 _ => hK M' x1 x2 x3) (k + 1) 0 M (by omega) (by omega) (Ex_.refl _ _) (fun _ _ => rfl) ?_⟩
  show FL_ M Se (L ++ [])
  rw [List.append_nil]
  exact hL
/-! costIn -/
theorem xF0_2 (t v cn nc dc lo hi form : Int32) : xF_ t v cn nc dc lo hi form 0 ≠ 2 := by
  unfold xF_ fF_
  rw [if_pos (show (0 : Int32) = 0 from rfl)]
  repeat' split
  all_goals decide
theorem sp_costIn {K : Mm → Int32 → Prop} {z s rn dc : Nat} (hs : SH_ ow M) (hSe : kd_ M Se = 8) (hz : kd_ M z = 11) (hcd : kd_ M cd = 4) (hC : kd_ M C = 3) (hs6 : it_ M Se 6 = nI s) (hrn : it_ M z 3 = nI rn) (hdc : it_ M z 2 = nI dc) (hrn6 : rn ≤ 600) (hdc6 : dc ≤ 600) (hK : ∀ v, (it_ M Se 4 = 0 → v = nI (cfN_ M z cd s)) → K M v) : wp_X6_costIn Se z cd C M K := by
  have z7 := hs.zon hz
  have ecf : ∀ f : Int32, (xF_ (it_ M cd 1) (it_ M cd 2) (it_ M z 0) (it_ M z 1) (it_ M z 2) (it_ M z 4) (it_ M z 5) (it_ M z 6) 0 = 0 → nI (cfN_ M z cd s) = 0) ∧ (xF_ (it_ M cd 1) (it_ M cd 2) (it_ M z 0) (it_ M z 1) (it_ M z 2) (it_ M z 4) (it_ M z 5) (it_ M z 6) 0 = 1 → nI (cfN_ M z cd s) = 0) ∧ (xF_ (it_ M cd 1) (it_ M cd 2) (it_ M z 0) (it_ M z 1) (it_ M z 2) (it_ M z 4) (it_ M z 5) (it_ M z 6) 0 = 3 → nI (cfN_ M z cd s) = it_ M z 3) ∧ (xF_ (it_ M cd 1) (it_ M cd 2) (it_ M z 0) (it_ M z 1) (it_ M z 2) (it_ M z 4) (it_ M z 5) (it_ M z 6) 0 = 4 → nI (cfN_ M z cd s) = it_ M z 2 + it_ M Se 6) := fun _ => by
    unfold cfN_
    refine ⟨fun e => ?_, fun e => ?_, fun e => ?_, fun e => ?_⟩
    · rw [if_pos e]; rfl
    · rw [e, if_neg (by decide), if_pos rfl]; rfl
    · rw [e, if_neg (by decide), if_neg (by decide), if_pos rfl, hrn, ix_nI (by omega)]
    · rw [e, if_neg (by decide), if_neg (by decide), if_neg (by decide), if_pos rfl, hdc, ix_nI (by omega), hs6, nI_add]
  have any : ∀ f : Int32, it_ M Se 4 ≠ 0 → wp_X2_methodIn cd z f M (fun M3 r4 => Nk_ M M3 → ((r4 = 0 → (K M3 (0 : Int32))) ∧ (r4 = 1 → (K M3 (0 : Int32))) ∧ (r4 = 2 → (wp_X9_bitmapsFor z cd M3 (fun M15 r16 => Nk_ M3 M15 → (K M15 r16)))) ∧ (r4 = 3 → (K M3 (it_ M3 z 3))) ∧ (r4 = 4 → (K M3 ((it_ M3 z 2) + (it_ M3 Se 6)))) ∧ (¬ r4 = 0 → ¬ r4 = 1 → ¬ r4 = 2 → ¬ r4 = 3 → ¬ r4 = 4 → (K M3 (it_ M3 Se 6))))) := fun f hf => sp_methodIn hcd hz (fun _ => ⟨fun _ => hK _ (fun e => absurd e hf), fun _ => hK _ (fun e => absurd e hf), fun _ => sp_bitmapsFor (k := 0) hz hcd z7.1 z7.2.1 (fun _ _ _ => hK _ (fun e => absurd e hf)), fun _ => hK _ (fun e => absurd e hf), fun _ => hK _ (fun e => absurd e hf), fun _ _ _ _ _ => hK _ (fun e => absurd e hf)⟩)
  refine ⟨hSe, hz, hcd, hC, fun _ => ⟨fun h0 => sp_methodIn hcd hz (fun _ => ⟨fun e => hK _ (fun _ => ((ecf 0).1 e).symm), fun e => hK _ (fun _ => ((ecf 0).2.1 e).symm), fun e => absurd e (xF0_2 _ _ _ _ _ _ _ _), fun e => hK _ (fun _ => ((ecf 0).2.2.1 e).symm), fun e => hK _ (fun _ => ((ecf 0).2.2.2 e).symm), fun e0 e1 e2 e3 e4 => hK _ (fun _ => ?_)⟩), fun h0 => fun _ => ⟨fun _ => any 0 h0, fun _ => any 1 h0⟩⟩⟩
  unfold cfN_
  rw [if_neg e0, if_neg e1, if_neg e3, if_neg e4]
  exact hs6
/-! orderConditions -/
theorem nI_m1 {a : Nat} (h : 0 < a) : nI a + (-1 : Int32) = nI (a - 1) := by
  rw [← nI_s1 h]
  exact (Int32.sub_eq_add_neg _ _).symm
theorem lp_place_ok {K : Mm → Prop} {E : Int32 → Mm → Prop} {x3 x4 x6 : Int32} {G' : Nat → Int32} {O : Nat → Nat} {k : Nat} (hs : SH_ ow M) (hSe : kd_ M Se = 8) (hk : k < 4)
    (hE : ∀ M', Ex_ (fun a => a = rf_ M Se 8 ∨ a = rf_ M Se 9) M M' → (∀ j, j < po_ G' x6 k → it_ M' (rf_ M Se 9) j = G' j ∧ it_ M' (rf_ M Se 8) j = nI (O j)) → (∀ j, po_ G' x6 k < j → j ≤ k → it_ M' (rf_ M Se 9) j = G' (j - 1) ∧ it_ M' (rf_ M Se 8) j = nI (O (j - 1))) → E (nI (po_ G' x6 k)) M') :
    ∀ (n a : Nat) (M2 : Mm), a ≤ k → a < n → po_ G' x6 k = po_ G' x6 a → Ex_ (fun a => a = rf_ M Se 8 ∨ a = rf_ M Se 9) M M2 → (∀ j, j < a → it_ M2 (rf_ M Se 9) j = G' j ∧ it_ M2 (rf_ M Se 8) j = nI (O j)) → (∀ j, a < j → j ≤ k → it_ M2 (rf_ M Se 9) j = G' (j - 1) ∧ it_ M2 (rf_ M Se 8) j = nI (O (j - 1))) → lp_X6_orderConditions_50 Se G b x3 x4 x6 K E n (nI a) M2 := by
  obtain ⟨s0, s5, s7, s8, s9⟩ := hs.sea hSe
  have n89 : rf_ M Se 8 ≠ rf_ M Se 9 := own_ne s8 s9 (Or.inr (by decide))
  intro n
  induction n with
  | zero => intro a M2 _ h; omega
  | succ n ih =>
    intro a M2 hak hn hp hX hlt hgt
    unfold lp_X6_orderConditions_50
    rw [hX.rf, hX.rf, hX.kd, hX.kd, hX.ln, hX.ln, s8.2.1, s9.2.1, show (0 : Int32) = nI 0 from rfl, le_nI (by omega) (by omega)]
    refine ⟨fun h => ?_, fun h => ?_⟩
    · have : a = 0 := by omega
      subst this
      have e0 : po_ G' x6 k = 0 := hp
      have := hE M2 hX (fun j hj => by omega) (fun j h1 h2 => hgt j (by omega) h2)
      rw [e0] at this
      exact this
    obtain ⟨a', rfl⟩ : ∃ a', a = a' + 1 := ⟨a - 1, by omega⟩
    rw [nI_s1 (by omega), nI_m1 (by omega), show a' + 1 - 1 = a' by omega, ix_nI (n := a') (by omega), ix_nI (n := a' + 1) (by omega), (hlt a' (by omega)).1]
    have v1 : vp_in (nI a') 4 := vi_ (by omega) (by decide)
    have v2 : vp_in (nI (a' + 1)) 4 := vi_ (by omega) (by decide)
    refine ⟨s9.1, v1, fun hle => ?_, fun hle => ⟨v1, v2, fun M12 e12 => ⟨s8.1, v1, v2, fun M16 e16 => ?_⟩⟩⟩
    · have e1 : po_ G' x6 (a' + 1) = a' + 1 := if_pos hle
      rw [← e1, ← hp]
      exact hE M2 hX (fun j hj => hlt j (by omega)) (fun j h1 h2 => hgt j (by omega) h2)
    · have e1 : po_ G' x6 (a' + 1) = po_ G' x6 a' := if_neg hle
      subst e12
      rw [it_sIa n89, (hlt a' (by omega)).2] at e16
      subst e16
      refine ih a' _ (by omega) (by omega) (hp.trans e1) ((hX.tr (Ex_.sI _ _ _ (Or.inr rfl))).tr (Ex_.sI _ _ _ (Or.inl rfl))) (fun j hj => ?_) (fun j h1 h2 => ?_)
      · rw [it_sIa n89.symm, it_sIk (by omega), it_sIk (by omega), it_sIa n89]
        exact hlt j (by omega)
      · by_cases e : j = a' + 1
        · rw [e, it_sIa n89.symm, it_sIs, it_sIs, show a' + 1 - 1 = a' by omega]
          exact ⟨rfl, rfl⟩
        · rw [it_sIa n89.symm, it_sIk e, it_sIk e, it_sIa n89]
          exact hgt j (by omega) h2
theorem lp_order_ok {K E : Mm → Prop} {fr : Int32} (hs : SH_ ow M) (hSe : kd_ M Se = 8) (hG : kd_ M G = 5) (hb : kd_ M b = 2) (hn4 : n ≤ 4) (hn : it_ M G 1 = nI n) (hnc : nc ≤ 8) (hcd : ∀ k, k < n → ∃ c, c < nc ∧ it_ M (cg_ M G k) 0 = nI c)
    (hE : ∀ M', Ex_ (fun a => a = rf_ M Se 8 ∨ a = rf_ M Se 9) M M' → (∀ j, j < n → it_ M' (rf_ M Se 8) j = nI (oO_ (fun k => gsB_ M b fr (cg_ M G k)) n j)) → E M') :
    ∀ (f k : Nat) (M2 : Mm), k ≤ n → n - k < f → Ex_ (fun a => a = rf_ M Se 8 ∨ a = rf_ M Se 9) M M2 → (∀ j, j < k → it_ M2 (rf_ M Se 9) j = oG_ (fun k => gsB_ M b fr (cg_ M G k)) k j ∧ it_ M2 (rf_ M Se 8) j = nI (oO_ (fun k => gsB_ M b fr (cg_ M G k)) k j)) → lp_X6_orderConditions_3 Se G b fr K E f (nI k) M2 := by
  obtain ⟨s0, s5, s7, s8, s9⟩ := hs.sea hSe
  obtain ⟨b0, b1, bz⟩ := hs.blk hb
  obtain ⟨g0, gk⟩ := hs.grp hG
  have n89 : rf_ M Se 8 ≠ rf_ M Se 9 := own_ne s8 s9 (Or.inr (by decide))
  have no : ∀ a, kd_ M a ≠ 20 → ¬ (a = rf_ M Se 8 ∨ a = rf_ M Se 9) := fun a h z => by
    rcases z with z | z
    · rw [z, s8.1] at h; exact h rfl
    · rw [z, s9.1] at h; exact h rfl
  have nG := no G (by rw [hG]; decide)
  intro f
  induction f with
  | zero => intro k M2 _ h; omega
  | succ f ih =>
    intro k M2 hkn hf hX harr
    have q1 : k < n → n - (k + 1) < f := by omega
    unfold lp_X6_orderConditions_3
    rw [hX.it nG, hn, le_nI (by omega) (by omega)]
    refine ⟨fun h => ?_, fun h => ?_⟩
    · have : k = n := by omega
      subst this
      exact hE M2 hX (fun j hj => (harr j hj).2)
    have hk : k < n := by omega
    have hk4 : k < 4 := by omega
    have kcd := (gk k hk4).1
    obtain ⟨c, hc, ec⟩ := hcd k hk
    have ncd := no (cg_ M G k) (by unfold cg_; rw [kcd]; decide)
    unfold cg_ at ec ncd
    have hz := (bz c (by omega)).1
    have nz := no (rf_ M (rf_ M b 1) c) (by rw [hz]; decide)
    rw [ix_nI (n := k) (by omega)]
    -- what follows behind the place
    have fin : ∀ (g : Int32) (M3 : Mm), g = gsB_ M b fr (cg_ M G k) → Ex_ (fun a => a = rf_ M Se 8 ∨ a = rf_ M Se 9) M M3 → (∀ j, j < k → it_ M3 (rf_ M Se 9) j = oG_ (fun k => gsB_ M b fr (cg_ M G k)) k j ∧ it_ M3 (rf_ M Se 8) j = nI (oO_ (fun k => gsB_ M b fr (cg_ M G k)) k j)) → ∃ n17 : Nat, lp_X6_orderConditions_50 Se G b fr (nI k) g K (fun xv20 M18 => Nk_ M3 M18 → (kd_ M18 (rf_ M18 Se 9) = 20 ∧ (vp_in xv20 (ln_ M18 (rf_ M18 Se 9)) ∧ (∀ M27, M27 = sI_ M18 (rf_ M18 Se 9) (ix_ xv20) g → (kd_ M18 (rf_ M18 Se 8) = 20 ∧ (vp_in xv20 (ln_ M18 (rf_ M18 Se 8)) ∧ (∀ M30, M30 = sI_ M27 (rf_ M18 Se 8) (ix_ xv20) (nI k) → lp_X6_orderConditions_3 Se G b fr K E f ((nI k) + (1 : Int32)) M30))))))) n17 (nI k) M3 := by
      intro g M3 eg X3 arr3
      have hp := po_le (oG_ (fun k => gsB_ M b fr (cg_ M G k)) k) g k
      refine ⟨k + 1, lp_place_ok (M := M) (G' := oG_ (fun k => gsB_ M b fr (cg_ M G k)) k) (O := oO_ (fun k => gsB_ M b fr (cg_ M G k)) k) hs hSe hk4 (fun M18 X18 a1 a2 _ => ?_) (k + 1) k M3 (Nat.le_refl k) (by omega) rfl X3 arr3 (fun j h1 h2 => by omega)⟩
      rw [X18.rf, X18.rf, X18.kd, X18.kd, X18.ln, X18.ln, s8.2.1, s9.2.1, ix_nI (by omega), nI_p1]
      refine ⟨s9.1, vi_ (by omega) (by decide), fun M27 e27 => ⟨s8.1, vi_ (by omega) (by decide), fun M30 e30 => ?_⟩⟩
      subst e27
      subst e30
      refine ih (k + 1) _ (by omega) (q1 hk) ((X18.tr (Ex_.sI _ _ _ (Or.inr rfl))).tr (Ex_.sI _ _ _ (Or.inl rfl))) (fun j hj => ?_)
      have eG : oG_ (fun k => gsB_ M b fr (cg_ M G k)) (k + 1) j = if j < po_ (oG_ (fun k => gsB_ M b fr (cg_ M G k)) k) g k then oG_ (fun k => gsB_ M b fr (cg_ M G k)) k j else if j = po_ (oG_ (fun k => gsB_ M b fr (cg_ M G k)) k) g k then g else oG_ (fun k => gsB_ M b fr (cg_ M G k)) k (j - 1) := by
        rw [eg]
        rfl
      have eO : oO_ (fun k => gsB_ M b fr (cg_ M G k)) (k + 1) j = if j < po_ (oG_ (fun k => gsB_ M b fr (cg_ M G k)) k) g k then oO_ (fun k => gsB_ M b fr (cg_ M G k)) k j else if j = po_ (oG_ (fun k => gsB_ M b fr (cg_ M G k)) k) g k then k else oO_ (fun k => gsB_ M b fr (cg_ M G k)) k (j - 1) := by
        rw [eg]
        rfl
      rw [eG, eO, it_sIa n89.symm]
      by_cases h1 : j < po_ (oG_ (fun k => gsB_ M b fr (cg_ M G k)) k) g k
      · rw [if_pos h1, if_pos h1, it_sIk (by omega), it_sIk (by omega), it_sIa n89]
        exact a1 j h1
      · rw [if_neg h1, if_neg h1]
        by_cases h2 : j = po_ (oG_ (fun k => gsB_ M b fr (cg_ M G k)) k) g k
        · rw [if_pos h2, if_pos h2, h2, it_sIs, it_sIs]
          exact ⟨rfl, rfl⟩
        · rw [if_neg h2, if_neg h2, it_sIk h2, it_sIk h2, it_sIa n89]
          exact a2 j (by omega) (by omega)
    rw [hX.rf G 0, hX.kd, hX.ln, hX.rf (rf_ M G 0) k, hX.kd, g0.2.1]
    refine ⟨g0.1, vi_ (by omega) (by decide), kcd, fun h0 => ?_, fun h0 => ?_⟩
    · exact fin 0 M2 (by unfold gsB_; rw [if_pos h0]) hX harr
    · rw [hX.it ncd, ec, ix_nI (n := c) (by omega), hX.rf b 1, hX.kd, hX.ln, hX.rf (rf_ M b 1) c, hX.kd, b1.2.1]
      refine ⟨b1.1, vi_ (by omega) (by decide), hz, sp_guess (by rw [hX.kd]; exact kcd) (by rw [hX.kd]; exact hz) (fun _ => ?_)⟩
      rw [hX.it ncd, hX.it ncd, hX.it nz, hX.it nz, hX.it nz, hX.it nz, hX.it nz]
      refine fin _ M2 ?_ hX harr
      unfold gsB_ gsN_ zc_ cg_
      rw [if_neg h0, ec, ix_nI (n := c) (by omega)]
theorem sp_order {K : Mm → Prop} {fr : Int32} (hs : SH_ ow M) (hSe : kd_ M Se = 8) (hG : kd_ M G = 5) (hb : kd_ M b = 2) (hn4 : n ≤ 4) (hn : it_ M G 1 = nI n) (hnc : nc ≤ 8) (hcd : ∀ k, k < n → ∃ c, c < nc ∧ it_ M (cg_ M G k) 0 = nI c)
    (hK : ∀ M', Ex_ (fun a => a = rf_ M Se 8 ∨ a = rf_ M Se 9) M M' → (∀ j, j < n → it_ M' (rf_ M Se 8) j = nI (oO_ (fun k => gsB_ M b fr (cg_ M G k)) n j)) → K M') : wp_X6_orderConditions Se G b fr M K := ⟨hSe, hG, hb, n + 1, lp_order_ok (E := fun M57 => Nk_ M M57 → K M57) hs hSe hG hb hn4 hn hnc hcd (fun M' x1 x2 _ => hK M' x1 x2) (n + 1) 0 M (by omega) (by omega) (Ex_.refl _ _) (fun j hj => by omega)⟩
end ST
