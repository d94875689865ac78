/-! Zone.countRuns, Zone.reckon -/
def rq_ (l v : Nat → Int32) (s : Nat → Nat) (i rn : Nat) : Prop := rn ≤ i ∧ (0 < i → 1 ≤ rn) ∧ ∀ D : List Int, D.Nodup → (∀ d ∈ D, ∃ j, j < i ∧ l (s j) = 0 ∧ (v (s j)).toInt = d) → D.length ≤ rn
theorem rq_0 (l v : Nat → Int32) (s : Nat → Nat) : rq_ l v s 0 0 := ⟨Nat.le_refl _, fun h => by omega, fun D _ h => by
  cases D with
  | nil => exact Nat.le_refl _
  | cons d D =>
    obtain ⟨j, h1, -⟩ := h d List.mem_cons_self
    omega⟩
theorem rq_same {l v : Nat → Int32} {s : Nat → Nat} {i rn : Nat} (hi : 0 < i) (h : rq_ l v s i rn) (hl : l (s (i - 1)) = l (s i)) (hv : v (s (i - 1)) = v (s i)) : rq_ l v s (i + 1) rn := by
  refine ⟨by have := h.1; omega, fun _ => h.2.1 hi, fun D h1 h2 => h.2.2 D h1 (fun d hd => ?_)⟩
  obtain ⟨j, g1, g2, g3⟩ := h2 d hd
  by_cases e : j = i
  · subst e
    exact ⟨j - 1, by omega, by rw [hl]; exact g2, by rw [hv]; exact g3⟩
  · exact ⟨j, by omega, g2, g3⟩
theorem rq_new {l v : Nat → Int32} {s : Nat → Nat} {i rn : Nat} (h : rq_ l v s i rn) : rq_ l v s (i + 1) (rn + 1) := by
  refine ⟨by have := h.1; omega, fun _ => by omega, fun D h1 h2 => ?_⟩
  have h3 := h.2.2 (D.erase (v (s i)).toInt) (h1.erase _) (fun d hd => by
    have hd2 := (List.Nodup.mem_erase_iff h1).mp hd
    obtain ⟨j, g1, g2, g3⟩ := h2 d hd2.2
    by_cases e : j = i
    · subst e
      exact absurd g3.symm hd2.1
    · exact ⟨j, by omega, g2, g3⟩)
  rw [List.length_erase] at h3
  split at h3 <;> omega
theorem lp_runs_ok {z C S k : Nat} {M : Mm} {K E : Mm → Prop} (h : Zh_ M z C) (hS : kd_ M S = 20) (hSl : k ≤ ln_ M S) (hSb : ln_ M S < 1000000) (hk : it_ M z 0 = nI k) (hkb : k ≤ 64) (hk0 : 0 < k) (hrow : ∀ j, j < k → ∃ r, it_ M S j = nI r ∧ r < 600)
    (hE : ∀ M' rn, Ex_ (fun b => b = z) M M' → (∀ j, j ≠ 3 → it_ M' z j = it_ M z j) → it_ M' z 3 = nI rn → rq_ (it_ M (rf_ M C 1)) (it_ M (rf_ M C 0)) (fun j => ix_ (it_ M S j)) k rn → E M') :
    ∀ (n i rn : Nat) (M2 : Mm), 1 ≤ i → i ≤ k → k - i < n → Ex_ (fun b => b = z) M M2 → (∀ j, j ≠ 3 → it_ M2 z j = it_ M z j) → it_ M2 z 3 = nI rn → rq_ (it_ M (rf_ M C 1)) (it_ M (rf_ M C 0)) (fun j => ix_ (it_ M S j)) i rn →
      lp_X9_countRuns_23 z C S K E n (nI i) M2 := by
  obtain ⟨z1, z2, z3, c1, c2, c3, c4, c5, c6⟩ := id h
  have hzS : S ≠ z := fun e => by rw [e] at hS; omega
  have hcz : rf_ M C 0 ≠ z := fun e => by rw [e] at c2; omega
  have hlz : rf_ M C 1 ≠ z := fun e => by rw [e] at c4; omega
  intro n
  induction n with
  | zero => intro i rn M2 _ _ h; omega
  | succ n ih =>
    intro i rn M2 hi1 hik hn hX hf hrn hrq
    have er : ∀ a k, rf_ M2 a k = rf_ M a k := fun a k => hX.rf a k
    have eS : ∀ k, it_ M2 S k = it_ M S k := fun k => hX.it hzS k
    have ev : ∀ k, it_ M2 (rf_ M C 0) k = it_ M (rf_ M C 0) k := fun k => hX.it hcz k
    have el : ∀ k, it_ M2 (rf_ M C 1) k = it_ M (rf_ M C 1) k := fun k => hX.it hlz k
    have hri : rn ≤ i := hrq.1
    unfold lp_X9_countRuns_23
    rw [hf 0 (by decide), hk, le_nI (by omega) (by omega), nI_s1 hi1, nI_p1, ix_nI (n := i) (by omega), ix_nI (n := i - 1) (by omega)]
    refine ⟨fun hc => ?_, fun hc => ?_⟩
    · have : i = k := by omega
      subst this
      exact hE M2 rn hX hf hrn hrq
    obtain ⟨r, hr, hr6⟩ := hrow i (by omega)
    obtain ⟨q, hq, hq6⟩ := hrow (i - 1) (by omega)
    have hvS : vp_in (nI i) (ln_ M S) := vi_ (by omega) (by omega)
    have hvS1 : vp_in (nI (i - 1)) (ln_ M S) := vi_ (by omega) (by omega)
    have tail : ∀ (Mx : Mm) (rx : Nat), Ex_ (fun b => b = z) M Mx → (∀ j, j ≠ 3 → it_ Mx z j = it_ M z j) → it_ Mx z 3 = nI rx → rq_ (it_ M (rf_ M C 1)) (it_ M (rf_ M C 0)) (fun j => ix_ (it_ M S j)) (i + 1) rx →
        ∀ v : Int64, lp_X9_countRuns_23 z C S K E n (nI (i + 1)) (sL_ Mx z 8 v) := by
      intro Mx rx x1 x2 x3 x4 v
      exact ih (i + 1) rx _ (by omega) (by omega) (by omega) (x1.tr (Ex_.sL _ _ _ rfl)) x2 x3 x4
    rw [hX.ln, eS, eS, hr, hq]
    refine ⟨hvS1, hvS, ?_⟩
    have sm := @sp_isSame C q r M2
    simp only [er, hX.ln, hX.kd] at sm
    refine sm c1 c2 c4 c3 c5 hq6 hr6 (fun x hx _ _ => ⟨fun hx0 M17 e17 => ?_, fun hx0 => ?_⟩)
    · subst e17
      have e17S : ∀ j, it_ (sI_ M2 z 3 (it_ M2 z 3 + 1)) S j = it_ M S j := fun j => by rw [it_sIa hzS]; exact eS j
      rw [hX.ln, hX.kd, er, hX.ln, e17S, e17S, hr, hq, c3]
      have t := tail (sI_ M2 z 3 (it_ M2 z 3 + 1)) (rn + 1) (hX.tr (Ex_.sI _ _ _ rfl)) (fun j hj => by rw [it_sIk hj]; exact hf j hj) (by rw [it_sIs, hrn, nI_p1]) (rq_new hrq)
      exact ⟨c2, hvS, vi_ hr6 (by omega), hvS1, vi_ hq6 (by omega), fun _ M24 e24 => by subst e24; exact t _, fun _ M25 e25 => by subst e25; exact t _⟩
    · have hsame : it_ M (rf_ M C 1) q = it_ M (rf_ M C 1) r ∧ it_ M (rf_ M C 0) q = it_ M (rf_ M C 0) r := by
        rcases hx with ⟨-, e1, e2⟩ | ⟨e, -⟩
        · rw [el, el] at e1
          rw [ev, ev] at e2
          exact ⟨e1, e2⟩
        · exact absurd e hx0
      rw [hX.ln, hX.kd, er, hX.ln, eS, eS, hr, hq, c3]
      have t := tail M2 rn hX hf hrn (rq_same (s := fun j => ix_ (it_ M S j)) hi1 hrq (by show it_ M (rf_ M C 1) (ix_ (it_ M S (i - 1))) = it_ M (rf_ M C 1) (ix_ (it_ M S i)); rw [hq, hr, ix_nI (by omega), ix_nI (by omega)]; exact hsame.1) (by show it_ M (rf_ M C 0) (ix_ (it_ M S (i - 1))) = it_ M (rf_ M C 0) (ix_ (it_ M S i)); rw [hq, hr, ix_nI (by omega), ix_nI (by omega)]; exact hsame.2))
      exact ⟨c2, hvS, vi_ hr6 (by omega), hvS1, vi_ hq6 (by omega), fun _ M24 e24 => by subst e24; exact t _, fun _ M25 e25 => by subst e25; exact t _⟩
theorem sp_countRuns {z C S k : Nat} {M : Mm} {K : Mm → Prop} (h : Zh_ M z C) (hS : kd_ M S = 20) (hSl : k ≤ ln_ M S) (hSb : ln_ M S < 1000000) (hk : it_ M z 0 = nI k) (hkb : k ≤ 64) (hk0 : 0 < k) (hrow : ∀ j, j < k → ∃ r, it_ M S j = nI r ∧ r < 600)
    (hK : ∀ M' rn, Ex_ (fun b => b = z) M M' → (∀ j, j ≠ 3 → it_ M' z j = it_ M z j) → it_ M' z 3 = nI rn → rq_ (it_ M (rf_ M C 1)) (it_ M (rf_ M C 0)) (fun j => ix_ (it_ M S j)) k rn → K M') : wp_X9_countRuns z C S M K := by
  obtain ⟨z1, z2, z3, c1, c2, c3, c4, c5, c6⟩ := id h
  refine ⟨z1, c1, hS, fun h0 => ?_, fun _ M38 e38 M39 e39 => ⟨k + 1, ?_⟩⟩
  · rw [hk] at h0
    have := nI_inj (a := k) (b := 0) (by omega) (by omega) h0
    omega
  · subst e38
    subst e39
    exact lp_runs_ok (E := fun M40 => Nk_ (sL_ (sI_ M z 3 1) z 8 0) M40 → K M40) h hS hSl hSb hk hkb hk0 hrow (fun M' rn x1 x2 x3 x4 _ => hK M' rn x1 x2 x3 x4) (k + 1) 1 1 _ (by omega) (by omega) (by omega) ((Ex_.sI (A := fun b => b = z) _ _ _ rfl).tr (Ex_.sL _ _ _ rfl)) (fun j hj => it_sIk hj) (it_sIs _ _ _ _) (rq_new (rq_0 _ _ _))
/-- what a reckoned zone z says of the first k rows of the row ra in the column C -/
def Zn_ (M : Mm) (z ra k C : Nat) : Prop :=
  it_ M z 0 = nI k ∧ (∃ nc dc rn fm : Nat, it_ M z 1 = nI nc ∧ it_ M z 2 = nI dc ∧ it_ M z 3 = nI rn ∧ it_ M z 6 = nI fm ∧ nc + dc ≤ k ∧ 1 ≤ rn ∧ dc ≤ rn ∧ rn ≤ k ∧ fm_ok M z fm 5) ∧
  ∀ j r, j < k → it_ M ra j = nI r → r < 600 → it_ M (rf_ M C 1) r = 0 → (it_ M z 4).toInt ≤ (it_ M (rf_ M C 0) r).toInt ∧ (it_ M (rf_ M C 0) r).toInt ≤ (it_ M z 5).toInt
theorem sp_zreckon {z C ra S k : Nat} {M : Mm} {K : Mm → Prop} (h : Zh_ M z C) (hS : kd_ M S = 20) (hSl : k ≤ ln_ M S) (hSb : ln_ M S < 1000000) (hR : kd_ M ra = 20) (hRl : k ≤ ln_ M ra) (hRb : ln_ M ra < 1000000) (hkb : k ≤ 64) (hk0 : 0 < k) (hS7 : S ≠ rf_ M z 7) (hR7 : ra ≠ rf_ M z 7)
    (hrow : ∀ j, j < k → ∃ r, it_ M ra j = nI r ∧ r < 600)
    (hperm : sg_ (it_ M S) 0 k = ar_ (lk_ (ky_ 1 (it_ M (rf_ M C 1)) (it_ M (rf_ M C 0)))) (sg_ (it_ M ra) 0 k))
    (hK : ∀ M', Ex_ (fun b => b = z ∨ b = rf_ M z 7) M M' → Zn_ M' z ra k C → K M') : wp_X9_reckon z C ra S (nI k) M K := by
  obtain ⟨z1, z2, z3, c1, c2, c3, c4, c5, c6⟩ := id h
  have hzS : S ≠ z := fun e => by rw [e] at hS; omega
  have hzR : ra ≠ z := fun e => by rw [e] at hR; omega
  have hcz : rf_ M C 0 ≠ z := fun e => by rw [e] at c2; omega
  have hlz : rf_ M C 1 ≠ z := fun e => by rw [e] at c4; omega
  have hl7 : rf_ M C 1 ≠ rf_ M z 7 := fun e => by rw [e] at c4; omega
  have hmem : ∀ x, x ∈ sg_ (it_ M S) 0 k ↔ x ∈ sg_ (it_ M ra) 0 k := fun x => by rw [hperm]; exact (ar_perm _ _).mem_iff
  have hrowS : ∀ j, j < k → ∃ r, it_ M S j = nI r ∧ r < 600 := fun j hj => by
    obtain ⟨j2, -, g1, g2⟩ := sg_mem.mp ((hmem _).mp (sg_mem.mpr ⟨j, Nat.zero_le _, by omega, rfl⟩))
    rw [← g2]
    exact hrow j2 (by omega)
  have hpw : (sg_ (it_ M S) 0 k).Pairwise (fun a b => lk_ (ky_ 1 (it_ M (rf_ M C 1)) (it_ M (rf_ M C 0))) a b = true) := by
    rw [hperm]
    exact ar_sorted (lk_tr _) (lk_tot _) _
  have hsort : ∀ a b, a < b → b < k → (ky_ 1 (it_ M (rf_ M C 1)) (it_ M (rf_ M C 0)) (ix_ (it_ M S a))).toInt ≤ (ky_ 1 (it_ M (rf_ M C 1)) (it_ M (rf_ M C 0)) (ix_ (it_ M S b))).toInt := by
    intro a b hab hb
    have g := List.pairwise_iff_getElem.mp hpw a b (by rw [sg_len]; omega) (by rw [sg_len]; omega) hab
    have ga := sg_get (it_ M S) (i := 0) (n := k) (j := a) (by omega)
    have gb := sg_get (it_ M S) (i := 0) (n := k) (j := b) hb
    rw [List.getElem?_eq_getElem (by rw [sg_len]; omega)] at ga gb
    rw [Option.some.inj ga, Option.some.inj gb] at g
    simpa [lk_] using g
  refine ⟨z1, c1, hR, hS, fun M1 e1 => ?_⟩
  subst e1
  have X1 : Ex_ (fun b => b = z) M (sI_ M z 0 (nI k)) := Ex_.sI _ _ _ rfl
  have s1 : it_ (sI_ M z 0 (nI k)) S = it_ M S := funext fun j => it_sIa hzS
  have r1 : it_ (sI_ M z 0 (nI k)) ra = it_ M ra := funext fun j => it_sIa hzR
  have v1 : it_ (sI_ M z 0 (nI k)) (rf_ M C 0) = it_ M (rf_ M C 0) := funext fun j => it_sIa hcz
  have l1 : it_ (sI_ M z 0 (nI k)) (rf_ M C 1) = it_ M (rf_ M C 1) := funext fun j => it_sIa hlz
  have sv := @sp_countValues z C S k (sI_ M z 0 (nI k))
  rw [show rf_ (sI_ M z 0 (nI k)) = rf_ M from rfl, s1, v1, l1] at sv
  refine sv h hS hSl hSb (it_sIs _ _ _ _) hkb hS7 hrowS hsort (fun M2 nc dc X2 f2 g2 hnc hdc hcv _ => ?_)
  have X2' : Ex_ (fun b => b = z ∨ b = rf_ M z 7) M M2 := (X1.mono fun b hb => Or.inl hb).tr X2
  have r2 : it_ M2 ra = it_ M ra := funext fun j => X2'.it (fun e => e.elim hzR hR7) j
  have s2 : it_ M2 S = it_ M S := funext fun j => X2'.it (fun e => e.elim hzS hS7) j
  have v2 : it_ M2 (rf_ M C 0) = it_ M (rf_ M C 0) := funext fun j => X2'.it (fun e => e.elim hcz c6.symm) j
  have l2 : it_ M2 (rf_ M C 1) = it_ M (rf_ M C 1) := funext fun j => X2'.it (fun e => e.elim hlz hl7) j
  have h2 : Zh_ M2 z C := by
    unfold Zh_
    simp only [X2'.rf, X2'.kd, X2'.ln]
    exact h
  have sr := @sp_countRuns z C ra k M2
  simp only [X2'.rf, X2'.kd, X2'.ln, r2, v2, l2] at sr
  refine sr h2 hR hRl hRb (by rw [f2 0 (by decide) (by decide), it_sIs]) hkb hk0 hrow (fun M10 rn X3 f3 hrn hrq _ => ?_)
  have X3' : Ex_ (fun b => b = z ∨ b = rf_ M z 7) M M10 := X2'.tr (X3.mono fun b hb => Or.inl hb)
  have r3 : it_ M10 ra = it_ M ra := funext fun j => X3'.it (fun e => e.elim hzR hR7) j
  have s3 : it_ M10 S = it_ M S := funext fun j => X3'.it (fun e => e.elim hzS hS7) j
  have v3 : it_ M10 (rf_ M C 0) = it_ M (rf_ M C 0) := funext fun j => X3'.it (fun e => e.elim hcz c6.symm) j
  have l3 : it_ M10 (rf_ M C 1) = it_ M (rf_ M C 1) := funext fun j => X3'.it (fun e => e.elim hlz hl7) j
  have z0 : it_ M10 z 0 = nI k := by rw [f3 0 (by decide), f2 0 (by decide) (by decide), it_sIs]
  have zn : it_ M10 z 1 = nI nc := by rw [f3 1 (by decide)]; exact hnc
  have zd : it_ M10 z 2 = nI dc := by rw [f3 2 (by decide)]; exact hdc
  obtain ⟨hcv1, hcv2, D, hD1, hD2, hD3⟩ := hcv
  have hdr : dc ≤ rn := by
    rw [← hD1]
    refine hrq.2.2 D hD2 (fun d hd => ?_)
    obtain ⟨j, g1, g2, g3⟩ := (hD3 d hd).1
    obtain ⟨j2, -, q1, q2⟩ := sg_mem.mp ((hmem _).mp (sg_mem.mpr ⟨j, Nat.zero_le _, by omega, rfl⟩))
    refine ⟨j2, by omega, ?_, ?_⟩
    · show it_ M (rf_ M C 1) (ix_ (it_ M ra j2)) = 0
      rw [q2]
      exact g2
    · show (it_ M (rf_ M C 0) (ix_ (it_ M ra j2))).toInt = d
      rw [q2]
      exact g3
  -- the forms, from any memory that has the counts
  have fin : ∀ (M5 : Mm), Ex_ (fun b => b = z ∨ b = rf_ M z 7) M M5 → it_ M5 z 0 = nI k → it_ M5 z 1 = nI nc → it_ M5 z 2 = nI dc → it_ M5 z 3 = nI rn →
      (∀ j r, j < k → it_ M ra j = nI r → r < 600 → it_ M (rf_ M C 1) r = 0 → (it_ M5 z 4).toInt ≤ (it_ M (rf_ M C 0) r).toInt ∧ (it_ M (rf_ M C 0) r).toInt ≤ (it_ M5 z 5).toInt) →
      (∃ n39 : Nat, lp_X9_reckon_94 z K (fun M38 => Nk_ (sI_ M5 z 6 0) M38 → K M38) n39 (1 : Int32) (sI_ M5 z 6 0)) := by
    intro M5 X5 w0 w1 w2 w3 wb
    have hz5 : kd_ M5 z = 11 := by rw [X5.kd]; exact z1
    obtain ⟨b, hb, eb⟩ := bz_plain (M := M5) (z := z) w0 hkb
    refine ⟨5, lp_forms_ok hz5 _ (fun fm hfm _ => hK _ (X5.tr (Ex_.sI _ _ _ (Or.inl rfl))) ?_) 5 1 0 (sI_ M5 z 6 0) (by omega) (by omega) (by omega) (by omega) ⟨by omega, by rw [eb, nI_t (by omega)]; omega, by rw [eb, nI_t (by omega)]; omega, fun o ho hp => ?_⟩ rfl⟩
    · refine ⟨by rw [it_sIk (by decide)]; exact w0, ⟨nc, dc, rn, fm, by rw [it_sIk (by decide)]; exact w1, by rw [it_sIk (by decide)]; exact w2, by rw [it_sIk (by decide)]; exact w3, it_sIs _ _ _ _, hcv1, hrq.2.1 hk0, hdr, hrq.1, ?_⟩, fun j r hj hjr hr hl => ?_⟩
      · unfold fm_ok
        simp only [bz_form]
        exact hfm
      · have e5 : ∀ k, rf_ (sI_ M5 z 6 (nI fm)) C k = rf_ M C k := fun k => X5.rf C k
        have n7 : ∀ a, a ≠ z → a ≠ rf_ M z 7 → ∀ j, it_ (sI_ M5 z 6 (nI fm)) a j = it_ M a j := fun a g1 g2 j => by rw [it_sIa g1]; exact X5.it (fun e => e.elim g1 g2) j
        rw [e5, n7 _ hlz hl7] at hl
        rw [n7 _ hzR hR7] at hjr
        rw [e5, n7 _ hcz c6.symm, it_sIk (by decide), it_sIk (by decide)]
        exact wb j r hj hjr hr hl
    · have : o = 0 := by omega
      subst this
      exact ⟨Int.le_refl _, fun _ => Nat.le_refl _⟩
  rw [z0, zn, le_nI (by omega) (by omega)]
  refine ⟨fun hc M19 e19 M20 e20 M21 e21 => ?_, fun hc => ?_⟩
  · subst e19
    subst e20
    subst e21
    refine fin _ ((X3'.tr (Ex_.sI _ _ _ (Or.inl rfl))).tr (Ex_.sI _ _ _ (Or.inl rfl))) (by rw [it_sIk (by decide), it_sIk (by decide)]; exact z0) (by rw [it_sIk (by decide), it_sIk (by decide)]; exact zn) (by rw [it_sIk (by decide), it_sIk (by decide)]; exact zd) (by rw [it_sIk (by decide), it_sIk (by decide)]; exact hrn) (fun j r hj hjr hr hl => ?_)
    obtain ⟨j2, -, q1, q2⟩ := sg_mem.mp ((hmem (it_ M ra j)).mpr (sg_mem.mpr ⟨j, Nat.zero_le _, by omega, rfl⟩))
    have := (hcv2 j2 (by omega)).mp (by show it_ M (rf_ M C 1) (ix_ (it_ M S j2)) = 0; rw [q2, hjr, ix_nI (by omega)]; exact hl)
    omega
  · have hnk : nc < k := by omega
    obtain ⟨r1, hr1, hr1b⟩ := hrowS nc hnk
    obtain ⟨r2', hr2, hr2b⟩ := hrowS (k - 1) (by omega)
    rw [X3'.rf, X3'.kd, X3'.ln, X3'.ln, ix_nI (n := nc) (by omega), s3, hr1, ix_nI (n := r1) (by omega), v3, c3]
    refine ⟨c2, vi_ (by omega) (by omega), vi_ hr1b (by omega), fun M45 e45 => ?_⟩
    subst e45
    rw [it_sIk (show (0 : Nat) ≠ 4 by decide), z0, nI_s1 hk0, ix_nI (n := k - 1) (by omega), it_sIa hzS, s3, hr2, ix_nI (n := r2') (by omega), it_sIa hcz, v3]
    refine ⟨vi_ (by omega) (by omega), vi_ hr2b (by omega), fun M48 e48 M49 e49 => ?_⟩
    subst e48
    subst e49
    refine fin _ ((X3'.tr (Ex_.sI _ _ _ (Or.inl rfl))).tr (Ex_.sI _ _ _ (Or.inl rfl))) (by rw [it_sIk (by decide), it_sIk (by decide)]; exact z0) (by rw [it_sIk (by decide), it_sIk (by decide)]; exact zn) (by rw [it_sIk (by decide), it_sIk (by decide)]; exact zd) (by rw [it_sIk (by decide), it_sIk (by decide)]; exact hrn) (fun j r hj hjr hr hl => ?_)
    rw [it_sIk (show (4 : Nat) ≠ 5 by decide), it_sIs, it_sIs]
    obtain ⟨j2, -, q1, q2⟩ := sg_mem.mp ((hmem (it_ M ra j)).mpr (sg_mem.mpr ⟨j, Nat.zero_le _, by omega, rfl⟩))
    have hs2 : ix_ (it_ M S j2) = r := by rw [q2, hjr, ix_nI (by omega)]
    have hj2 := (hcv2 j2 (by omega)).mp (by show it_ M (rf_ M C 1) (ix_ (it_ M S j2)) = 0; rw [hs2]; exact hl)
    have nn : ∀ j, j < k → nc ≤ j → it_ M (rf_ M C 1) (ix_ (it_ M S j)) = 0 := fun j hj hnj => (hcv2 j hj).mpr hnj
    have n1 := nn nc hnk (Nat.le_refl _)
    have n2 := nn (k - 1) (by omega) (by omega)
    rw [hr1, ix_nI (by omega)] at n1
    rw [hr2, ix_nI (by omega)] at n2
    constructor
    · by_cases e : nc = j2
      · subst e
        rw [hr1, ix_nI (by omega)] at hs2
        subst hs2
        exact Int.le_refl _
      · have g := hsort nc j2 (by omega) (by omega)
        rw [hs2, hr1, ix_nI (by omega), ky1_t, ky1_t, if_pos n1, if_pos hl] at g
        exact g
    · by_cases e : j2 = k - 1
      · subst e
        rw [hr2, ix_nI (by omega)] at hs2
        subst hs2
        exact Int.le_refl _
      · have g := hsort j2 (k - 1) (by omega) (by omega)
        rw [hs2, hr2, ix_nI (by omega), ky1_t, ky1_t, if_pos n2, if_pos hl] at g
        exact g
