/-! ArrayList: get, size, isEmpty, add, remove -/
theorem sp_get {ow : Nat → Nat × Nat} {M : Mm} {K : Mm → Nat → Prop} {l n c i : Nat} (h : Ls_ ow M l n c) (hi : i < n) (hc : c ≠ 0) (hK : K M (el_ M l i)) : wp_Jx4a65c_get_915e3 l (nI i) M K := by
  have hle := h.le
  have ha := h.arr hi
  refine ⟨h.k1, ?_⟩
  rw [h.sz]
  refine ⟨fun z => ?_, fun _ => ⟨fun _ _ _ => ⟨h.k1, Or.inl ha.1, ha.1, vi_ (by omega) (by omega), ?_, fun _ => ?_⟩, fun z => z ((lt_nI (by omega) (by omega)).mpr hi)⟩⟩
  · rw [i_lt, nI_t (by omega)] at z
    have : (0 : Int32).toInt = 0 := rfl
    omega
  · rw [ix_nI (by omega)]
    have := h.el hi
    unfold el_ at this
    rw [this]
    exact hc
  · rw [ix_nI (by omega)]
    exact hK
theorem sp_size {ow : Nat → Nat × Nat} {M : Mm} {K : Mm → Int32 → Prop} {l n c : Nat} (h : Ls_ ow M l n c) (hK : K M (nI n)) : wp_Jx4a65c_size_8abf5 l M K := by
  refine ⟨h.k1, ?_⟩
  rw [h.sz]
  exact hK
theorem sp_isEmpty {ow : Nat → Nat × Nat} {M : Mm} {K : Mm → Int32 → Prop} {l n c : Nat} (h : Ls_ ow M l n c) (hn : 0 < n) (hK : K M 0) : wp_Jx4a65c_isEmpty_aae02 l M K := by
  refine ⟨h.k1, fun z => ?_, fun _ => hK⟩
  rw [h.sz] at z
  have := h.le
  have := nI_inj (a := n) (b := 0) (by omega) (by omega) z
  omega
/-- what an added element does to the memory -/
def Ad_ (ow : Nat → Nat × Nat) (M : Mm) (l n c a : Nat) (M' : Mm) (ow' : Nat → Nat × Nat) : Prop :=
  (∀ b, kd_ M b ≠ 0 → ow' b = ow b) ∧ Gw_ (fun b => b = l ∨ b = rf_ M l 1) M M' ∧ Ls_ ow' M' l (n + 1) c ∧ (∀ i, i < n → el_ M' l i = el_ M l i) ∧ el_ M' l n = a ∧ ∀ b, kd_ M b = 0 → kd_ M' b = 0 ∨ kd_ M' b = 26
theorem nI_0' : (0 : Int32) = nI 0 := rfl
theorem sp_newLen {n k : Nat} {M : Mm} {K : Mm → Int32 → Prop} (hn : 0 < n) (hn2 : n ≤ 10000) (hk : k ≤ 10000) (hK : K M (nI (n + max 1 k))) : wp_J8_newLength_cabcc (nI n) (nI 1) (nI k) M K := by
  unfold wp_J8_newLength_cabcc
  rw [nI_max (by omega) (by omega), nI_add]
  refine ⟨fun z => ?_, fun _ => ⟨fun z => ?_, fun _ => hK⟩⟩
  · rw [i_le, nI_t (by omega)] at z
    have : (0 : Int32).toInt = 0 := rfl
    omega
  · rw [i_lt, nI_t (by omega)] at z
    have : (2147483639 : Int32).toInt = 2147483639 := rfl
    omega
theorem Gw_.aRn {A : Nat → Prop} {M M1 : Mm} {q : Nat} (h : Gw_ A M M1) (hq : kd_ M q = 0) (f : Nat → Nat) : Gw_ A M (aR_ M1 q f) := ⟨h.1, fun b hb hA k => by
  obtain ⟨g1, g2, g3⟩ := h.2 b hb hA k
  exact ⟨by rw [rf_aR, if_neg (fun e => hb (by rw [e]; exact hq))]; exact g1, g2, g3⟩⟩
theorem Gw_.sRn {A : Nat → Prop} {M M1 : Mm} {q : Nat} (h : Gw_ A M M1) (hq : kd_ M q = 0) (k v : Nat) : Gw_ A M (sR_ M1 q k v) := ⟨h.1, fun b hb hA j => by
  obtain ⟨g1, g2, g3⟩ := h.2 b hb hA j
  exact ⟨by rw [rf_sR, if_neg (fun e => hb (by rw [e.1]; exact hq))]; exact g1, g2, g3⟩⟩
theorem Gw_.sIn {A : Nat → Prop} {M M1 : Mm} {q : Nat} (h : Gw_ A M M1) (hq : kd_ M q = 0) (k : Nat) (v : Int32) : Gw_ A M (sI_ M1 q k v) := ⟨h.1, fun b hb hA j => by
  obtain ⟨g1, g2, g3⟩ := h.2 b hb hA j
  exact ⟨g1, by rw [it_sIa (fun e => hb (by rw [e]; exact hq))]; exact g2, g3⟩⟩
theorem kd_nwo {M : Mm} {q c n b : Nat} (h : b ≠ q) : kd_ (nw_ M q c n) b = kd_ M b := by
  unfold kd_ nw_
  dsimp only
  rw [if_neg h]
theorem ln_nwo {M : Mm} {q c n b : Nat} (h : b ≠ q) : ln_ (nw_ M q c n) b = ln_ M b := by
  unfold ln_ nw_
  dsimp only
  rw [if_neg h]
theorem rf_nwo {M : Mm} {q c n b : Nat} (h : b ≠ q) (k : Nat) : rf_ (nw_ M q c n) b k = rf_ M b k := if_neg h
theorem it_nwo {M : Mm} {q c n b : Nat} (h : b ≠ q) (k : Nat) : it_ (nw_ M q c n) b k = it_ M b k := if_neg h
theorem it_nwq (M : Mm) (q c n k : Nat) : it_ (nw_ M q c n) q k = 0 := if_pos rfl
theorem rf_nwq (M : Mm) (q c n k : Nat) : rf_ (nw_ M q c n) q k = nz_ M := if_pos rfl
/-- what growing does: a new row q of N places, holding what was there -/
def Gr_ (M : Mm) (l n N : Nat) (M2 : Mm) (q : Nat) : Prop :=
  kd_ M q = 0 ∧ Gw_ (fun b => b = l) M M2 ∧ kd_ M2 q = 26 ∧ ln_ M2 q = N ∧ rf_ M2 l 1 = q ∧ (∀ b, kd_ M b = 0 → kd_ M2 b = 0 ∨ kd_ M2 b = 26) ∧ (∀ j, j < n → rf_ M2 q j = rf_ M (rf_ M l 1) j) ∧ ∀ k, it_ M2 l k = it_ M l k
theorem sp_copyOf {M : Mm} {K : Mm → Nat → Prop} {a n N : Nat} (ha : kd_ M a = 26) (hl : ln_ M a = n) (hN : n ≤ N) (hN2 : N ≤ 200) (hel : ∀ j, j < n → rf_ M a j = nz_ M ∨ kd_ M (rf_ M a j) = 2 ∨ kd_ M (rf_ M a j) = 3)
    (hK : ∀ M2 q, kd_ M q = 0 → q ≠ 0 → Gw_ (fun _ => False) M M2 → kd_ M2 q = 26 → ln_ M2 q = N → (∀ b, kd_ M b = 0 → kd_ M2 b = 0 ∨ kd_ M2 b = 26) → (∀ j, j < n → rf_ M2 q j = rf_ M a j) → K M2 q) : wp_J7_copyOf_1904c a (nI N) M K := by
  refine ⟨ha, ha, fun z => ?_, ?_, fun q1 hq1 hq2 M8 e8 => ?_⟩
  · rw [i_lt, nI_t (by omega)] at z
    have : (0 : Int32).toInt = 0 := rfl
    omega
  · rw [ix_nI (by omega)]
    exact hN2
  have hne : a ≠ q1 := fun e => by rw [e, hq2] at ha; omega
  have k8 : kd_ M8 q1 = 26 := by rw [e8]; exact kd_nq_ _ _ _ _
  have l8 : ln_ M8 q1 = N := by rw [e8, ln_nq_, ix_nI (by omega)]
  have la : ln_ M8 a = n := by rw [e8, ln_nwo hne]; exact hl
  have ra : ∀ j, rf_ M8 a j = rf_ M a j := fun j => by rw [e8, rf_nwo hne]
  have G8 : Gw_ (fun _ => False) M M8 := by rw [e8]; exact Gw_.nw hq2
  have hz8 : nz_ M8 = nz_ M := by rw [e8]; rfl
  have n8 : ∀ b, kd_ M b = 0 → kd_ M8 b = 0 ∨ kd_ M8 b = 26 := fun b hb => by
    by_cases e : b = q1
    · exact Or.inr (by rw [e]; exact k8)
    · exact Or.inl (by rw [e8, kd_nwo e]; exact hb)
  clear e8
  rw [la, show (Int32.ofNat n) = nI n from rfl, nI_min (by omega) (by omega), show min n N = n by omega, l8, ix_nI (by omega), show ix_ (0 : Int32) = 0 from rfl]
  refine ⟨by decide, by decide, fun z => ?_, by omega, by omega, fun j hj => ?_, fun M18 e18 _ => ?_⟩
  · rw [i_lt, nI_t (by omega)] at z
    have : (0 : Int32).toInt = 0 := rfl
    omega
  · rw [Nat.zero_add, ra]
    rcases hel j hj with e | e
    · exact Or.inl (by rw [e, hz8])
    · refine Or.inr ?_
      rw [G8.kd (by rcases e with e | e <;> rw [e] <;> decide)]
      exact e
  · subst e18
    refine ⟨k8, hK _ q1 hq2 hq1 (G8.aRn hq2 _) k8 l8 n8 (fun j hj => ?_)⟩
    rw [rf_aR, if_pos rfl, pk_cpy_in (by omega) (by omega), ra]
    congr 1
    omega
theorem sp_grow {ow : Nat → Nat × Nat} {M : Mm} {K : Mm → Nat → Prop} {l n c : Nat} (h : Ls_ ow M l n c) (hn : n ≤ 105) (hc : c = 2 ∨ c = 3) (hfull : nI n = nI (ln_ M (rf_ M l 1)))
    (hK : ∀ M2 q N, Gr_ M l n N M2 q → n < N → 10 ≤ N → N ≤ 200 → K M2 q) : wp_Jx4a65c_grow_d5877 l M K := by
  have k1 := h.k1
  refine ⟨k1, ?_⟩
  rw [h.sz, nI_p1]
  rcases h.2.2.2.1 with ⟨z0, z1, z2⟩ | ⟨z1, z2, z3, z4, z5⟩
  · refine ⟨k1, Or.inr z1, fun hpos => ?_, fun hpos q hq0 hq36 hqln => ⟨fun hqe => ⟨?_, ?_, fun q24 hq24 hq24' M31 e31 M35 e35 _ => ?_⟩, fun hqe => absurd ((hq36 _).mp z1) hqe⟩⟩
    · rw [z2] at hpos
      exact absurd hpos (by decide)
    · rw [z0]
      decide
    · rw [z0]
      decide
    · have hql : q24 ≠ l := fun e => by rw [e, k1] at hq24'; omega
      have k31 : kd_ M31 q24 = 26 := by rw [e31]; exact kd_nq_ _ _ _ _
      have l31 : ln_ M31 q24 = 10 := by rw [e31, ln_nq_, z0]; rfl
      have G31 : Gw_ (fun b => b = l) M M31 := by rw [e31]; exact Gw_.nw hq24'
      have n31 : ∀ b, kd_ M b = 0 → kd_ M31 b = 0 ∨ kd_ M31 b = 26 := fun b hb => by
        by_cases e : b = q24
        · exact Or.inr (by rw [e]; exact k31)
        · exact Or.inl (by rw [e31, kd_nwo e]; exact hb)
      have i31 : ∀ k, it_ M31 l k = it_ M l k := fun k => by rw [e31, it_nwo hql.symm]
      subst e35
      exact ⟨k31, hK _ q24 10 ⟨hq24', G31.tr (Gw_.sR _ _ _ rfl), k31, l31, by rw [rf_sR, if_pos ⟨rfl, rfl⟩], n31, fun j hj => by omega, i31⟩ (by omega) (by omega) (by omega)⟩
  · have hnl : n = ln_ M (rf_ M l 1) := nI_inj (by omega) (by omega) hfull
    have hll : rf_ M l 1 ≠ l := fun e => by rw [e, k1] at z1; omega
    refine ⟨k1, Or.inl z1, fun hpos => ?_, fun hpos => ?_⟩
    · rw [← hnl, show (Int32.ofNat n) = nI n from rfl]
      have e2 : nI (n + 1) - nI n = nI 1 := by
        have k := pk_sub (a := n + 1) (b := n) (by omega)
        rw [Nat.add_sub_cancel_left] at k
        exact k
      have e3 : nI n >>> ((1 : Int32) &&& 31) = nI (n / 2) := by
        have k := pk_shrN (n := n) (by omega) ((1 : Int32) &&& 31) 1 (by decide)
        rw [Nat.pow_one] at k
        exact k
      rw [e2, e3]
      refine sp_newLen (by omega) (by omega) (by omega) (fun _ => ⟨Or.inl z1, sp_copyOf z1 hnl.symm (by omega) (by omega) (fun j hj => ?_) (fun M2 q hq hq0 G2 k2 l2 n2 r2 _ => ⟨k2, fun M18 e18 _ => ?_⟩)⟩)
      · have g := h.el hj
        unfold el_ at g
        right
        rw [g]
        exact hc
      · have hql : q ≠ l := fun e => by rw [e, k1] at hq; omega
        subst e18
        refine ⟨k2, hK _ q (n + max 1 (n / 2)) ⟨hq, (G2.mono fun b _ hb => hb.elim).tr (Gw_.sR _ _ _ rfl), k2, l2, by rw [rf_sR, if_pos ⟨rfl, rfl⟩], n2, fun j hj => ?_, fun k => G2.it (by rw [k1]; decide) (fun z => z) k⟩ (by omega) (by omega) (by omega)⟩
        rw [rf_sR, if_neg (fun z => hql z.1)]
        exact r2 j hj
    · exfalso
      refine hpos ?_
      rw [← hnl, show (Int32.ofNat n) = nI n from rfl, i_lt, nI_t (by omega)]
      have : (0 : Int32).toInt = 0 := rfl
      omega
theorem sp_add {ow : Nat → Nat × Nat} {M : Mm} {K : Mm → Int32 → Prop} {l n c a : Nat} (h : Ls_ ow M l n c) (hn : n ≤ 105) (hc : c = 2 ∨ c = 3) (ha : kd_ M a = c) (hnew : ∀ i, i < n → el_ M l i ≠ a)
    (hK : ∀ M' ow', Ad_ ow M l n c a M' ow' → K M' 1) : wp_Jx4a65c_add_9ea2d l a M K := by
  have ha23 : kd_ M a = 2 ∨ kd_ M a = 3 := by rw [ha]; exact hc
  have k1 := h.k1
  have hor : kd_ M (rf_ M l 1) = 26 ∨ kd_ M (rf_ M l 1) = 36 := by
    rcases h.2.2.2.1 with z | z
    · exact Or.inr z.2.1
    · exact Or.inl z.1
  have hl1 : rf_ M l 1 ≠ l := fun e => by rw [e] at hor; omega
  refine ⟨k1, ha23, fun M1 e1 => ?_⟩
  have S1 : Sm_ M M1 := by rw [e1]; exact ⟨rfl, rfl⟩
  have i1 : ∀ b k, ¬ (b = l ∧ k = 0) → it_ M1 b k = it_ M b k := fun b k hb => by rw [e1, it_sIn hb]
  have G1 : Gw_ (fun b => b = l ∨ b = rf_ M l 1) M M1 := by rw [e1]; exact Gw_.sI _ _ _ (Or.inl rfl)
  have h1 : Ls_ ow M1 l n c := S1.ls (i1 l 2 (by omega)) h
  clear e1
  refine ⟨hor, by rw [S1.kd]; exact k1, by rw [S1.kd]; exact ha23, by rw [S1.kd]; exact hor, ?_⟩
  rw [h1.sz]
  -- the last steps: the element is put at n, the size told
  have fin : ∀ (M2 : Mm) (q N : Nat) (ow' : Nat → Nat × Nat), (∀ b, kd_ M b ≠ 0 → ow' b = ow b) → Gw_ (fun b => b = l ∨ b = rf_ M l 1) M M2 → kd_ M2 q = 26 → ln_ M2 q = N → n < N → 10 ≤ N → N ≤ 200 → ow' q = (l, 1) → rf_ M2 l 1 = q → (∀ i, i < n → rf_ M2 q i = el_ M l i) → (∀ b, kd_ M b = 0 → kd_ M2 b = 0 ∨ kd_ M2 b = 26) → (q = rf_ M l 1 ∨ kd_ M q = 0) →
      K (sI_ (sR_ M2 q (ix_ (nI n)) a) l 2 (nI n + (1 : Int32))) 1 := by
    intro M2 q N ow' hw hG hk hN hnN hN10 hN200 hq hrf hels hnw hqo
    have hql : q ≠ l := fun e => by
      rcases hqo with z | z
      · exact hl1 (z.symm.trans e)
      · rw [e, k1] at z; omega
    rw [nI_p1, ix_nI (by omega)]
    have G2 : Gw_ (fun b => b = l ∨ b = rf_ M l 1) M (sI_ (sR_ M2 q n a) l 2 (nI (n + 1))) := by
      refine ⟨hG.1, fun b hb hA k => ?_⟩
      obtain ⟨g1, g2, g3⟩ := hG.2 b hb hA k
      have hbq : b ≠ q := fun e => by
        rcases hqo with z | z
        · exact hA (Or.inr (by rw [e, z]))
        · exact hb (by rw [e]; exact z)
      have hbl : b ≠ l := fun e => hA (Or.inl e)
      refine ⟨?_, ?_, g3⟩
      · show rf_ (sR_ M2 q n a) b k = rf_ M b k
        rw [rf_sR, if_neg (fun z => hbq z.1)]
        exact g1
      · rw [it_sIa hbl]
        exact g2
    have hr9 : rf_ (sI_ (sR_ M2 q n a) l 2 (nI (n + 1))) l 1 = q := by
      show rf_ (sR_ M2 q n a) l 1 = q
      rw [rf_sR, if_neg (fun z => hql z.1.symm)]
      exact hrf
    have hel : ∀ i, el_ (sI_ (sR_ M2 q n a) l 2 (nI (n + 1))) l i = if i = n then a else rf_ M2 q i := by
      intro i
      unfold el_
      rw [hr9]
      show rf_ (sR_ M2 q n a) q i = _
      rw [rf_sR]
      by_cases hi : i = n
      · rw [if_pos ⟨rfl, hi⟩, if_pos hi]
      · rw [if_neg (fun z => hi z.2), if_neg hi]
    have hkM : ∀ b, kd_ M b ≠ 0 → kd_ M2 b = kd_ M b := fun b hb => hG.kd hb
    refine hK _ ow' ⟨hw, G2, ⟨?_, it_sIs _ _ _ _, by omega, Or.inr ?_, fun i hi => ?_, fun i j hi hj e => ?_⟩, fun i hi => ?_, ?_, hnw⟩
    · exact (hkM l (by rw [k1]; decide)).trans k1
    · rw [hr9]
      exact ⟨hk, by show n + 1 ≤ ln_ M2 q; omega, by show 10 ≤ ln_ M2 q; omega, by show ln_ M2 q ≤ 200; omega, hq⟩
    · rw [hel]
      by_cases e : i = n
      · rw [if_pos e]
        exact (hkM a (by omega)).trans ha
      · rw [if_neg e, hels i (by omega)]
        exact (hkM _ (by rw [h.el (show i < n by omega)]; omega)).trans (h.el (by omega))
    · rw [hel, hel] at e
      by_cases e1 : i = n
      · by_cases e2 : j = n
        · omega
        · rw [if_pos e1, if_neg e2, hels j (by omega)] at e
          exact absurd e.symm (hnew j (by omega))
      · by_cases e2 : j = n
        · rw [if_neg e1, if_pos e2, hels i (by omega)] at e
          exact absurd e (hnew i (by omega))
        · rw [if_neg e1, if_neg e2, hels i (by omega), hels j (by omega)] at e
          exact h.inj (by omega) (by omega) e
    · rw [hel, if_neg (by omega), hels i hi]
    · rw [hel, if_pos rfl]
  refine ⟨fun hfull => sp_grow h1 hn hc (by rw [S1.rf]; exact hfull) (fun M2 q N hg g1 g2 g3 _ => ?_), fun hfull => ?_⟩
  · obtain ⟨r1, r2, r3, r4, r5, r6, r7, r8⟩ := hg
    rw [S1.kd] at r1
    refine ⟨r3, ?_, fun M17 e17 M18 e18 _ => ?_⟩
    · rw [r4]
      exact vi_ g1 (by omega)
    · subst e17
      subst e18
      refine fin M2 q N (fun b => if b = q then (l, 1) else ow b) (fun b hb => if_neg (fun e => hb (by rw [e]; exact r1))) (G1.tr (r2.mono fun b _ hb => Or.inl hb)) r3 r4 g1 g2 g3 (if_pos rfl) r5 (fun i hi => ?_) (fun b hb => r6 b (by rw [S1.kd]; exact hb)) (Or.inr r1)
      rw [r7 i hi, S1.rf, S1.rf]
      rfl
  · rw [S1.kd, S1.ln]
    rcases h.2.2.2.1 with ⟨z0, z1, z2⟩ | ⟨z1, z2, z3, z4, z5⟩
    · exfalso
      refine hfull ?_
      rw [S1.ln, z2, z0]
      rfl
    · have hlt : n < ln_ M (rf_ M l 1) := by
        by_cases e : n = ln_ M (rf_ M l 1)
        · exact absurd (by rw [S1.ln, ← e]; rfl) hfull
        · omega
      refine ⟨z1, vi_ hlt (by omega), fun M4 e4 M5 e5 _ => ?_⟩
      subst e4
      subst e5
      exact fin M1 (rf_ M l 1) (ln_ M (rf_ M l 1)) ow (fun b _ => rfl) G1 (by rw [S1.kd]; exact z1) (S1.ln _) hlt z3 z4 z5 (S1.rf _ _) (fun i _ => S1.rf _ _) (fun b hb => Or.inl (by rw [S1.kd]; exact hb)) (Or.inl rfl)
/-- what a removed element does to the memory -/
def Rm_ (ow : Nat → Nat × Nat) (M : Mm) (l n c i : Nat) (M' : Mm) : Prop :=
  Gw_ (fun b => b = l ∨ b = rf_ M l 1) M M' ∧ M'.1 = M.1 ∧ Ls_ ow M' l (n - 1) c ∧ ∀ j, j < n - 1 → el_ M' l j = if j < i then el_ M l j else el_ M l (j + 1)
theorem sp_fastRemove {ow : Nat → Nat × Nat} {M : Mm} {K : Mm → Prop} {l n c i : Nat} (h : Ls_ ow M l n c) (hi : i < n) (hc : c = 2 ∨ c = 3)
    (hK : ∀ M', Rm_ ow M l n c i M' → K M') : wp_Jx4a65c_fastRemove_b59b0 l (rf_ M l 1) (nI i) M K := by
  have k1 := h.k1
  have hle := h.le
  obtain ⟨z1, z2, z3, z4, z5⟩ := h.arr hi
  have hl1 : rf_ M l 1 ≠ l := fun e => by rw [e, k1] at z1; omega
  refine ⟨k1, z1, fun M1 e1 => ?_⟩
  have S1 : Sm_ M M1 := by rw [e1]; exact ⟨rfl, rfl⟩
  have i1 : ∀ b k, ¬ (b = l ∧ k = 0) → it_ M1 b k = it_ M b k := fun b k hb => by rw [e1, it_sIn hb]
  have G1 : Gw_ (fun b => b = l ∨ b = rf_ M l 1) M M1 := by rw [e1]; exact Gw_.sI _ _ _ (Or.inl rfl)
  clear e1
  rw [i1 l 2 (by omega), h.sz, nI_s1 (by omega), le_nI (by omega) (by omega)]
  -- the end: the size told, the last place emptied
  have fin : ∀ (M2 : Mm) (w : Nat), Gw_ (fun b => b = l ∨ b = rf_ M l 1) M M2 → M2.1 = M.1 → rf_ M2 l 1 = rf_ M l 1 → (∀ j, j < n - 1 → rf_ M2 (rf_ M l 1) j = if j < i then el_ M l j else el_ M l (j + 1)) →
      K (sR_ (sI_ M2 l 2 (nI (n - 1))) (rf_ M l 1) (n - 1) w) := by
    intro M2 w G2 hm hr hel
    have hkM : ∀ b, kd_ M2 b = kd_ M b := fun b => by unfold kd_; rw [hm]
    have hlM : ∀ b, ln_ M2 b = ln_ M b := fun b => by unfold ln_; rw [hm]
    have hr9 : rf_ (sR_ (sI_ M2 l 2 (nI (n - 1))) (rf_ M l 1) (n - 1) w) l 1 = rf_ M l 1 := by
      rw [rf_sR, if_neg (fun z => hl1 z.1.symm)]
      exact hr
    have he : ∀ j, j < n - 1 → el_ (sR_ (sI_ M2 l 2 (nI (n - 1))) (rf_ M l 1) (n - 1) w) l j = if j < i then el_ M l j else el_ M l (j + 1) := by
      intro j hj
      unfold el_
      rw [hr9, rf_sR, if_neg (fun z => by omega)]
      exact hel j hj
    refine hK _ ⟨(G2.tr (Gw_.sI _ _ _ (Or.inl rfl))).tr (Gw_.sR _ _ _ (Or.inr rfl)), hm, ⟨(hkM l).trans k1, ?_, by omega, Or.inr ?_, fun j hj => ?_, fun a b ha hb e => ?_⟩, he⟩
    · show it_ (sI_ M2 l 2 (nI (n - 1))) l 2 = _
      exact it_sIs _ _ _ _
    · rw [hr9]
      exact ⟨(hkM _).trans z1, by show n - 1 ≤ ln_ M2 _; rw [hlM]; omega, by show 10 ≤ ln_ M2 _; rw [hlM]; exact z3, by show ln_ M2 _ ≤ 200; rw [hlM]; exact z4, z5⟩
    · rw [he j hj]
      refine (hkM _).trans ?_
      by_cases e : j < i
      · rw [if_pos e]
        exact h.el (by omega)
      · rw [if_neg e]
        exact h.el (by omega)
    · rw [he a ha, he b hb] at e
      by_cases e1 : a < i
      · by_cases e2 : b < i
        · rw [if_pos e1, if_pos e2] at e
          exact h.inj (by omega) (by omega) e
        · rw [if_pos e1, if_neg e2] at e
          have := h.inj (by omega) (by omega) e
          omega
      · by_cases e2 : b < i
        · rw [if_neg e1, if_pos e2] at e
          have := h.inj (by omega) (by omega) e
          omega
        · rw [if_neg e1, if_neg e2] at e
          have := h.inj (by omega) (by omega) e
          omega
  refine ⟨fun hlast M3 e3 => ⟨vi_ (by omega) (by omega), fun M5 e5 => ?_⟩, fun hlast => ?_⟩
  · subst e3
    subst e5
    rw [ix_nI (by omega)]
    refine fin M1 _ G1 S1.1 (S1.rf _ _) (fun j hj => ?_)
    rw [if_pos (by omega)]
    exact S1.rf _ _
  · have hx : i < n - 1 := by omega
    have e2 : nI (n - 1) - nI i = nI (n - 1 - i) := pk_sub (by omega)
    rw [nI_p1, e2, ix_nI (n := i + 1) (by omega), ix_nI (n := n - 1 - i) (by omega), ix_nI (n := i) (by omega), ix_nI (n := n - 1) (by omega)]
    have nn : ∀ k, k < 1000 → ¬ nI k < (0 : Int32) := fun k hk z => by
      rw [i_lt, nI_t (by omega)] at z
      have : (0 : Int32).toInt = 0 := rfl
      omega
    refine ⟨nn _ (by omega), nn _ (by omega), nn _ (by omega), by omega, by omega, fun j hj => Or.inr ?_, fun M12 e12 M13 e13 => ⟨vi_ (by omega) (by omega), fun M15 e15 => ?_⟩⟩
    · have g := h.el (show i + 1 + j < n by omega)
      unfold el_ at g
      rw [g]
      exact hc
    · subst e12
      subst e13
      subst e15
      refine fin _ _ (G1.tr (Gw_.aR _ _ (Or.inr rfl))) S1.1 ?_ (fun j hj => ?_)
      · rw [rf_aR, if_neg hl1.symm]
        exact S1.rf _ _
      · rw [rf_aR, if_pos rfl]
        by_cases e : j < i
        · rw [if_pos e, pk_cpy_out (Or.inl e)]
          rfl
        · rw [if_neg e, pk_cpy_in (by omega) (by omega), show i + 1 + (j - i) = j + 1 by omega]
          rfl
theorem sp_remove {ow : Nat → Nat × Nat} {M : Mm} {K : Mm → Nat → Prop} {l n c i : Nat} (h : Ls_ ow M l n c) (hi : i < n) (hc : c = 2 ∨ c = 3)
    (hK : ∀ M' q, Rm_ ow M l n c i M' → K M' q) : wp_Jx4a65c_remove_915e3 l (nI i) M K := by
  have hle := h.le
  have ha := h.arr hi
  refine ⟨h.k1, ?_⟩
  rw [h.sz]
  refine ⟨fun z => ?_, fun _ => ⟨fun _ _ _ => ⟨Or.inl ha.1, ha.1, vi_ (by omega) (by omega), ?_, sp_fastRemove h hi hc (fun M' hM _ => hK _ _ hM)⟩, fun z => z ((lt_nI (by omega) (by omega)).mpr hi)⟩⟩
  · rw [i_lt, nI_t (by omega)] at z
    have : (0 : Int32).toInt = 0 := rfl
    omega
  · rw [ix_nI (by omega)]
    have := h.el hi
    unfold el_ at this
    rw [this]
    omega
