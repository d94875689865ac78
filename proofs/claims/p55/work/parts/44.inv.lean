/-! the table's invariant, in pieces -/
def TS_ (ow : Nat → Nat × Nat) (M : Mm) (T nc m : Nat) : Prop := SH_ ow M ∧ kd_ M T = 10 ∧ Ls_ ow M (rf_ M T 0) nc 3 ∧ nc ≤ 8 ∧ Ls_ ow M (rf_ M T 1) m 2 ∧ kd_ M (rf_ M T 5) = 2 ∧ ∀ i, i < m → el_ M (rf_ M T 1) i ≠ rf_ M T 5
/-- the blocks: the frames, and behind them the BUFFER; what home tells of their rows -/
def bk_ (M : Mm) (T m i : Nat) : Nat := if i < m then el_ M (rf_ M T 1) i else rf_ M T 5
def hv_ (m i : Nat) : Int32 := if i < m then nI i else -1
def cl_ (M : Mm) (T c : Nat) : Nat := el_ M (rf_ M T 0) c
def TH_ (M : Mm) (T m R : Nat) (kk : Nat → Nat) : Prop :=
  (∀ i, i ≤ m → BR_ M (bk_ M T m i) (kk i) R) ∧ (∀ i r, i ≤ m → r < 600 → mb_ M (bk_ M T m i) (kk i) r → hm_ M T r = hv_ m i) ∧ (∀ i r, i < m → r < R → hm_ M T r = nI i → mb_ M (bk_ M T m i) (kk i) r) ∧
  (∀ r, r < R → hm_ M T r = -1 ∨ hm_ M T r = -2 ∨ ∃ i, i < m ∧ hm_ M T r = nI i) ∧ ∀ r, r < R → hm_ M T r = -2 → al_ M T r = 0
def TZ_ (M : Mm) (T nc m : Nat) (kk : Nat → Nat) (Z : Nat → Prop) : Prop := ∀ i, i ≤ m → Z i → 1 ≤ kk i ∧ FZ_ M (bk_ M T m i) (kk i) nc (cl_ M T)
/-- how many of the first n are alive -/
def lvn_ (al : Nat → Int32) : Nat → Nat
  | 0 => 0
  | n + 1 => lvn_ al n + (if al n = 0 then 0 else 1)
def TN_ (M : Mm) (T R sz : Nat) : Prop := it_ M T 7 = nI R ∧ R ≤ 600 ∧ it_ M T 6 = nI sz ∧ 4 ≤ sz ∧ sz ≤ 64 ∧ (∀ r, r < R → bz_ (al_ M T r)) ∧ it_ M T 8 = nI (lvn_ (al_ M T) R)
def TC_ (M : Mm) (T nc R : Nat) : Prop := ∀ c r, c < nc → r < R → it_ M (rf_ M (cl_ M T c) 1) r ≠ 0 → it_ M (rf_ M (cl_ M T c) 0) r = 0
theorem lvn_le (al : Nat → Int32) (n : Nat) : lvn_ al n ≤ n := by
  induction n with
  | zero => exact Nat.le_refl _
  | succ n ih => unfold lvn_; split <;> omega
theorem lvn_congr {al al' : Nat → Int32} {n : Nat} (h : ∀ r, r < n → al r = al' r) : lvn_ al n = lvn_ al' n := by
  induction n with
  | zero => rfl
  | succ n ih => unfold lvn_; rw [ih (fun r hr => h r (by omega)), h n (by omega)]
/-- the cells that belong to the table -/
def TA_ (ow : Nat → Nat × Nat) (M : Mm) (b : Nat) : Prop := kd_ M b = 1 ∨ kd_ M b = 2 ∨ kd_ M b = 3 ∨ kd_ M b = 9 ∨ kd_ M b = 10 ∨ kd_ M b = 11 ∨ kd_ M b = 26 ∨ kd_ M b = 36 ∨ ((kd_ M b = 20 ∨ kd_ M b = 21 ∨ kd_ M b = 22) ∧ (kd_ M (ow b).1 = 2 ∨ kd_ M (ow b).1 = 3 ∨ kd_ M (ow b).1 = 9 ∨ kd_ M (ow b).1 = 10 ∨ kd_ M (ow b).1 = 11))
theorem own_TA {ow : Nat → Nat × Nat} {M : Mm} {a k c n : Nat} (h : own_ ow M a k c n) (hc : c = 20 ∨ c = 21 ∨ c = 22) (ha : kd_ M a = 2 ∨ kd_ M a = 3 ∨ kd_ M a = 9 ∨ kd_ M a = 10 ∨ kd_ M a = 11) : TA_ ow M (rf_ M a k) := by
  unfold TA_
  rw [h.2.2, h.1]
  exact Or.inr (Or.inr (Or.inr (Or.inr (Or.inr (Or.inr (Or.inr (Or.inr ⟨hc, ha⟩)))))))
section TSS
variable {ow : Nat → Nat × Nat} {M M' : Mm} {T nc m : Nat}
theorem TS_.sh (h : TS_ ow M T nc m) : SH_ ow M := h.1
theorem TS_.kT (h : TS_ ow M T nc m) : kd_ M T = 10 := h.2.1
theorem TS_.lc (h : TS_ ow M T nc m) : Ls_ ow M (rf_ M T 0) nc 3 := h.2.2.1
theorem TS_.nc8 (h : TS_ ow M T nc m) : nc ≤ 8 := h.2.2.2.1
theorem TS_.lf (h : TS_ ow M T nc m) : Ls_ ow M (rf_ M T 1) m 2 := h.2.2.2.2.1
theorem TS_.kb (h : TS_ ow M T nc m) : kd_ M (rf_ M T 5) = 2 := h.2.2.2.2.2.1
theorem TS_.t (h : TS_ ow M T nc m) : own_ ow M T 0 1 0 ∧ own_ ow M T 1 1 0 ∧ own_ ow M T 2 21 600 ∧ own_ ow M T 3 20 600 ∧ own_ ow M T 4 9 0 ∧ own_ ow M T 10 20 64 := h.sh.tab h.kT
theorem TS_.m2 (h : TS_ ow M T nc m) : m ≤ 200 := h.lf.le
theorem TS_.bk (h : TS_ ow M T nc m) (i : Nat) : kd_ M (bk_ M T m i) = 2 := by
  unfold bk_
  by_cases e : i < m
  · rw [if_pos e]; exact h.lf.el e
  · rw [if_neg e]; exact h.kb
theorem TS_.bkne (h : TS_ ow M T nc m) {i j : Nat} (hi : i ≤ m) (hj : j ≤ m) (hne : i ≠ j) : bk_ M T m i ≠ bk_ M T m j := by
  unfold bk_
  by_cases e : i < m
  · by_cases e2 : j < m
    · rw [if_pos e, if_pos e2]
      exact fun z => hne (h.lf.inj e e2 z)
    · rw [if_pos e, if_neg e2]
      exact h.2.2.2.2.2.2 i e
  · by_cases e2 : j < m
    · rw [if_neg e, if_pos e2]
      exact (h.2.2.2.2.2.2 j e2).symm
    · omega
theorem TS_.cl (h : TS_ ow M T nc m) {c : Nat} (hc : c < nc) : kd_ M (cl_ M T c) = 3 := h.lc.el hc
theorem TS_.co (h : TS_ ow M T nc m) {c : Nat} (hc : c < nc) : own_ ow M (cl_ M T c) 0 20 600 ∧ own_ ow M (cl_ M T c) 1 21 600 := h.sh.col (h.cl hc)
theorem TS_.bo (h : TS_ ow M T nc m) (i : Nat) : own_ ow M (bk_ M T m i) 0 20 64 ∧ own_ ow M (bk_ M T m i) 1 23 8 ∧ ∀ j, j < 8 → own_ ow M (rf_ M (bk_ M T m i) 1) j 11 0 := h.sh.blk (h.bk i)
theorem Sm_.bk (h : Sm_ M M') (T m i : Nat) : bk_ M' T m i = bk_ M T m i := by
  unfold bk_
  rw [h.rf, h.el, h.rf]
theorem Sm_.cl (h : Sm_ M M') (T c : Nat) : cl_ M' T c = cl_ M T c := by
  unfold cl_
  rw [h.rf, h.el]
/-- nothing but ints changed, and none of the two lists' sizes -/
theorem TS_.ex {A : Nat → Prop} (hX : Ex_ A M M') (hA : ∀ b, A b → kd_ M b ≠ 1) (h : TS_ ow M T nc m) : TS_ ow M' T nc m := by
  have t := h.t
  refine ⟨hX.1.sh h.sh, by rw [hX.kd]; exact h.kT, ?_, h.nc8, ?_, by rw [hX.rf, hX.kd]; exact h.kb, fun i hi => by rw [hX.rf, hX.rf, hX.1.el]; exact h.2.2.2.2.2.2 i hi⟩
  · rw [hX.rf]
    exact hX.1.ls (hX.it (fun e => hA _ e t.1.1) 2) h.lc
  · rw [hX.rf]
    exact hX.1.ls (hX.it (fun e => hA _ e t.2.1.1) 2) h.lf
end TSS
/-- what dropping dead rows keeps of a block's rows -/
theorem mb_drop {M M' : Mm} {b k k' R r : Nat} {al : Nat → Int32} (hb : BR_ M b k R) (hR : R ≤ 600) (hr : rf_ M' b 0 = rf_ M b 0) (hl : sg_ (it_ M' (rf_ M b 0)) 0 k' = (sg_ (it_ M (rf_ M b 0)) 0 k).filter (lv_f al)) (h6 : r < 600) : mb_ M' b k' r ↔ mb_ M b k r ∧ al r ≠ 0 := by
  rw [mb_sg, mb_sg, hr, hl, List.mem_filter]
  simp [lv_f, ix_nI (show r < 2147483648 by omega)]
theorem BR_drop {M M' : Mm} {b k k' R : Nat} {al : Nat → Int32} (hb : BR_ M b k R) (hk' : k' ≤ k) (h2 : it_ M' b 2 = nI k') (hr : rf_ M' b 0 = rf_ M b 0) (hl : sg_ (it_ M' (rf_ M b 0)) 0 k' = (sg_ (it_ M (rf_ M b 0)) 0 k).filter (lv_f al)) : BR_ M' b k' R := by
  refine ⟨h2, by have := hb.2.1; omega, fun j hj => ?_⟩
  rw [hr]
  have hm : it_ M' (rf_ M b 0) j ∈ sg_ (it_ M (rf_ M b 0)) 0 k := by
    have : it_ M' (rf_ M b 0) j ∈ sg_ (it_ M' (rf_ M b 0)) 0 k' := sg_mem.mpr ⟨j, Nat.zero_le _, by omega, rfl⟩
    rw [hl] at this
    exact (List.mem_filter.mp this).1
  obtain ⟨j2, -, g1, g2⟩ := sg_mem.mp hm
  rw [← g2]
  exact hb.2.2 j2 (by omega)
def up_ (kk : Nat → Nat) (i k : Nat) : Nat → Nat := fun j => if j = i then k else kk j
/-- the table is sound but for the zones of blocks where Z doesn't hold -/
def TI_ (ow : Nat → Nat × Nat) (M : Mm) (T nc m R sz : Nat) (kk : Nat → Nat) (Z : Nat → Prop) : Prop := TS_ ow M T nc m ∧ TH_ M T m R kk ∧ TZ_ M T nc m kk Z ∧ TN_ M T R sz ∧ TC_ M T nc R
theorem nhv {m i : Nat} (hi : i ≤ m) (hm : m ≤ 200) {j : Nat} (hj : j ≤ m) (h : hv_ m i = hv_ m j) : i = j := by
  unfold hv_ at h
  have n1 : ∀ a, a ≤ 200 → nI a ≠ -1 := fun a ha e => by
    rw [i_eq, nI_t (by omega)] at e
    have : (-1 : Int32).toInt = -1 := rfl
    omega
  by_cases e : i < m
  · by_cases e2 : j < m
    · rw [if_pos e, if_pos e2] at h
      exact nI_inj (by omega) (by omega) h
    · rw [if_pos e, if_neg e2] at h
      exact absurd h (n1 i (by omega))
  · by_cases e2 : j < m
    · rw [if_neg e, if_pos e2] at h
      exact absurd h.symm (n1 j (by omega))
    · omega
theorem hv_n2 {m i : Nat} (hm : m ≤ 200) (hi : i ≤ m) : hv_ m i ≠ -2 := by
  unfold hv_
  by_cases e : i < m
  · rw [if_pos e]
    intro z
    rw [i_eq, nI_t (by omega)] at z
    have : (-2 : Int32).toInt = -2 := rfl
    omega
  · rw [if_neg e]
    decide
/-- zones stay where neither they nor their rows nor the columns are written -/
theorem TZ_.ex {ow : Nat → Nat × Nat} {M M' : Mm} {T nc m : Nat} {A : Nat → Prop} {kk : Nat → Nat} {Z : Nat → Prop} (hX : Ex_ A M M') (hT : TS_ ow M T nc m) (h : TZ_ M T nc m kk Z) {i : Nat} (hi : i ≤ m) (hZ : Z i) (a0 : ¬ A (bk_ M T m i)) (a1 : ¬ A (rf_ M (bk_ M T m i) 0)) (a2 : ∀ j, j < 8 → ¬ A (rf_ M (rf_ M (bk_ M T m i) 1) j)) (a3 : ¬ A (rf_ M (bk_ M T m i) 1)) (a4 : ∀ c, c < nc → ¬ A (rf_ M (cl_ M T c) 0) ∧ ¬ A (rf_ M (cl_ M T c) 1)) : FZ_ M' (bk_ M' T m i) (kk i) nc (cl_ M' T) := by
  have e : cl_ M' T = cl_ M T := funext fun c => hX.1.cl T c
  rw [hX.1.bk, e]
  have n8 := hT.nc8
  exact FZ_.keep (hX.sa a0) (hX.sa a3) (fun c hc => hX.sa (a2 c (by omega))) (fun j _ => hX.it a1 j) (fun c _ => ⟨hX.rf _ _, hX.rf _ _⟩) (fun c j r hc _ _ _ => ⟨hX.it (a4 c hc).1 r, hX.it (a4 c hc).2 r⟩) (h i hi hZ).2
theorem sp_drop {ow : Nat → Nat × Nat} {M : Mm} {K : Mm → Prop} {T nc m R sz i : Nat} {kk : Nat → Nat} {Z : Nat → Prop} (h : TI_ ow M T nc m R sz kk Z) (hi : i ≤ m)
    (hK : ∀ M' k', Gw_ (TA_ ow M) M M' → Sm_ M M' → TI_ ow M' T nc m R sz (up_ kk i k') (fun j => Z j ∧ j ≠ i) → k' = ((sg_ (it_ M (rf_ M (bk_ M T m i) 0)) 0 (kk i)).filter (lv_f (it_ M (rf_ M T 2)))).length → (∀ r, al_ M' T r = al_ M T r) → (∀ r, mb_ M' (bk_ M T m i) k' r → r < 600 → al_ M T r ≠ 0) → (∀ j, j ≤ m → j ≠ i → ∀ q, it_ M' (rf_ M (bk_ M T m j) 0) q = it_ M (rf_ M (bk_ M T m j) 0) q) → K M') : wp_X8_dropDead T (bk_ M T m i) M K := by
  obtain ⟨hS, hH, hZ, hN, hC⟩ := h
  obtain ⟨h1, h2, h3, h4, h5⟩ := hH
  obtain ⟨t0, t1, t2, t3, t4, t5⟩ := hS.t
  have hb := hS.bk i
  obtain ⟨b0, b1, b2⟩ := hS.bo i
  have hR := hN.2.1
  have hm2 := hS.m2
  have hB := h1 i hi
  refine sp_dropDead hS.sh hS.kT hb hR hB (fun M' k' X g1 g2 g3 g4 g5 g6 => ?_)
  have hk' : k' = ((sg_ (it_ M (rf_ M (bk_ M T m i) 0)) 0 (kk i)).filter (lv_f (it_ M (rf_ M T 2)))).length := by rw [← g4, sg_len]
  have nl : ¬ (rf_ M T 2 = bk_ M T m i ∨ rf_ M T 2 = rf_ M (bk_ M T m i) 0 ∨ rf_ M T 2 = rf_ M T 3) := fun e => by
    rcases e with e | e | e
    · exact kd_ne t2.1 hb (by decide) e
    · exact kd_ne t2.1 b0.1 (by decide) e
    · exact kd_ne t2.1 t3.1 (by decide) e
  have eal : ∀ r, al_ M' T r = al_ M T r := fun r => by
    unfold al_
    rw [X.rf]
    exact X.it nl r
  have hmb : ∀ r, r < 600 → (mb_ M' (bk_ M T m i) k' r ↔ mb_ M (bk_ M T m i) (kk i) r ∧ al_ M T r ≠ 0) := fun r hr => mb_drop hB hR (X.rf _ _) g4 hr
  -- rows of other blocks
  have oth : ∀ j, j ≤ m → j ≠ i → ¬ (bk_ M T m j = bk_ M T m i ∨ bk_ M T m j = rf_ M (bk_ M T m i) 0 ∨ bk_ M T m j = rf_ M T 3) ∧ ¬ (rf_ M (bk_ M T m j) 0 = bk_ M T m i ∨ rf_ M (bk_ M T m j) 0 = rf_ M (bk_ M T m i) 0 ∨ rf_ M (bk_ M T m j) 0 = rf_ M T 3) := fun j hj hji => by
    have hbj := hS.bk j
    have oj := (hS.bo j).1
    have ne := hS.bkne hj hi hji
    refine ⟨fun e => ?_, fun e => ?_⟩
    · rcases e with e | e | e
      · exact ne e
      · exact kd_ne hbj b0.1 (by decide) e
      · exact kd_ne hbj t3.1 (by decide) e
    · rcases e with e | e | e
      · exact kd_ne oj.1 hb (by decide) e
      · exact own_ne oj b0 (Or.inl ne) e
      · exact own_ne oj t3 (Or.inl (kd_ne hbj hS.kT (by decide))) e
  have mbo : ∀ j r, j ≤ m → j ≠ i → (mb_ M' (bk_ M T m j) (kk j) r ↔ mb_ M (bk_ M T m j) (kk j) r) := fun j r hj hji => by
    unfold mb_
    simp only [X.rf, X.it (oth j hj hji).2]
  have upo : ∀ j, j ≠ i → up_ kk i k' j = kk j := fun j hj => if_neg hj
  have ups : up_ kk i k' i = k' := if_pos rfl
  have ebk : ∀ j, bk_ M' T m j = bk_ M T m j := fun j => X.1.bk T m j
  have ehm : ∀ r, hm_ M' T r = it_ M' (rf_ M T 3) r := fun r => by unfold hm_; rw [X.rf]
  -- a row of another block isn't a dead one of this
  have hdis : ∀ j r, j ≤ m → j ≠ i → r < 600 → mb_ M (bk_ M T m j) (kk j) r → ¬ mb_ M (bk_ M T m i) (kk i) r := fun j r hj hji hr hm hmi => by
    have e1 := h2 j r hj hr hm
    have e2 := h2 i r hi hr hmi
    exact hji (nhv hj hm2 hi (e1.symm.trans e2))
  have X2 : Gw_ (TA_ ow M) M M' := X.gw.mono fun b _ hb' => by
    rcases hb' with e | e | e
    · rw [e]; exact Or.inr (Or.inl hb)
    · rw [e]; exact own_TA b0 (Or.inl rfl) (Or.inl hb)
    · rw [e]; exact own_TA t3 (Or.inl rfl) (Or.inr (Or.inr (Or.inr (Or.inl hS.kT))))
  refine hK M' k' X2 X.1 ⟨hS.ex X (fun b hb' => ?_), ⟨fun j hj => ?_, fun j r hj hr hm => ?_, fun j r hj hr hm => ?_, fun r hr => ?_, fun r hr hm => ?_⟩, fun j hj hz => ?_, ⟨?_, hN.2.1, ?_, hN.2.2.2.1, hN.2.2.2.2.1, fun r hr => by rw [eal]; exact hN.2.2.2.2.2.1 r hr, ?_⟩, fun c r hc hr hl => ?_⟩ hk' eal (fun r hm hr => ((hmb r hr).mp hm).2) (fun j hj hji q => X.it (oth j hj hji).2 q)
  · rcases hb' with e | e | e
    · rw [e, hb]; decide
    · rw [e, b0.1]; decide
    · rw [e, t3.1]; decide
  · rw [ebk]
    by_cases e : j = i
    · rw [e, ups]
      exact BR_drop hB g1 g2 (X.rf _ _) g4
    · rw [upo j e]
      have o := oth j hj e
      have hBj := h1 j hj
      unfold BR_ at hBj ⊢
      simp only [X.rf, X.it o.1, X.it o.2]
      exact hBj
  · rw [ebk] at hm
    rw [ehm]
    by_cases e : j = i
    · rw [e, ups] at hm
      rw [e]
      have hm' := (hmb r hr).mp hm
      rw [g6 r hr (fun z => hm'.2 z.2)]
      exact h2 i r hi hr hm'.1
    · rw [upo j e, mbo j r hj e] at hm
      rw [g6 r hr (fun z => hdis j r hj e hr hm z.1)]
      exact h2 j r hj hr hm
  · rw [ebk]
    rw [ehm] at hm
    have hr6 : r < 600 := by omega
    have hnd : ¬ (mb_ M (bk_ M T m i) (kk i) r ∧ al_ M T r = 0) := fun z => by
      rw [g5 r hr6 z.1 z.2] at hm
      rw [i_eq, nI_t (by omega)] at hm
      have : (-2 : Int32).toInt = -2 := rfl
      omega
    rw [g6 r hr6 hnd] at hm
    have hm' := h3 j r hj hr hm
    by_cases e : j = i
    · rw [e, ups]
      rw [e] at hm'
      exact (hmb r hr6).mpr ⟨hm', fun z => hnd ⟨hm', z⟩⟩
    · rw [upo j e]
      exact (mbo j r (by omega) e).mpr hm'
  · rw [ehm]
    have hr6 : r < 600 := by omega
    by_cases e : mb_ M (bk_ M T m i) (kk i) r ∧ al_ M T r = 0
    · exact Or.inr (Or.inl (g5 r hr6 e.1 e.2))
    · rw [g6 r hr6 e]
      exact h4 r hr
  · rw [ehm] at hm
    rw [eal]
    have hr6 : r < 600 := by omega
    by_cases e : mb_ M (bk_ M T m i) (kk i) r ∧ al_ M T r = 0
    · exact e.2
    · rw [g6 r hr6 e] at hm
      exact h5 r hr hm
  · have o := oth j hj hz.2
    rw [upo j hz.2]
    refine ⟨(hZ j hj hz.1).1, TZ_.ex X hS hZ hj hz.1 o.1 o.2 (fun q hq e => ?_) (fun e => ?_) (fun c hc => ⟨fun e => ?_, fun e => ?_⟩)⟩
    · have z := ((hS.bo j).2.2 q hq).1
      rcases e with e | e | e
      · exact kd_ne z hb (by decide) e
      · exact kd_ne z b0.1 (by decide) e
      · exact kd_ne z t3.1 (by decide) e
    · have z := (hS.bo j).2.1.1
      rcases e with e | e | e
      · exact kd_ne z hb (by decide) e
      · exact kd_ne z b0.1 (by decide) e
      · exact kd_ne z t3.1 (by decide) e
    · have z := (hS.co hc).1
      rcases e with e | e | e
      · exact kd_ne z.1 hb (by decide) e
      · exact own_ne z b0 (Or.inl (kd_ne (hS.cl hc) hb (by decide))) e
      · exact own_ne z t3 (Or.inl (kd_ne (hS.cl hc) hS.kT (by decide))) e
    · have z := (hS.co hc).2
      rcases e with e | e | e
      · exact kd_ne z.1 hb (by decide) e
      · exact kd_ne z.1 b0.1 (by decide) e
      · exact kd_ne z.1 t3.1 (by decide) e
  · rw [X.it (fun e => by
      rcases e with e | e | e
      · exact kd_ne hS.kT hb (by decide) e
      · exact kd_ne hS.kT b0.1 (by decide) e
      · exact kd_ne hS.kT t3.1 (by decide) e)]
    exact hN.1
  · rw [X.it (fun e => by
      rcases e with e | e | e
      · exact kd_ne hS.kT hb (by decide) e
      · exact kd_ne hS.kT b0.1 (by decide) e
      · exact kd_ne hS.kT t3.1 (by decide) e)]
    exact hN.2.2.1
  · rw [X.it (fun e => by
      rcases e with e | e | e
      · exact kd_ne hS.kT hb (by decide) e
      · exact kd_ne hS.kT b0.1 (by decide) e
      · exact kd_ne hS.kT t3.1 (by decide) e), lvn_congr (fun r _ => eal r)]
    exact hN.2.2.2.2.2.2
  · rw [X.1.cl, X.rf] at hl ⊢
    have z0 := (hS.co hc).1
    have z1 := (hS.co hc).2
    rw [X.it (fun e => by
      rcases e with e | e | e
      · exact kd_ne z1.1 hb (by decide) e
      · exact kd_ne z1.1 b0.1 (by decide) e
      · exact kd_ne z1.1 t3.1 (by decide) e)] at hl
    rw [X.it (fun e => by
      rcases e with e | e | e
      · exact kd_ne z0.1 hb (by decide) e
      · exact own_ne z0 b0 (Or.inl (kd_ne (hS.cl hc) hb (by decide))) e
      · exact own_ne z0 t3 (Or.inl (kd_ne (hS.cl hc) hS.kT (by decide))) e)]
    exact hC c r hc hr hl
