/-! homes as they are to be: vh; block d (if d ≤ m) is none -/
def TV_ (M : Mm) (T m R : Nat) (kk : Nat → Nat) (vh : Nat → Int32) (d : Nat) : Prop :=
  (∀ i, i ≤ m → i ≠ d → BR_ M (bk_ M T m i) (kk i) R) ∧ (∀ i r, i ≤ m → i ≠ d → r < 600 → mb_ M (bk_ M T m i) (kk i) r → vh r = hv_ m i) ∧ (∀ i r, i < m → r < R → vh r = nI i → i ≠ d ∧ mb_ M (bk_ M T m i) (kk i) r) ∧
  (∀ r, r < R → vh r = -1 ∨ vh r = -2 ∨ ∃ i, i < m ∧ vh r = nI i) ∧ ∀ r, r < R → vh r = -2 → al_ M T r = 0
section NB
variable {ow : Nat → Nat × Nat} {M M' : Mm} {T nc m R sz d : Nat} {kk : Nat → Nat} {vh : Nat → Int32}
theorem TV_.of (h : TH_ M T m R kk) : TV_ M T m R kk (hm_ M T) (m + 1) := ⟨fun i hi _ => h.1 i hi, fun i r hi _ => h.2.1 i r hi, fun i r hi hr e => ⟨by omega, h.2.2.1 i r hi hr e⟩, h.2.2.2.1, h.2.2.2.2⟩
theorem TV_.th (h : TV_ M T m R kk vh (m + 1)) (hR : R ≤ 600) (e : ∀ r, r < R → hm_ M T r = vh r) : TH_ M T m R kk := ⟨fun i hi => h.1 i hi (by omega), fun i r hi hr hm => by
  have hrR : r < R := mb_lt (h.1 i hi (by omega)) hR (by omega) hm
  rw [e r hrR]
  exact h.2.1 i r hi (by omega) hr hm, fun i r hi hr q => by rw [e r hr] at q; exact (h.2.2.1 i r hi hr q).2, fun r hr => by rw [e r hr]; exact h.2.2.2.1 r hr, fun r hr q => by rw [e r hr] at q; exact h.2.2.2.2 r hr q⟩
theorem mb_sa {b k r : Nat} (h0 : rf_ M' b 0 = rf_ M b 0) (h : ∀ j, j < k → it_ M' (rf_ M b 0) j = it_ M (rf_ M b 0) j) : mb_ M' b k r ↔ mb_ M b k r := by
  unfold mb_
  rw [h0]
  exact ⟨fun ⟨j, hj, e⟩ => ⟨j, hj, by rw [← h j hj]; exact e⟩, fun ⟨j, hj, e⟩ => ⟨j, hj, by rw [h j hj]; exact e⟩⟩
theorem BR_sa {b k : Nat} (h2 : it_ M' b 2 = it_ M b 2) (h0 : rf_ M' b 0 = rf_ M b 0) (h : ∀ j, j < k → it_ M' (rf_ M b 0) j = it_ M (rf_ M b 0) j) (g : BR_ M b k R) : BR_ M' b k R := ⟨by rw [h2]; exact g.1, g.2.1, fun j hj => by rw [h0, h j hj]; exact g.2.2 j hj⟩
theorem TV_.sa (hb : ∀ i, i ≤ m → i ≠ d → bk_ M' T m i = bk_ M T m i) (h : ∀ i, i ≤ m → i ≠ d → it_ M' (bk_ M T m i) 2 = it_ M (bk_ M T m i) 2 ∧ rf_ M' (bk_ M T m i) 0 = rf_ M (bk_ M T m i) 0 ∧ ∀ j, j < kk i → it_ M' (rf_ M (bk_ M T m i) 0) j = it_ M (rf_ M (bk_ M T m i) 0) j) (ha : ∀ r, r < R → al_ M' T r = al_ M T r) (g : TV_ M T m R kk vh d) : TV_ M' T m R kk vh d := by
  refine ⟨fun i hi hd => ?_, fun i r hi hd hr hm => ?_, fun i r hi hr e => ?_, g.2.2.2.1, fun r hr e => by rw [ha r hr]; exact g.2.2.2.2 r hr e⟩
  · rw [hb i hi hd]
    exact BR_sa (h i hi hd).1 (h i hi hd).2.1 (h i hi hd).2.2 (g.1 i hi hd)
  · rw [hb i hi hd, mb_sa (h i hi hd).2.1 (h i hi hd).2.2] at hm
    exact g.2.1 i r hi hd hr hm
  · obtain ⟨hd, q⟩ := g.2.2.1 i r hi hr e
    refine ⟨hd, ?_⟩
    rw [hb i (by omega) hd, mb_sa (h i (by omega) hd).2.1 (h i (by omega) hd).2.2]
    exact q
theorem TS_.ho (hS : TS_ ow M T nc m) : AK_ ow M T (rf_ M T 3) := own_AK hS.t.2.2.2.1 (Or.inr (Or.inr (Or.inl hS.kT)))
/-- home is none of the cells of blocks -/
theorem TS_.hne (hS : TS_ ow M T nc m) {b : Nat} (hb : kd_ M b = 2) : b ≠ rf_ M T 3 ∧ rf_ M b 0 ≠ rf_ M T 3 ∧ rf_ M b 1 ≠ rf_ M T 3 ∧ ∀ j, j < 8 → rf_ M (rf_ M b 1) j ≠ rf_ M T 3 := by
  obtain ⟨b0, b1, bz⟩ := hS.sh.blk hb
  have t3 := hS.t.2.2.2.1
  exact ⟨kd_ne hb t3.1 (by decide), own_ne b0 t3 (Or.inl (kd_ne hb hS.kT (by decide))), kd_ne b1.1 t3.1 (by decide), fun j hj => kd_ne (bz j hj).1 t3.1 (by decide)⟩
theorem TV_.home (hS : TS_ ow M T nc m) (hX : Ex_ (fun b => b = rf_ M T 3) M M') (g : TV_ M T m R kk vh d) : TV_ M' T m R kk vh d := by
  refine g.sa (fun i _ _ => hX.1.bk T m i) (fun i hi hd => ?_) (fun r _ => ?_)
  · obtain ⟨n1, n2, -⟩ := hS.hne (hS.bk i)
    exact ⟨hX.it n1 2, hX.rf _ _, fun j _ => hX.it n2 j⟩
  · unfold al_
    rw [hX.rf]
    exact hX.it (own_ne hS.t.2.2.1 hS.t.2.2.2.1 (Or.inr (by decide))) r
theorem TZ_.home {Z : Nat → Prop} (hS : TS_ ow M T nc m) (hX : Ex_ (fun b => b = rf_ M T 3) M M') (g : TZ_ M T nc m kk Z) : TZ_ M' T nc m kk Z := by
  intro i hi hZ
  obtain ⟨n1, n2, n3, n4⟩ := hS.hne (hS.bk i)
  refine ⟨(g i hi hZ).1, TZ_.ex hX hS g hi hZ n1 n2 n4 n3 (fun c hc => ⟨?_, ?_⟩)⟩
  · exact own_ne (hS.co hc).1 hS.t.2.2.2.1 (Or.inl (kd_ne (hS.cl hc) hS.kT (by decide)))
  · exact kd_ne (hS.co hc).2.1 hS.t.2.2.2.1.1 (by decide)
theorem TS_.home (hS : TS_ ow M T nc m) (hX : Ex_ (fun b => b = rf_ M T 3) M M') : TS_ ow M' T nc m := hS.ex hX (fun b hb => by rw [hb, hS.t.2.2.2.1.1]; decide)
theorem TS_.hX (hS : TS_ ow M T nc m) (hX : Ex_ (fun b => b = rf_ M T 3) M M') : Gw_ (AK_ ow M T) M M' := hX.gw.mono (fun b _ hb => by rw [hb]; exact hS.ho)
theorem nI_ne1 {a : Nat} (ha : a ≤ 600) : nI a ≠ -1 ∧ nI a ≠ -2 := by
  refine ⟨fun e => ?_, fun e => ?_⟩
  · rw [i_eq, nI_t (by omega)] at e
    have : (-1 : Int32).toInt = -1 := rfl
    omega
  · rw [i_eq, nI_t (by omega)] at e
    have : (-2 : Int32).toInt = -2 := rfl
    omega
theorem sp_numberV {K : Mm → Prop} {f0 : Nat} (hS : TS_ ow M T nc m) (hR : R ≤ 600) (g : TV_ M T m R kk vh d) (hd : m < d) (hf : f0 ≤ m)
    (hK : ∀ M', Ex_ (fun b => b = rf_ M T 3) M M' → (∀ r, r < R → (∃ f, f0 ≤ f ∧ f < m ∧ vh r = nI f) → hm_ M' T r = vh r) → (∀ r, r < R → ¬ (∃ f, f0 ≤ f ∧ f < m ∧ vh r = nI f) → hm_ M' T r = hm_ M T r) → K M') : wp_X8_numberFrom T (nI f0) M K := by
  have hm2 := hS.m2
  have eb : ∀ f, f < m → bk_ M T m f = el_ M (rf_ M T 1) f := fun f hf => if_pos hf
  have ev : ∀ f, f < m → hv_ m f = nI f := fun f hf => if_pos hf
  refine sp_numberFrom (kk := kk) (tag := fun r => (vh r).toInt.toNat) hS.sh hS.kT hS.lf hR hf (fun f _ h2 => ?_) (fun f r _ h2 hr hm => ?_) (fun M' X a1 a2 => ?_)
  · have := g.1 f (by omega) (by omega)
    rw [eb f h2] at this
    exact this
  · rw [← eb f h2] at hm
    have e := g.2.1 f r (by omega) (by omega) hr hm
    rw [ev f h2] at e
    simp only [e]
    rw [nI_t (by omega)]
    omega
  · have eh : ∀ r, hm_ M' T r = it_ M' (rf_ M T 3) r := fun r => by unfold hm_; rw [X.rf]
    refine hK M' X (fun r hr ⟨f, h1, h2, h3⟩ => ?_) (fun r hr hno => ?_)
    · obtain ⟨-, q⟩ := g.2.2.1 f r h2 hr h3
      rw [eb f h2] at q
      rw [eh, a1 f r h1 h2 (by omega) q, h3]
    · rw [eh]
      refine a2 r (by omega) (fun f h1 h2 q => hno ⟨f, h1, h2, ?_⟩)
      rw [← eb f h2] at q
      rw [g.2.1 f r (by omega) (by omega) (by omega) q, ev f h2]
/-- behind a removed frame the next ones move up -/
def sh_ (d : Nat) (x : Int32) : Int32 := if nI d < x then x - 1 else x
def sk_ {α : Type} (d : Nat) (f : Nat → α) : Nat → α := fun j => if j < d then f j else f (j + 1)
theorem sh_n (d : Nat) (hd : d ≤ 200) : sh_ d (-1) = -1 ∧ sh_ d (-2) = -2 := by
  unfold sh_
  have a1 : ¬ nI d < (-1 : Int32) := by
    rw [i_lt, nI_t (by omega)]
    have : (-1 : Int32).toInt = -1 := rfl
    omega
  have a2 : ¬ nI d < (-2 : Int32) := by
    rw [i_lt, nI_t (by omega)]
    have : (-2 : Int32).toInt = -2 := rfl
    omega
  rw [if_neg a1, if_neg a2]
  exact ⟨rfl, rfl⟩
theorem sh_i {d i : Nat} (hd : d ≤ 200) (hi : i ≤ 200) (hne : i ≠ d) : sh_ d (nI i) = nI (if i < d then i else i - 1) := by
  unfold sh_
  by_cases h : i < d
  · rw [if_pos h, if_neg (fun z => by rw [lt_nI (by omega) (by omega)] at z; omega)]
  · rw [if_neg h, if_pos ((lt_nI (by omega) (by omega)).mpr (by omega)), nI_s1 (by omega)]
end NB
