/-! clusterBy, mergeNext -/
section MG
variable {ow : Nat → Nat × Nat} {M M' : Mm} {T nc m R sz d i : Nat} {kk : Nat → Nat} {vh : Nat → Int32} {Z : Nat → Prop}
def TF_ (ow : Nat → Nat × Nat) (M : Mm) (T nc m R sz : Nat) : Prop := ∃ kk, TI_ ow M T nc m R sz kk (fun j => j < m)
theorem TA_eq (e : M'.1 = M.1) (b : Nat) : TA_ ow M' b ↔ TA_ ow M b := by
  unfold TA_ kd_
  rw [e]
theorem Gw_.tr' {A B : Nat → Prop} {M1 M2 : Mm} (h : Gw_ A M M1) (h2 : Gw_ B M1 M2) (hBA : ∀ b, kd_ M b ≠ 0 → B b → A b) : Gw_ A M M2 := ⟨h.1.tr h2.1, fun b hb hA k => by
  obtain ⟨g1, g2, g3⟩ := h.2 b hb hA k
  obtain ⟨q1, q2, q3⟩ := h2.2 b (by rw [h.kd hb]; exact hb) (fun z => hA (hBA b hb z)) k
  exact ⟨q1.trans g1, q2.trans g2, q3.trans g3⟩⟩
theorem Gw_.ta {M1 M2 : Mm} (h : Gw_ (TA_ ow M) M M1) (e : M1.1 = M.1) (hS : TS_ ow M1 T nc m) (h2 : Gw_ (AK_ ow M1 T) M1 M2) : Gw_ (TA_ ow M) M M2 := h.tr' h2 (fun b _ z => (TA_eq e b).mp (AK_.ta hS z))
theorem up_s (kk : Nat → Nat) (i k : Nat) : up_ kk i k i = k := if_pos rfl
theorem up_o (kk : Nat → Nat) {i j : Nat} (k : Nat) (h : j ≠ i) : up_ kk i k j = kk j := if_neg h
theorem sk_lt {α : Type} (f : Nat → α) {d j : Nat} (h : j < d) : sk_ d f j = f j := if_pos h
theorem sp_clusterBy {K : Mm → Int32 → Prop} {c : Nat} (h : TF_ ow M T nc m R sz) (hi : i < m) (hc : c < nc) (hK : ∀ M' m' r, Gw_ (TA_ ow M) M M' → m' ≤ m → TF_ ow M' T nc m' R sz → K M' r) : wp_X8_clusterBy T (nI i) (nI c) M K := by
  obtain ⟨kk, h⟩ := h
  have hS := h.1
  have hm2 := hS.m2
  have eb : el_ M (rf_ M T 1) i = bk_ M T m i := (if_pos hi).symm
  refine ⟨hS.kT, hS.t.2.1.1, sp_get hS.lf hi (by decide) ?_⟩
  rw [eb]
  refine fun _ => ⟨hS.bk i, sp_drop h (by omega) (fun M1 k1 X1 Y1 h1 _ _ _ _ _ => ?_)⟩
  have hS1 := h1.1
  have hB1 := h1.2.1.1 i (by omega)
  rw [up_s] at hB1
  rw [← Y1.bk T m i]
  refine ⟨fun e => ?_, fun e => ?_⟩
  · rw [hB1.1] at e
    have e0 : k1 = 0 := nI_inj (by have := hB1.2.1; omega) (by omega) e
    refine h1.remove hi (by rw [up_s]; exact e0) (fun M2 X2 e2 h2 _ => hK M2 (m - 1) _ (X1.ta Y1.1 hS1 X2) (by omega) ⟨_, h2.zmono (fun j hj z => ?_)⟩)
    rw [sk_ix]
    have q := ix_sk hi hj
    exact ⟨by have z : j < m - 1 := z; omega, q.2.1⟩
  · have hk1 : 0 < k1 := by
      rcases Nat.eq_zero_or_pos k1 with z | z
      · exact absurd (by rw [hB1.1, z]; rfl) e
      · exact z
    have t := hS1.t
    have b := hS1.bo i
    have s := hS1.sh.sor t.2.2.2.2.1.1
    refine ⟨t.2.2.2.2.1.1, b.1.1, t.1.1, sp_get hS1.lc hc (by decide) (fun _ => ⟨hS1.cl hc, ?_⟩)⟩
    obtain ⟨o0, o1⟩ := hS1.co hc
    rw [hB1.1]
    refine sp_arrange t.2.2.2.2.1.1 s.2.1 s.2.2.1 s.1.1 s.1.2.1 b.1.1 (own_ne b.1 s.2 (Or.inr (by decide))) (by rw [b.1.2.1]; exact hB1.2.1) (by have := hB1.2.1; omega) (by rw [b.1.2.1]; decide) (hS1.cl hc) o0.1 o1.1 o0.2.1 o1.2.1 (fun j hj => ?_) (fun M2 X2 hp _ _ => ?_)
    · obtain ⟨r, h1', h2'⟩ := hB1.2.2 j hj
      have := h1.2.2.2.1.2.1
      exact ⟨r, h2', by omega⟩
    · have hp2 : (sg_ (it_ M2 (rf_ M1 (bk_ M1 T m i) 0)) 0 (up_ kk i k1 i)).Perm (sg_ (it_ M1 (rf_ M1 (bk_ M1 T m i) 0)) 0 (up_ kk i k1 i)) := by
        rw [up_s, hp]
        exact ar_perm _ _
      obtain ⟨h2, X3⟩ := h1.perm (by omega) X2 hp2 (fun j _ z => z.2)
      have t2 := h2.1.t
      refine ⟨t2.1.1, t2.2.2.2.2.2.1, t2.2.2.2.2.1.1, ?_⟩
      rw [← X2.1.bk T m i]
      refine h2.reckon (by omega) (by rw [up_s]; exact hk1) (fun M3 X4 e3 h3 _ => hK M3 m _ ?_ (Nat.le_refl m) ⟨_, h3.zmono (fun j _ z => ?_)⟩)
      · exact (X1.ta Y1.1 hS1 X3).ta (X2.1.1.trans Y1.1) h2.1 X4
      · by_cases e : j = i
        · exact Or.inr e
        · exact Or.inl ⟨z, e⟩
theorem lp_merge_ok {K : Mm → Int32 → Prop} {E : Mm → Prop} {a b k1 k2 : Nat} {x1 : Int32} (hs : SH_ ow M) (ha : kd_ M a = 2) (hb : kd_ M b = 2) (hab : a ≠ b) (h1 : it_ M a 2 = nI k1) (h2 : it_ M b 2 = nI k2) (h64 : k1 + k2 ≤ 64)
    (hE : ∀ M', Ex_ (fun x => x = a ∨ x = rf_ M a 0) M M' → it_ M' a 2 = nI (k1 + k2) → (∀ j, j < k1 → it_ M' (rf_ M a 0) j = it_ M (rf_ M a 0) j) → (∀ j, j < k2 → it_ M' (rf_ M a 0) (k1 + j) = it_ M (rf_ M b 0) j) → E M') :
    ∀ n j M1, k2 - j < n → j ≤ k2 → Ex_ (fun x => x = a ∨ x = rf_ M a 0) M M1 → it_ M1 a 2 = nI (k1 + j) → (∀ q, q < k1 → it_ M1 (rf_ M a 0) q = it_ M (rf_ M a 0) q) → (∀ q, q < j → it_ M1 (rf_ M a 0) (k1 + q) = it_ M (rf_ M b 0) q) → lp_X8_mergeNext_39 T x1 a b K E n (nI j) M1 := by
  obtain ⟨a0, a1, -⟩ := hs.blk ha
  obtain ⟨b0, b1, -⟩ := hs.blk hb
  have nb : ¬ (b = a ∨ b = rf_ M a 0) := fun e => by
    rcases e with e | e
    · exact hab e.symm
    · exact kd_ne hb a0.1 (by decide) e
  have nb0 : ¬ (rf_ M b 0 = a ∨ rf_ M b 0 = rf_ M a 0) := fun e => by
    rcases e with e | e
    · exact kd_ne b0.1 ha (by decide) e
    · exact own_ne b0 a0 (Or.inl (fun z => hab z.symm)) e
  intro n
  induction n with
  | zero => intro j M1 h; omega
  | succ n ih =>
    intro j M1 hn hj X e1 e2 e3
    have eb2 : it_ M1 b 2 = nI k2 := (X.it nb 2).trans h2
    refine ⟨fun e => ?_, fun e => ?_⟩
    · rw [eb2, le_nI (by omega) (by omega)] at e
      have : j = k2 := by omega
      subst this
      exact hE M1 X e1 e2 e3
    · rw [eb2, le_nI (by omega) (by omega)] at e
      rw [X.rf, X.kd, X.ln, X.it nb0, ix_nI (by omega)]
      refine ⟨b0.1, by rw [b0.2.1]; exact vi_ (by omega) (by decide), sp_append (X.1.sh hs) (by rw [X.kd]; exact ha) e1 (by omega) (fun M2 X2 f2 _ f4 f5 _ => ?_)⟩
      rw [X.rf] at f4 f5
      have X2' : Ex_ (fun x => x = a ∨ x = rf_ M a 0) M1 M2 := X2.mono (fun x hx => by rw [X.rf] at hx; exact hx)
      rw [nI_p1]
      refine ih (j + 1) M2 (by omega) (by omega) (X.tr X2') (by rw [f2]; rfl) (fun q hq => by rw [f5 q (by omega)]; exact e2 q hq) (fun q hq => ?_)
      by_cases h : q = j
      · rw [h, f4]
      · rw [f5 (k1 + q) (by omega)]
        exact e3 q (by omega)
theorem TV_.void' {d' : Nat} (g : TV_ M T m R kk vh d') (hd' : m < d') (hd : kk d = 0) : TV_ M T m R kk vh d := ⟨fun i hi _ => g.1 i hi (by omega), fun i r hi _ => g.2.1 i r hi (by omega), fun i r hi hr e => by
  obtain ⟨-, q⟩ := g.2.2.1 i r hi hr e
  refine ⟨fun z => ?_, q⟩
  obtain ⟨j, hj, -⟩ := q
  rw [z, hd] at hj
  omega, g.2.2.2.1, g.2.2.2.2⟩
theorem rm_hr {hm hm' : Nat → Int32} {f0 r : Nat} (g : TV_ M T m R kk vh d) (hm2 : m ≤ 200) (hd : d < m) (hr : r < R) (hpre : hm r = vh r ∨ ∃ f, f0 ≤ f ∧ f < m ∧ vh r = nI f) (a1 : (∃ f, d ≤ f ∧ f < m - 1 ∧ sh_ d (vh r) = nI f) → hm' r = sh_ d (vh r)) (a2 : ¬ (∃ f, d ≤ f ∧ f < m - 1 ∧ sh_ d (vh r) = nI f) → hm' r = hm r) : hm' r = sh_ d (vh r) ∨ ∃ f, f0 ≤ f ∧ f < d ∧ sh_ d (vh r) = nI f := by
  by_cases q : ∃ f, d ≤ f ∧ f < m - 1 ∧ sh_ d (vh r) = nI f
  · exact Or.inl (a1 q)
  · rcases hpre with e | ⟨f, h1, h2, h3⟩
    · exact Or.inl (rm_home (vh' := hm') g hm2 hd hr a1 (fun z => by rw [a2 z, e]))
    · have hfd := (g.2.2.1 f r h2 hr h3).1
      have e := sh_i (d := d) (by omega) (show f ≤ 200 by omega) hfd
      by_cases h : f < d
      · rw [if_pos h] at e
        exact Or.inr ⟨f, h1, h, by rw [h3]; exact e⟩
      · rw [if_neg h] at e
        exact absurd ⟨f - 1, by omega, by omega, by rw [h3]; exact e⟩ q
end MG
