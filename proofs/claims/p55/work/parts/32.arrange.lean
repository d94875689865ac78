/-! Sorter.arrange -/
theorem merge_congr_ {α : Type} {le le' : α → α → Bool} : ∀ (xs ys : List α), (∀ x ∈ xs, ∀ y ∈ ys, le x y = le' x y) → xs.merge ys le = xs.merge ys le' := by
  intro xs
  induction xs with
  | nil => intro ys _; simp
  | cons x xs ih =>
    intro ys
    induction ys with
    | nil => intro _; simp
    | cons y ys ih2 =>
      intro h
      rw [List.cons_merge_cons, List.cons_merge_cons, h x List.mem_cons_self y List.mem_cons_self, ih (y :: ys) (fun a ha b hb => h a (List.mem_cons_of_mem _ ha) b hb), ih2 (fun a ha b hb => h a ha b (List.mem_cons_of_mem _ hb))]
theorem pas_congr {α : Type} {le le' : α → α → Bool} (w n : Nat) : ∀ l : List α, (∀ x ∈ l, ∀ y ∈ l, le x y = le' x y) → pas_ le w n l = pas_ le' w n l := by
  induction n with
  | zero => intro l _; rfl
  | succ n ih =>
    intro l h
    simp only [pas_]
    rw [ih (l.drop (2 * w)) (fun x hx y hy => h x (List.mem_of_mem_drop hx) y (List.mem_of_mem_drop hy)), merge_congr_ (l.take w) ((l.drop w).take w) (fun x hx y hy => h x (List.mem_of_mem_take hx) y (List.mem_of_mem_drop (List.mem_of_mem_take hy)))]
theorem srt_congr {α : Type} {le le' : α → α → Bool} (n : Nat) : ∀ (w : Nat) (l : List α), (∀ x ∈ l, ∀ y ∈ l, le x y = le' x y) → srt_ le n w l = srt_ le' n w l := by
  induction n with
  | zero => intro w l _; rfl
  | succ n ih =>
    intro w l h
    simp only [srt_]
    rw [pas_congr w l.length l h, ih _ _ (fun x hx y hy => h x ((pas_perm le' w _ l).mem_iff.mp hx) y ((pas_perm le' w _ l).mem_iff.mp hy))]
theorem ar_congr {α : Type} {le le' : α → α → Bool} (l : List α) (h : ∀ x ∈ l, ∀ y ∈ l, le x y = le' x y) : ar_ le l = ar_ le' l := srt_congr _ _ _ h
/-- a row's key: NULL behind all, or (nf) ahead of all -/
def ky_ (nf : Int32) (l v : Nat → Int32) (r : Nat) : Int64 := if l r = 0 then (v r).toInt64 else if nf = 0 then 1099511627776 else -1099511627776
theorem lp_keys_ok {a0 a1 a3 c : Nat} {nf : Int32} {M : Mm} {K E : Mm → Prop} (hk : kd_ M (rf_ M a0 0) = 22) (h1 : kd_ M a1 = 20) (nk : ln_ M (rf_ M a0 0) = 600) (hl1 : c ≤ ln_ M a1) (hb1 : ln_ M a1 < 1000000) (hv : kd_ M (rf_ M a3 0) = 20) (hl : kd_ M (rf_ M a3 1) = 21) (nv : ln_ M (rf_ M a3 0) = 600) (nl : ln_ M (rf_ M a3 1) = 600)
    (hrow : ∀ j, j < c → ∃ r, it_ M a1 j = nI r ∧ r < 600)
    (hE : ∀ M', Ex_ (fun b => b = rf_ M a0 0) M M' → (∀ j, j < c → lg_ M' (rf_ M a0 0) (ix_ (it_ M a1 j)) = ky_ nf (it_ M (rf_ M a3 1)) (it_ M (rf_ M a3 0)) (ix_ (it_ M a1 j))) → E M') :
    ∀ (n i : Nat) (M2 : Mm), i ≤ c → c - i < n → Ex_ (fun b => b = rf_ M a0 0) M M2 → (∀ j, j < i → lg_ M2 (rf_ M a0 0) (ix_ (it_ M a1 j)) = ky_ nf (it_ M (rf_ M a3 1)) (it_ M (rf_ M a3 0)) (ix_ (it_ M a1 j))) →
      lp_X7_arrange_3 a0 a1 (nI c) a3 0 nf K E n (nI i) M2 := by
  intro n
  induction n with
  | zero => intro i M2 _ h; omega
  | succ n ih =>
    intro i M2 hic hn hX hinv
    have e0 : ∀ a k, rf_ M2 a k = rf_ M a k := fun a k => hX.rf a k
    have ea : ∀ k, it_ M2 a1 k = it_ M a1 k := fun k => hX.it (fun z => by rw [z] at h1; omega) k
    have ev : ∀ k, it_ M2 (rf_ M a3 0) k = it_ M (rf_ M a3 0) k := fun k => hX.it (fun z => by rw [z] at hv; omega) k
    have el : ∀ k, it_ M2 (rf_ M a3 1) k = it_ M (rf_ M a3 1) k := fun k => hX.it (fun z => by rw [z] at hl; omega) k
    unfold lp_X7_arrange_3
    simp only [e0, hX.ln, hX.kd]
    rw [le_nI (by omega) (by omega)]
    refine ⟨fun hc => hE M2 hX (fun j hj => hinv j (by omega)), fun hc => ?_⟩
    obtain ⟨r, hr, hr6⟩ := hrow i (by omega)
    have hv6 : vp_in (nI r) 600 := vi_ hr6 (by omega)
    rw [ix_nI (n := i) (by omega), ea, hr, ix_nI (n := r) (by omega), nk, nv, nl, el, ev, nI_p1]
    have go : ∀ v : Int64, v = ky_ nf (it_ M (rf_ M a3 1)) (it_ M (rf_ M a3 0)) r → lp_X7_arrange_3 a0 a1 (nI c) a3 0 nf K E n (nI (i + 1)) (sL_ M2 (rf_ M a0 0) r v) := by
      intro v ev2
      subst ev2
      refine ih (i + 1) _ (by omega) (by omega) (hX.tr (Ex_.sL _ _ _ rfl)) (fun j hj => ?_)
      by_cases hj2 : ix_ (it_ M a1 j) = r
      · rw [hj2, lg_sLs]
      · rw [lg_sLn (fun z => hj2 z.2)]
        refine hinv j ?_
        by_cases hji : j = i
        · subst hji
          rw [hr, ix_nI (by omega)] at hj2
          exact absurd rfl hj2
        · omega
    refine ⟨vi_ (by omega) (by omega), hv, hv6, hk, hl, hv6, fun _ => ⟨fun hz => ⟨fun _ => ⟨hv6, fun M12 e12 => ?_⟩, fun z => absurd trivial z⟩, fun hz => ⟨fun hn0 => ⟨hv6, fun M17 e17 => ?_⟩, fun hn0 => ⟨hv6, fun M19 e19 => ?_⟩⟩⟩⟩
    · subst e12
      exact go _ (by unfold ky_; rw [if_pos hz])
    · subst e17
      exact go _ (by unfold ky_; rw [if_neg hz, if_pos hn0])
    · subst e19
      exact go _ (by unfold ky_; rw [if_neg hz, if_neg hn0])
theorem sp_arrange {a0 a1 a3 c : Nat} {nf : Int32} {M : Mm} {K : Mm → Prop} (h0 : kd_ M a0 = 9) (hs : kd_ M (rf_ M a0 1) = 20) (ns : ln_ M (rf_ M a0 1) = 600) (hk : kd_ M (rf_ M a0 0) = 22) (nk : ln_ M (rf_ M a0 0) = 600) (h1 : kd_ M a1 = 20) (hne : a1 ≠ rf_ M a0 1) (hl1 : c ≤ ln_ M a1) (hc6 : c ≤ 600) (hb1 : ln_ M a1 < 1000000) (h3 : kd_ M a3 = 3) (hv : kd_ M (rf_ M a3 0) = 20) (hl : kd_ M (rf_ M a3 1) = 21) (nv : ln_ M (rf_ M a3 0) = 600) (nl : ln_ M (rf_ M a3 1) = 600)
    (hrow : ∀ j, j < c → ∃ r, it_ M a1 j = nI r ∧ r < 600)
    (hK : ∀ M', Ex_ (fun b => b = rf_ M a0 1 ∨ b = a1 ∨ b = rf_ M a0 0) M M' → sg_ (it_ M' a1) 0 c = ar_ (lk_ (ky_ nf (it_ M (rf_ M a3 1)) (it_ M (rf_ M a3 0)))) (sg_ (it_ M a1) 0 c) → (∀ j, c ≤ j → it_ M' a1 j = it_ M a1 j) → K M') : wp_X7_arrange a0 a1 (nI c) a3 0 nf M K := by
  refine ⟨h0, h1, h3, c + 1, lp_keys_ok (E := fun M20 => Nk_ M M20 → (∃ n48 : Nat, lp_X7_arrange_81 a0 a1 (nI c) K (fun M47 => Nk_ M20 M47 → K M47) n48 (1 : Int32) M20)) hk h1 nk hl1 hb1 hv hl nv nl hrow (fun M1 x1 y1 _ => ⟨2 * c + 2, ?_⟩) (c + 1) 0 M (by omega) (by omega) (Ex_.refl _ _) (fun j hj => by omega)⟩
  have e1 : ∀ k, rf_ M1 a0 k = rf_ M a0 k := fun k => x1.rf a0 k
  have ea : it_ M1 a1 = it_ M a1 := funext fun k => x1.it (fun z => by rw [z] at h1; omega) k
  have ecg : ar_ (lk_ (lg_ M1 (rf_ M a0 0))) (sg_ (it_ M a1) 0 c) = ar_ (lk_ (ky_ nf (it_ M (rf_ M a3 1)) (it_ M (rf_ M a3 0)))) (sg_ (it_ M a1) 0 c) := ar_congr _ (fun x hx y hy => by
    obtain ⟨jx, -, h8, rfl⟩ := sg_mem.mp hx
    obtain ⟨jy, -, h9, rfl⟩ := sg_mem.mp hy
    simp only [lk_]
    rw [y1 jx (by omega), y1 jy (by omega)])
  have ps := lp_passes_ok (a0 := a0) (a1 := a1) (c := c) (M := M1) (K := K) (E := fun M47 => Nk_ M1 M47 → K M47)
  simp only [e1, x1.ln, x1.kd, ea] at ps
  refine ps h0 hs hk h1 hne (by omega) hl1 (by omega) hb1 (by omega) (fun M' x2 y2 z2 _ => ?_) (2 * c + 2) 1 c M1 (by omega) (by omega) (by omega) (by have := Nat.lt_two_pow_self (n := c); omega) (Ex_.refl _ _) (fun j hj => by rw [ea, nk]; exact hrow j hj) ?_ (fun j _ => by rw [ea])
  · refine hK M' ((x1.mono fun b hb => Or.inr (Or.inr hb)).tr (x2.mono fun b hb => hb.elim Or.inl (fun z => Or.inr (Or.inl z)))) (y2.trans ecg) z2
  · rw [ea]
    unfold ar_
    rw [sg_len]
