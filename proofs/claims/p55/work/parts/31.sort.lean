/-! Column.isSame, Sorter: what they do -/
theorem ab_i {x y : Int32} (h : ¬ x ≤ y) : y < x := by rw [i_lt]; rw [i_le] at h; omega
theorem sp_isSame {a0 r q : Nat} {M : Mm} {K : Mm → Int32 → Prop} (h0 : kd_ M a0 = 3) (hv : kd_ M (rf_ M a0 0) = 20) (hl : kd_ M (rf_ M a0 1) = 21) (nv : ln_ M (rf_ M a0 0) = 600) (nl : ln_ M (rf_ M a0 1) = 600) (hr : r < 600) (hq : q < 600)
    (hK : ∀ x : Int32, (x = 1 ∧ it_ M (rf_ M a0 1) r = it_ M (rf_ M a0 1) q ∧ it_ M (rf_ M a0 0) r = it_ M (rf_ M a0 0) q) ∨ (x = 0 ∧ ¬ (it_ M (rf_ M a0 1) r = it_ M (rf_ M a0 1) q ∧ it_ M (rf_ M a0 0) r = it_ M (rf_ M a0 0) q)) → K M x) : wp_X1_isSame a0 (nI r) (nI q) M K := by
  unfold wp_X1_isSame
  rw [ix_nI (by omega), ix_nI (by omega), nv, nl]
  have v1 := vi_ (N := 600) hr (by omega)
  have v2 := vi_ (N := 600) hq (by omega)
  refine ⟨h0, hl, v1, fun _ => ⟨v2, fun _ => ⟨fun e1 => ⟨hv, v1, v2, fun e2 => hK 1 (Or.inl ⟨rfl, e1, e2⟩), fun e2 => hK 0 (Or.inr ⟨rfl, fun z => e2 z.2⟩)⟩, fun e1 => hK 0 (Or.inr ⟨rfl, fun z => e1 z.1⟩)⟩⟩⟩
/-- the order of two rows by the sorter's keys -/
def lk_ (key : Nat → Int64) : Int32 → Int32 → Bool := fun x y => decide ((key (ix_ x)).toInt ≤ (key (ix_ y)).toInt)
theorem lk_tr (key : Nat → Int64) : ∀ a b c, lk_ key a b = true → lk_ key b c = true → lk_ key a c = true := by
  intro a b c h1 h2
  simp only [lk_, decide_eq_true_eq] at *
  omega
theorem lk_tot (key : Nat → Int64) : ∀ a b, (lk_ key a b || lk_ key b a) = true := by
  intro a b
  simp only [lk_, Bool.or_eq_true, decide_eq_true_eq]
  omega
theorem lp_join_ok {a0 a1 s m e : Nat} {M : Mm} {K E : Mm → Prop} (hs : kd_ M (rf_ M a0 1) = 20) (hk : kd_ M (rf_ M a0 0) = 22) (h1 : kd_ M a1 = 20) (hne : a1 ≠ rf_ M a0 1) (hln : e ≤ ln_ M (rf_ M a0 1)) (hl1 : e ≤ ln_ M a1) (hsm : s ≤ m) (hme : m ≤ e) (hb : ln_ M (rf_ M a0 1) < 1000000) (hb1 : ln_ M a1 < 1000000) (hbk : ln_ M (rf_ M a0 0) < 1000000)
    (hrow : ∀ j, s ≤ j → j < e → ∃ r, it_ M a1 j = nI r ∧ r < ln_ M (rf_ M a0 0))
    (hE : ∀ M', Ex_ (fun b => b = rf_ M a0 1) M M' → (∀ j, j < s → it_ M' (rf_ M a0 1) j = it_ M (rf_ M a0 1) j) → sg_ (it_ M' (rf_ M a0 1)) s (e - s) = (sg_ (it_ M a1) s (m - s)).merge (sg_ (it_ M a1) m (e - m)) (lk_ (lg_ M (rf_ M a0 0))) → E M') :
    ∀ (n l r t : Nat) (M2 : Mm), s ≤ l → l ≤ m → m ≤ r → r ≤ e → s ≤ t → t ≤ e → t + s + m = l + s + r → e - t < n → Ex_ (fun b => b = rf_ M a0 1) M M2 → (∀ j, j < s → it_ M2 (rf_ M a0 1) j = it_ M (rf_ M a0 1) j) →
      sg_ (it_ M2 (rf_ M a0 1)) s (t - s) ++ (sg_ (it_ M a1) l (m - l)).merge (sg_ (it_ M a1) r (e - r)) (lk_ (lg_ M (rf_ M a0 0))) = (sg_ (it_ M a1) s (m - s)).merge (sg_ (it_ M a1) m (e - m)) (lk_ (lg_ M (rf_ M a0 0))) →
      lp_X7_join_9 a0 a1 (nI m) (nI e) K E n (nI l) (nI r) (nI t) M2 := by
  intro n
  induction n with
  | zero => intro l r t M2 _ _ _ _ _ _ _ h; omega
  | succ n ih =>
    intro l r t M2 hsl hlm hmr hre hst hte hsum hn hX hpre hinv
    have e1 : ∀ k, rf_ M2 a0 k = rf_ M a0 k := fun k => hX.rf a0 k
    have ea : ∀ k, it_ M2 a1 k = it_ M a1 k := fun k => hX.it hne k
    have ek : ∀ k, lg_ M2 (rf_ M a0 0) k = lg_ M (rf_ M a0 0) k := fun k => hX.lg (fun z => by rw [z] at hk; omega) k
    unfold lp_X7_join_9
    simp only [e1, hX.ln, hX.kd]
    rw [le_nI (by omega) (by omega), le_nI (by omega) (by omega), le_nI (by omega) (by omega)]
    -- one step to the left, to the right
    have goL : l < m → t < e → (r < e → lk_ (lg_ M (rf_ M a0 0)) (it_ M a1 l) (it_ M a1 r) = true) → lp_X7_join_9 a0 a1 (nI m) (nI e) K E n (nI l + 1) (nI r) (nI t + 1) (sI_ M2 (rf_ M a0 1) (ix_ (nI t)) (it_ M2 a1 (ix_ (nI l)))) := by
      intro hl ht hle
      rw [nI_p1, nI_p1, ix_nI (by omega), ix_nI (by omega), ea]
      refine ih (l + 1) r (t + 1) _ (by omega) (by omega) hmr hre (by omega) (by omega) (by omega) (by omega) (hX.tr (Ex_.sI _ _ _ rfl)) (fun j hj => by rw [it_sIk (by omega)]; exact hpre j hj) ?_
      rw [← hinv, show t + 1 - s = (t - s) + 1 by omega, sg_snoc, show s + (t - s) = t by omega, it_sIs, List.append_assoc]
      rw [sg_congr (g := it_ M2 (rf_ M a0 1)) (fun j _ h9 => it_sIk (by omega))]
      congr 1
      rw [show m - l = (m - (l + 1)) + 1 by omega]
      by_cases hr : r < e
      · rw [show e - r = (e - (r + 1)) + 1 by omega]
        simp only [sg_]
        rw [List.cons_merge_cons_pos _ _ _ (hle hr)]
        rfl
      · rw [show e - r = 0 by omega]
        simp only [sg_, List.merge_right]
        rfl
    have goR : r < e → t < e → (l < m → ¬ lk_ (lg_ M (rf_ M a0 0)) (it_ M a1 l) (it_ M a1 r) = true) → lp_X7_join_9 a0 a1 (nI m) (nI e) K E n (nI l) (nI r + 1) (nI t + 1) (sI_ M2 (rf_ M a0 1) (ix_ (nI t)) (it_ M2 a1 (ix_ (nI r)))) := by
      intro hr ht hle
      rw [nI_p1, nI_p1, ix_nI (by omega), ix_nI (by omega), ea]
      refine ih l (r + 1) (t + 1) _ hsl hlm (by omega) (by omega) (by omega) (by omega) (by omega) (by omega) (hX.tr (Ex_.sI _ _ _ rfl)) (fun j hj => by rw [it_sIk (by omega)]; exact hpre j hj) ?_
      rw [← hinv, show t + 1 - s = (t - s) + 1 by omega, sg_snoc, show s + (t - s) = t by omega, it_sIs, List.append_assoc]
      rw [sg_congr (g := it_ M2 (rf_ M a0 1)) (fun j _ h9 => it_sIk (by omega))]
      congr 1
      rw [show e - r = (e - (r + 1)) + 1 by omega]
      by_cases hl : l < m
      · rw [show m - l = (m - (l + 1)) + 1 by omega]
        simp only [sg_]
        rw [List.cons_merge_cons_neg _ _ _ (hle hl)]
        rfl
      · rw [show m - l = 0 by omega]
        simp only [sg_, List.nil_merge]
        rfl
    refine ⟨fun hc => ?_, fun hc => ?_⟩
    · have : t = e := by omega
      subst this
      refine hE M2 hX hpre ?_
      rw [← hinv, show m - l = 0 by omega, show t - r = 0 by omega]
      simp [sg_]
    · have vt : vp_in (nI t) (ln_ M (rf_ M a0 1)) := vi_ (by omega) (by omega)
      refine ⟨fun hc2 => ⟨hs, vi_ (by omega) (by omega), vt, fun M6 e6 => ?_⟩, fun hc2 => ⟨fun hc3 => ⟨hs, vi_ (by omega) (by omega), vt, fun M11 e11 => ?_⟩, fun hc3 => ?_⟩⟩
      · subst e6
        exact goL (by omega) (by omega) (fun z => by omega)
      · subst e11
        exact goR (by omega) (by omega) (fun z => by omega)
      · obtain ⟨rl, hrl, hrl2⟩ := hrow l (by omega) (by omega)
        obtain ⟨rr, hrr, hrr2⟩ := hrow r (by omega) (by omega)
        rw [ix_nI (n := l) (by omega), ix_nI (n := r) (by omega), ea, ea, hrl, hrr]
        refine ⟨hk, vi_ (by omega) (by omega), vi_ hrl2 (by omega), vi_ (by omega) (by omega), vi_ hrr2 (by omega), fun hc4 => ⟨hs, vi_ (by omega) (by omega), vt, fun M21 e21 => ?_⟩, fun hc4 => ⟨hs, vi_ (by omega) (by omega), vt, fun M25 e25 => ?_⟩⟩
        · subst e21
          rw [← hrr, ← ea]
          have := goR (by omega) (by omega) (fun _ => by
            rw [hrl, hrr]
            simp only [lk_, decide_eq_true_eq]
            rw [ek, ek, l_lt] at hc4
            omega)
          rwa [ix_nI (n := r) (by omega)] at this
        · subst e25
          rw [← hrl, ← ea]
          have := goL (by omega) (by omega) (fun _ => by
            rw [hrl, hrr]
            simp only [lk_, decide_eq_true_eq]
            rw [ek, ek, l_lt] at hc4
            omega)
          rwa [ix_nI (n := l) (by omega)] at this
theorem sp_join {a0 a1 s m e : Nat} {M : Mm} {K : Mm → Prop} (h0 : kd_ M a0 = 9) (hs : kd_ M (rf_ M a0 1) = 20) (hk : kd_ M (rf_ M a0 0) = 22) (h1 : kd_ M a1 = 20) (hne : a1 ≠ rf_ M a0 1) (hln : e ≤ ln_ M (rf_ M a0 1)) (hl1 : e ≤ ln_ M a1) (hsm : s ≤ m) (hme : m ≤ e) (hb : ln_ M (rf_ M a0 1) < 1000000) (hb1 : ln_ M a1 < 1000000) (hbk : ln_ M (rf_ M a0 0) < 1000000)
    (hrow : ∀ j, s ≤ j → j < e → ∃ r, it_ M a1 j = nI r ∧ r < ln_ M (rf_ M a0 0))
    (hK : ∀ M', Ex_ (fun b => b = rf_ M a0 1) M M' → (∀ j, j < s → it_ M' (rf_ M a0 1) j = it_ M (rf_ M a0 1) j) → sg_ (it_ M' (rf_ M a0 1)) s (e - s) = (sg_ (it_ M a1) s (m - s)).merge (sg_ (it_ M a1) m (e - m)) (lk_ (lg_ M (rf_ M a0 0))) → K M') : wp_X7_join a0 a1 (nI s) (nI m) (nI e) M K := by
  refine ⟨h0, h1, e - s + 1, lp_join_ok (E := fun M' => Nk_ M M' → K M') hs hk h1 hne hln hl1 hsm hme hb hb1 hbk hrow (fun M' x1 x2 x3 _ => hK M' x1 x2 x3) (e - s + 1) s m s M (Nat.le_refl _) hsm (Nat.le_refl _) hme (Nat.le_refl _) (by omega) (by omega) (by omega) (Ex_.refl _ _) (fun _ _ => rfl) ?_⟩
  rw [Nat.sub_self]
  rfl
/-! one pass of the width w, the passes -/
theorem sg_snd {α : Type} (f : Nat → α) (i n : Nat) : sg_ f i n = sg_ (fun j => f (i + j)) 0 n := by
  induction n with
  | zero => rfl
  | succ n ih => rw [sg_snoc, sg_snoc, ih, Nat.zero_add]
theorem lp_pass_ok {a0 a1 c w : Nat} {M : Mm} {K E : Mm → Prop} (h0 : kd_ M a0 = 9) (hs : kd_ M (rf_ M a0 1) = 20) (hk : kd_ M (rf_ M a0 0) = 22) (h1 : kd_ M a1 = 20) (hne : a1 ≠ rf_ M a0 1) (hln : c ≤ ln_ M (rf_ M a0 1)) (hl1 : c ≤ ln_ M a1) (hb : ln_ M (rf_ M a0 1) < 1000000) (hb1 : ln_ M a1 < 1000000) (hbk : ln_ M (rf_ M a0 0) < 1000000) (hw : 0 < w) (hwc : w < c)
    (hrow : ∀ j, j < c → ∃ r, it_ M a1 j = nI r ∧ r < ln_ M (rf_ M a0 0))
    (hE : ∀ M', Ex_ (fun b => b = rf_ M a0 1) M M' → sg_ (it_ M' (rf_ M a0 1)) 0 c = pas_ (lk_ (lg_ M (rf_ M a0 0))) w c (sg_ (it_ M a1) 0 c) → E M') :
    ∀ (n s : Nat) (M2 : Mm), s % (2 * w) = 0 → s ≤ c + 2 * w → c + 2 * w - s < n → Ex_ (fun b => b = rf_ M a0 1) M M2 →
      sg_ (it_ M2 (rf_ M a0 1)) 0 (min s c) ++ pas_ (lk_ (lg_ M (rf_ M a0 0))) w c (sg_ (it_ M a1) s (c - s)) = pas_ (lk_ (lg_ M (rf_ M a0 0))) w c (sg_ (it_ M a1) 0 c) →
      lp_X7_arrange_90 a0 a1 (nI c) (nI w) K E n (nI s) M2 := by
  intro n
  induction n with
  | zero => intro s M2 _ _ h; omega
  | succ n ih =>
    intro s M2 hmod hsc hn hX hinv
    unfold lp_X7_arrange_90
    rw [le_nI (by omega) (by omega)]
    refine ⟨fun hc => hE M2 hX ?_, fun hc => ?_⟩
    · rw [← hinv, show min s c = c by omega, show c - s = 0 by omega]
      have : pas_ (lk_ (lg_ M (rf_ M a0 0))) w c (sg_ (it_ M a1) s 0) = [] := List.eq_nil_of_length_eq_zero (by rw [pas_len]; rfl)
      rw [this, List.append_nil]
    · rw [show nI s + nI w = nI (s + w) from nI_add s w, nI_min (by omega) (by omega), show nI (min (s + w) c) + nI w = nI (min (s + w) c + w) from nI_add _ w, nI_min (by omega) (by omega)]
      have e1 : ∀ k, rf_ M2 a0 k = rf_ M a0 k := fun k => hX.rf a0 k
      have ea : ∀ k, it_ M2 a1 k = it_ M a1 k := fun k => hX.it hne k
      have ek : ∀ k, lg_ M2 (rf_ M a0 0) k = lg_ M (rf_ M a0 0) k := fun k => hX.lg (fun z => by rw [z] at hk; omega) k
      have ekf : lg_ M2 (rf_ M a0 0) = lg_ M (rf_ M a0 0) := funext ek
      have eaf : it_ M2 a1 = it_ M a1 := funext ea
      have jn := sp_join (a0 := a0) (a1 := a1) (s := s) (m := min (s + w) c) (e := min (min (s + w) c + w) c) (M := M2) (K := fun M28 => Nk_ M2 M28 → lp_X7_arrange_90 a0 a1 (nI c) (nI w) K E n (nI s + (2 : Int32) * nI w) M28)
      simp only [e1, hX.ln, hX.kd, ekf, eaf] at jn
      refine jn h0 hs hk h1 hne (by omega) (by omega) (by omega) (by omega) hb hb1 hbk (fun j j1 j2 => hrow j (by omega)) (fun M' x1 x2 x3 _ => ?_)
      rw [show (2 : Int32) * nI w = nI (2 * w) from pk_mul 2 w, show nI s + nI (2 * w) = nI (s + 2 * w) from nI_add _ _]
      refine ih (s + 2 * w) M' (by rw [Nat.add_mod_right]; exact hmod) (by omega) (by omega) (hX.tr x1) ?_
      rw [← hinv]
      have hs0 : min s c = s := by omega
      rw [hs0]
      have esp : sg_ (it_ M' (rf_ M a0 1)) 0 (min (s + 2 * w) c) = sg_ (it_ M2 (rf_ M a0 1)) 0 s ++ sg_ (it_ M' (rf_ M a0 1)) s (min (min (s + w) c + w) c - s) := by
        rw [show min (s + 2 * w) c = s + (min (min (s + w) c + w) c - s) by omega, sg_app, Nat.zero_add, sg_congr (f := it_ M' (rf_ M a0 1)) (g := it_ M2 (rf_ M a0 1)) (n := s) (fun j _ h9 => x2 j (by omega))]
      rw [esp, List.append_assoc]
      congr 1
      rw [x3]
      have hc0 : c = (c - 1) + 1 := by omega
      rw [show pas_ (lk_ (lg_ M (rf_ M a0 0))) w c (sg_ (it_ M a1) s (c - s)) = pas_ (lk_ (lg_ M (rf_ M a0 0))) w (c - 1 + 1) (sg_ (it_ M a1) s (c - s)) by rw [← hc0]]
      simp only [pas_]
      rw [if_neg (by rw [sg_len]; omega), sg_take, sg_drop, sg_take, sg_drop]
      congr 1
      · congr 1
        · congr 1
          omega
        · by_cases hh : s + w ≤ c
          · rw [show min (s + w) c = s + w by omega]
            congr 1
            omega
          · rw [show min (min (s + w) c + w) c - min (s + w) c = 0 by omega, show min w (c - s - w) = 0 by omega]
            rfl
      · rw [show c - (s + 2 * w) = c - s - 2 * w by omega]
        exact pas_fuel _ hw _ _ _ (by rw [sg_len]; omega) (by rw [sg_len]; omega)
theorem lp_passes_ok {a0 a1 c : Nat} {M : Mm} {K E : Mm → Prop} (h0 : kd_ M a0 = 9) (hs : kd_ M (rf_ M a0 1) = 20) (hk : kd_ M (rf_ M a0 0) = 22) (h1 : kd_ M a1 = 20) (hne : a1 ≠ rf_ M a0 1) (hln : c ≤ ln_ M (rf_ M a0 1)) (hl1 : c ≤ ln_ M a1) (hb : ln_ M (rf_ M a0 1) < 1000000) (hb1 : ln_ M a1 < 1000000) (hbk : ln_ M (rf_ M a0 0) < 1000000)
    (hE : ∀ M', Ex_ (fun b => b = rf_ M a0 1 ∨ b = a1) M M' → sg_ (it_ M' a1) 0 c = ar_ (lk_ (lg_ M (rf_ M a0 0))) (sg_ (it_ M a1) 0 c) → (∀ j, c ≤ j → it_ M' a1 j = it_ M a1 j) → E M') :
    ∀ (n w f : Nat) (M2 : Mm), 0 < w → w ≤ 2 * c + 1 → 2 * c + 2 - w < n → c ≤ w * 2 ^ f → Ex_ (fun b => b = rf_ M a0 1 ∨ b = a1) M M2 → (∀ j, j < c → ∃ r, it_ M2 a1 j = nI r ∧ r < ln_ M (rf_ M a0 0)) →
      srt_ (lk_ (lg_ M (rf_ M a0 0))) f w (sg_ (it_ M2 a1) 0 c) = ar_ (lk_ (lg_ M (rf_ M a0 0))) (sg_ (it_ M a1) 0 c) → (∀ j, c ≤ j → it_ M2 a1 j = it_ M a1 j) →
      lp_X7_arrange_81 a0 a1 (nI c) K E n (nI w) M2 := by
  intro n
  induction n with
  | zero => intro w f M2 _ _ h; omega
  | succ n ih =>
    intro w f M2 hw0 hwc hn hf hX hrow hinv htail
    have e1 : ∀ k, rf_ M2 a0 k = rf_ M a0 k := fun k => hX.rf a0 k
    have ek : lg_ M2 (rf_ M a0 0) = lg_ M (rf_ M a0 0) := funext fun k => hX.lg (fun z => by
      rcases z with z | z <;> rw [z] at hk <;> omega) k
    unfold lp_X7_arrange_81
    rw [le_nI (by omega) (by omega)]
    refine ⟨fun hc => hE M2 hX ?_ htail, fun hc => ⟨c + 2 * w + 1, ?_⟩⟩
    · rw [← hinv]
      cases f with
      | zero => rfl
      | succ f =>
        unfold srt_
        rw [if_neg (by rw [sg_len]; omega)]
    · have ps := lp_pass_ok (a0 := a0) (a1 := a1) (c := c) (w := w) (M := M2) (K := K) (E := fun M34 => Nk_ M2 M34 → (kd_ M34 (rf_ M34 a0 1) = 20 ∧ (¬ (0 : Int32) < 0 ∧ (¬ (0 : Int32) < 0 ∧ (¬ nI c < 0 ∧ (ix_ (0 : Int32) + ix_ (nI c) ≤ ln_ M34 (rf_ M34 a0 1) ∧ (ix_ (0 : Int32) + ix_ (nI c) ≤ ln_ M34 a1 ∧ (∀ M41, M41 = aI_ M34 a1 (va_cpy (it_ M34 (rf_ M34 a0 1)) (it_ M34 a1) (ix_ (0 : Int32)) (ix_ (0 : Int32)) (ix_ (nI c))) → lp_X7_arrange_81 a0 a1 (nI c) K E n (nI w * (2 : Int32)) M41))))))))
      simp only [e1, hX.ln, hX.kd, ek] at ps
      refine ps h0 hs hk h1 hne hln hl1 hb hb1 hbk hw0 (by omega) hrow (fun M' x1 x2 _ => ?_) (c + 2 * w + 1) 0 M2 (by simp) (by omega) (by omega) (Ex_.refl _ _) (by simp [sg_])
      have e1' : ∀ k, rf_ M' a0 k = rf_ M a0 k := fun k => (x1.rf a0 k).trans (e1 k)
      have i0 : ix_ (0 : Int32) = 0 := rfl
      rw [e1', x1.kd, x1.ln, x1.ln, hX.kd, hX.ln, hX.ln, i0, ix_nI (by omega), Nat.zero_add]
      refine ⟨hs, by decide, by decide, fun z => ?_, hln, hl1, fun M41 e41 => ?_⟩
      · rw [i_lt, nI_t (by omega)] at z
        have : (0 : Int32).toInt = 0 := rfl
        omega
      · subst e41
        rw [show nI w * (2 : Int32) = nI (w * 2) from pk_mul w 2]
        have ecp : sg_ (it_ (aI_ M' a1 (va_cpy (it_ M' (rf_ M a0 1)) (it_ M' a1) 0 0 c)) a1) 0 c = sg_ (it_ M' (rf_ M a0 1)) 0 c := sg_congr fun j _ h9 => by
          rw [it_aI, if_pos rfl, pk_cpy_in (by omega) (by omega)]
          congr 1
          omega
        have hfp : 0 < f := by
          cases f with
          | zero => simp at hf; omega
          | succ f => omega
        obtain ⟨f', rfl⟩ : ∃ f', f = f' + 1 := ⟨f - 1, by omega⟩
        refine ih (w * 2) f' _ (by omega) (by omega) (by omega) ?_ ((hX.tr (x1.mono fun b hb => Or.inl hb)).tr (Ex_.aI _ _ (Or.inr rfl))) ?_ ?_ ?_
        · rw [Nat.pow_succ] at hf
          rw [Nat.mul_assoc, Nat.mul_comm 2]
          exact hf
        · intro j hj
          have hmem : it_ (aI_ M' a1 (va_cpy (it_ M' (rf_ M a0 1)) (it_ M' a1) 0 0 c)) a1 j ∈ sg_ (it_ M2 a1) 0 c := by
            rw [← (pas_perm (lk_ (lg_ M (rf_ M a0 0))) w c _).mem_iff, ← x2, ← ecp]
            exact sg_mem.mpr ⟨j, by omega, by omega, rfl⟩
          obtain ⟨j2, -, h8, h9⟩ := sg_mem.mp hmem
          rw [← h9]
          exact hrow j2 (by omega)
        · rw [ecp, x2, ← hinv]
          simp only [srt_]
          rw [if_pos (by rw [sg_len]; omega), sg_len]
        · intro j hj
          rw [it_aI, if_pos rfl, pk_cpy_out (Or.inr (by omega)), x1.it hne, htail j hj]
