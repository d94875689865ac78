/-! the law itself, over the memory -/
section LW
variable {ow : Nat → Nat × Nat} {M M' : Mm} {F a0 L nc m R sz : Nat}
def SC_ (M : Mm) (a0 L : Nat) : Prop := kd_ M a0 = 30 ∧ ln_ M a0 = L
theorem SC_.nk (h : SC_ M a0 L) (X : Nk_ M M') : SC_ M' a0 L := ⟨X.k h.1 (by decide), by rw [X.n h.1 (by decide)]; exact h.2⟩
theorem sp_cell {K : Mm → Int32 → Prop} {j : Nat} (h : SC_ M a0 L) (hL : L ≤ 260) (hj : j < 1000) (hK : ∀ x, K M x) : wp_L_cell a0 (nI j) M K := by
  refine ⟨h.1, fun _ => hK _, fun z => ⟨?_, hK _⟩⟩
  rw [h.2] at z ⊢
  have z : ¬ nI L ≤ nI j := z
  rw [le_nI (by omega) (by omega)] at z
  exact vi_ (by omega) (by omega)
theorem lp_columns_ok {E : Nat → Nat → Mm → Prop} {K : Mm → Int32 → Prop} (h3 : nc ≤ 3) (hE : ∀ M' ow', SC_ M' a0 L → GI_ ow' M' F nc 0 0 32 → E (85 + 4 * nc) (6273 + 1405 * nc) M') :
    ∀ (f c : Nat) (M2 : Mm) (ow2 : Nat → Nat × Nat), c ≤ nc → nc - c < f → SC_ M2 a0 L → GI_ ow2 M2 F c 0 0 32 → lp_L_law_22 a0 F (nI nc) K E f (nI c) (85 + 4 * c) (6273 + 1405 * c) M2 := by
  intro f
  induction f with
  | zero => intro c M2 ow2 _ h; omega
  | succ f ih =>
    intro c M2 ow2 hc hf hs hg
    have q1 : c < nc → nc - (c + 1) < f := by omega
    unfold lp_L_law_22
    rw [le_nI (by omega) (by omega)]
    refine ⟨fun h => ?_, fun h => ⟨by omega, by omega, ?_⟩⟩
    · have : c = nc := by omega
      rw [this] at hg ⊢
      exact hE M2 ow2 hs hg
    · refine sp_addColumn hg (by omega) (fun M3 ow3 x h3' hN => ?_)
      have next := ih (c + 1) M3 ow3 (by omega) (q1 (by omega)) (hs.nk hN) h3'
      rw [← nI_p1, show 85 + 4 * (c + 1) = 85 + 4 * c + 4 by omega, show 6273 + 1405 * (c + 1) = 6273 + 1405 * c + 1405 by omega] at next
      exact next
theorem sp_check {K : Mm → Int32 → Prop} {uc ud : Nat} {N : Mm → Prop} (h : GI_ ow M F nc m R sz) (hn : 0 < nc) (hm : m ≤ 105) (huc : uc + 22 ≤ 600104) (hud : ud + 1082 ≤ 7301314) (hN : ∀ M' ow', Nk_ M M' → GI_ ow' M' F nc m R sz → N M') :
    (uc + 21) ≤ 600104 ∧ ((ud + 482) ≤ 7301314 ∧ (wp_X10_digest F M (fun M67 r68 => Nk_ M M67 → ((uc + 21) ≤ 600104 ∧ ((ud + 482) ≤ 7301314 ∧ (wp_L_isTableSound F (nI nc) M67 (fun M76 r77 => Nk_ M67 M76 → bz_ r77 → ((r77 = 0 → (uc + 21 ≤ 600104 ∧ (ud + 482 ≤ 7301314 ∧ (K M76 (0 : Int32))))) ∧ (¬ r77 = 0 → ((uc + 21) ≤ 600104 ∧ ((ud + 482) ≤ 7301314 ∧ (wp_X10_wouldFind F M76 (fun M89 r90 => Nk_ M76 M89 → ((r90 < 0 → (uc + 21 ≤ 600104 ∧ (ud + 482 ≤ 7301314 ∧ (K M89 (0 : Int32))))) ∧ (¬ r90 < 0 → ((uc + 21) ≤ 600104 ∧ ((ud + 482) ≤ 7301314 ∧ (wp_X10_costWithout F M89 (fun M101 r102 => Nk_ M89 M101 → ((r102 < 0 → (uc + 21 ≤ 600104 ∧ (ud + 482 ≤ 7301314 ∧ (K M101 (0 : Int32))))) ∧ (¬ r102 < 0 → ((uc + 21) ≤ 600104 ∧ ((ud + 482) ≤ 7301314 ∧ (wp_X10_digest F M101 (fun M113 r114 => Nk_ M101 M113 → ((r114 = r68 → ((uc + 22) ≤ 600104 ∧ ((ud + 1082) ≤ 7301314 ∧ (wp_L_isSearchSound F (nI nc) M113 (fun M123 r124 => Nk_ M113 M123 → bz_ r124 → ((r124 = 0 → (uc + 22 ≤ 600104 ∧ (ud + 1082 ≤ 7301314 ∧ (K M123 (0 : Int32))))) ∧ (¬ r124 = 0 → N M123))))))) ∧ (¬ r114 = r68 → (uc + 21 ≤ 600104 ∧ (ud + 482 ≤ 7301314 ∧ (K M113 (0 : Int32))))))))))))))))))))))))))))))) := by
  have f := h.f
  obtain ⟨h1, ⟨kk, h2⟩, ⟨nq, cq, hq⟩, n, hr⟩ := id h
  have hS := h2.1
  have hs := hS.sh
  have kQ := f.2.1.1
  have kR := f.2.2.2.1
  have pos : ∀ a : Nat, a < 2147483648 → ¬ nI a < 0 := fun a ha z => by
    rw [show (0 : Int32) = nI 0 from rfl, lt_nI ha (by omega)] at z
    omega
  have c1 : uc + 21 ≤ 600104 := by omega
  have c2 : ud + 482 ≤ 7301314 := by omega
  refine ⟨c1, c2, sp_digest h1 h2 hr (fun _ => ⟨c1, c2, sp_isTableSound h1 h2 (fun _ _ => ⟨fun z => absurd z (by decide), fun _ => ⟨c1, c2, sp_wouldFind h1 h2 hq (fun M89 X89 hN89 => ?_)⟩⟩)⟩)⟩
  have l6 := FR_len (M := M) (T := rf_ M F 0) (Q := rf_ M F 1) (m := m) (nq := nq) (kk := kk) (cq := cq)
  refine ⟨fun z => absurd z (pos _ (by omega)), fun _ => ⟨c1, c2, ?_⟩⟩
  have sa : ∀ b, SA_ ow M b → WA_ ow M b := fun b => SA_.wa
  have h89F : kd_ M89 F = 12 := by rw [X89.kd]; exact h1
  have e89 : ∀ k, rf_ M89 F k = rf_ M F k := fun k => X89.rf F k
  have h89 : TI_ ow M89 (rf_ M89 F 0) nc m R sz kk (fun j => j < m) := by rw [e89]; exact h2.wa X89 sa
  have q89 : QI_ M89 (rf_ M89 F 1) nc nq cq := by rw [e89]; exact hq.wa hs kQ X89 sa
  refine sp_costWithout h89F h89 q89 (fun M101 X101 hN101 => ?_)
  have cw := CW_le h89 h89.1.sh (by rw [e89, X89.kd]; exact kQ) q89
  refine ⟨fun z => absurd z (pos _ (by omega)), fun _ => ⟨c1, c2, ?_⟩⟩
  have eSA : ∀ b, SA_ ow M89 b → SA_ ow M b := fun b hb => by
    unfold SA_ kd_ at *
    rw [X89.1.1] at hb
    exact hb
  have X : Ex_ (SA_ ow M) M M101 := X89.tr (X101.mono eSA)
  have h101F : kd_ M101 F = 12 := by rw [X.kd]; exact h1
  have e101 : ∀ k, rf_ M101 F k = rf_ M F k := fun k => X.rf F k
  have h101 : TI_ ow M101 (rf_ M101 F 0) nc m R sz kk (fun j => j < m) := by rw [e101]; exact h2.wa X sa
  have q101 : QI_ M101 (rf_ M101 F 1) nc nq cq := by rw [e101]; exact hq.wa hs kQ X sa
  have r101 : RI_ M101 (rf_ M101 F 3) R n := by rw [e101]; exact hr.sa hs kR X (fun _ z => z)
  refine sp_digest h101F h101 r101 (fun _ => ⟨fun _ => ⟨huc, hud, ?_⟩, fun z => absurd (dg_sa h1 h2 X (fun _ z => z) n) z⟩)
  exact sp_isSearchSound h101F h101 q101 hn (fun M' ow' L' hL' hN' _ => ⟨fun z => absurd z (by decide), fun _ => hN M' ow' ((hN89.tr hN101).tr hN') hL'.gi⟩)
theorem lp_times_ok {E : Nat → Nat → Mm → Prop} {K : Mm → Int32 → Prop} (hL : L ≤ 260) (hn : 0 < nc) (hE : ∀ uc ud M', uc ≤ 600104 → ud ≤ 7301314 → E uc ud M') :
    ∀ (f t : Nat) (uc ud : Nat) (M2 : Mm) (ow2 : Nat → Nat × Nat) (m R sz : Nat), t ≤ 100 → 100 - t < f → uc ≤ 100 + 22 * t → ud ≤ 20000 + 1082 * t → m ≤ t → R ≤ t → SC_ M2 a0 L → GI_ ow2 M2 F nc m R sz → lp_L_law_40 a0 F (nI nc) K E f (nI t) uc ud M2 := by
  intro f
  induction f with
  | zero => intro t uc ud M2 ow2 m R sz _ h; omega
  | succ f ih =>
    intro t uc ud M2 ow2 m R sz ht hf huc hud hm hR hs hg
    have q1 : t < 100 → 100 - (t + 1) < f := by omega
    unfold lp_L_law_40
    refine ⟨fun _ => hE uc ud M2 (by omega) (by omega), fun h => ?_⟩
    have ht1 : t < 100 := by
      have : ¬ 100 ≤ t := fun z => h ((le_nI (a := 100) (by omega) (by omega)).mpr z)
      omega
    have e25 : nI t - nI t / (25 : Int32) * (25 : Int32) = nI (t % 25) := pk_rem (d := 25) (by omega) (by decide) (by decide)
    rw [e25, show (1 : Int32) + nI (t % 25) = nI (1 + t % 25) from nI_add 1 _]
    refine ⟨by omega, by omega, sp_cell hs hL (by omega) (fun x hN49 => ⟨by omega, by omega, ?_⟩)⟩
    refine sp_act hg hn (by omega) (by omega) (fun M58 ow58 m58 R58 sz58 hm58 hR58 g58 hN58 => ?_)
    have s58 := (hs.nk hN49).nk hN58
    rw [nI_p1]
    refine ⟨fun _ => ?_, fun _ => ih (t + 1) (uc + 21) (ud + 482) M58 ow58 m58 R58 sz58 (by omega) (q1 ht1) (by omega) (by omega) (by omega) (by omega) s58 g58⟩
    exact sp_check (K := K) (uc := uc) (ud := ud) g58 hn (by omega) (by omega) (by omega) (fun M' ow' hN' g' => ih (t + 1) (uc + 22) (ud + 1082) M' ow' m58 R58 sz58 (by omega) (q1 ht1) (by omega) (by omega) (by omega) (by omega) (s58.nk hN') g')
theorem sp_law (hk : kd_ M a0 = 30) (hM : ∀ a, kd_ M a = 0 ∨ 30 ≤ kd_ M a) (hL : ln_ M a0 ≤ 260) : wp_L_law a0 M (fun _ r => r = 1) := by
  refine ⟨hk, fun q1 _ hq M4 e4 => ?_⟩
  subst e4
  have s4 : SC_ (nw_ M q1 12 0) a0 (ln_ M a0) := SC_.nk ⟨hk, rfl⟩ (Nk_nw_ hq)
  refine sp_finit hM hq (fun M8 ow8 X8 g8 hN8 => ?_)
  have s8 := s4.nk hN8
  refine sp_cell (j := 0) s8 hL (by decide) (fun x _ => sp_below (n := 3) (by decide) (by decide) (fun j hj _ => ⟨1 + j + 1, ?_⟩))
  rw [show (1 : Int32) + nI j = nI (1 + j) from nI_add 1 j]
  refine lp_columns_ok (by omega) ?_ (1 + j + 1) 0 M8 ow8 (by omega) (by omega) s8 g8
  intro M39 ow39 s39 g39 _
  refine ⟨101, lp_times_ok hL (by omega) ?_ 101 0 _ _ M39 ow39 0 0 32 (by omega) (by omega) (by omega) (by omega) (by omega) (by omega) s39 g39⟩
  intro uc ud M' h1 h2 _
  exact ⟨h1, h2, rfl⟩
end LW
