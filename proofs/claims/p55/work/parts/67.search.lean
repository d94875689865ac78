/-! the law's second check: the search is sound -/
section SS
variable {ow : Nat → Nat × Nat} {M M' : Mm} {F nc m R sz nq i c r g k n : Nat} {kk cq : Nat → Nat} {L : List Int32} {l v : Nat → Int32} {K : Mm → Int32 → Prop}
def NV_ (M : Mm) (F c : Nat) (l v : Nat → Int32) : Prop := nu_ M (rf_ M F 0) c = l ∧ vl_ M (rf_ M F 0) c = v
theorem NV_.wb {A : Nat → Prop} (h : NV_ M F c l v) (hS : TS_ ow M (rf_ M F 0) nc m) (hX : Ex_ A M M') (hA : ∀ b, A b → WB_ ow M b) (hc : c < nc) : NV_ M' F c l v := by
  obtain ⟨h1, h2⟩ := h
  have g := nv_wb hS hX hA hc
  unfold NV_
  rw [hX.rf F 0]
  exact ⟨g.1.trans h1, g.2.trans h2⟩
theorem LI_.tc (h : LI_ ow M F nc m R sz nq kk cq L) (hc : c < nc) : ∀ x, x ∈ L → nu_ M (rf_ M F 0) c (ix_ x) ≠ 0 → vl_ M (rf_ M F 0) c (ix_ x) = 0 := fun x hx hn => by
  obtain ⟨r, hr, er⟩ := h.2.2.2.2.2 x hx
  have := h.R6
  rw [er, ix_nI (by omega)] at hn ⊢
  exact h.2.1.2.2.2.2 c r hc hr hn
theorem lp_acc_ok {E : Int32 → Int32 → Mm → Prop} (hc : c < nc) (h6 : L.length ≤ 600) (hb : BZ_ l v L L.length) (hv : ∀ x, x ∈ L → l (ix_ x) ≠ 0 → v (ix_ x) = 0)
    (hE : ∀ M', LI_ ow M' F nc m R sz nq kk cq L → NV_ M' F c l v → E (nI L.length) (su_ v L) M') :
    ∀ (f g : Nat) (M2 : Mm), g ≤ (bs_ l v L L.length).length → (bs_ l v L L.length).length - g < f → LI_ ow M2 F nc m R sz nq kk cq L → NV_ M2 F c l v → lp_L_isSearchSound_188 F (nI nc) (nI n) (nI c) (nI (bs_ l v L L.length).length) K E f (nI (st_ l v L L.length g)) (su_ v (sg_ (gj_ l v L) 0 (st_ l v L L.length g))) (nI g) M2 := by
  have bl := bs_len (l := l) (v := v) (L := L) (i := L.length)
  intro f
  induction f with
  | zero => intro g M2 _ h; omega
  | succ f ih =>
    intro g M2 hg hf h2 hnv
    have q1 : g < (bs_ l v L L.length).length → (bs_ l v L L.length).length - (g + 1) < f := by omega
    unfold lp_L_isSearchSound_188
    rw [le_nI (by omega) (by omega)]
    refine ⟨fun hh => ?_, fun hh => ?_⟩
    · have : g = (bs_ l v L L.length).length := by omega
      rw [this, st_end (Nat.le_refl _), gl_sg, su_perm gl_perm]
      exact hE M2 h2 hnv
    have hgl : g < (bs_ l v L L.length).length := by omega
    have y1 := st_in (l := l) (v := v) (L := L) (n := L.length) hgl
    have y2 := st_lt (l := l) (v := v) (L := L) (n := L.length) (show g < g + 1 by omega) hgl
    have y3 := st_le (l := l) (v := v) (L := L) (n := L.length) (g := g + 1)
    -- one telling
    have tell : ∀ (a g' : Nat) (M3 : Mm) (K' : Mm → Int32 → Prop), a < 5 → g' < (bs_ l v L L.length).length → LI_ ow M3 F nc m R sz nq kk cq L → NV_ M3 F c l v → (∀ M4 w, LI_ ow M4 F nc m R sz nq kk cq L → NV_ M4 F c l v → AC_ l v L g' a w → K' M4 w) → wp_X10_ofGroup F (nI c) (nI g') (nI c) (nI a) M3 K' := fun a g' M3 K' ha hg' h3 hnv3 hK' => by
      obtain ⟨n1, n2⟩ := id hnv3
      refine sp_ofGroup h3 hc ha (by rw [n1, n2]; exact hg') (fun M4 w X4 h4 hac => ?_)
      rw [n1, n2] at hac
      exact hK' M4 w h4 (hnv3.wb h3.2.1.1 X4 (fun _ z => z) hc) hac
    refine tell 1 g M2 _ (by decide) hgl h2 hnv (fun M3 w1 h3 nv3 a1 _ => tell 2 g M3 _ (by decide) hgl h3 nv3 (fun M4 w2 h4 nv4 a2 _ => tell 3 g M4 _ (by decide) hgl h4 nv4 (fun M5 w3 h5 nv5 a3 _ => tell 4 g M5 _ (by decide) hgl h5 nv5 (fun M6 w4 h6' nv6 a4 _ => ?_))))
    have e1 : nI (st_ l v L L.length g) + w1 = nI (st_ l v L L.length (g + 1)) := by
      rw [a1.2.1 rfl, pk_sub (by omega), nI_add]
      congr 1
      omega
    have e2 : su_ v (sg_ (gj_ l v L) 0 (st_ l v L L.length g)) + w2 = su_ v (sg_ (gj_ l v L) 0 (st_ l v L L.length (g + 1))) := by
      rw [a2.2.2.1 rfl, ← su_app]
      congr 1
      have := sg_app (gj_ l v L) (st_ l v L L.length (g + 1) - st_ l v L L.length g) (st_ l v L L.length g) 0
      rw [Nat.zero_add, show st_ l v L L.length g + (st_ l v L L.length (g + 1) - st_ l v L L.length g) = st_ l v L L.length (g + 1) by omega] at this
      exact this.symm
    have e34 : w3.toInt ≤ w4.toInt := (a3.2.2.2.1 rfl).le (a4.2.2.2.2 rfl)
    have next : ∀ M7, LI_ ow M7 F nc m R sz nq kk cq L → NV_ M7 F c l v → lp_L_isSearchSound_188 F (nI nc) (nI n) (nI c) (nI (bs_ l v L L.length).length) K E f (nI (st_ l v L L.length g) + w1) (su_ v (sg_ (gj_ l v L) 0 (st_ l v L L.length g)) + w2) (nI g + 1) M7 := fun M7 h7 nv7 => by
      rw [e1, e2, nI_p1]
      exact ih (g + 1) M7 (by omega) (q1 hgl) h7 nv7
    refine ⟨fun z => ?_, fun _ => ⟨fun _ => next M6 h6' nv6, fun h0 => ⟨fun _ => next M6 h6' nv6, fun hlast => ?_⟩⟩⟩
    · rw [i_lt] at z
      omega
    · rw [show (0 : Int32) = nI 0 from rfl, le_nI (by omega) (by omega)] at h0
      rw [nI_s1 (by omega), le_nI (by omega) (by omega)] at hlast
      rw [nI_s1 (by omega)]
      refine tell 0 g M6 _ (by decide) hgl h6' nv6 (fun M7 w5 h7 nv7 a5 _ => tell 0 (g - 1) M7 _ (by decide) (by omega) h7 nv7 (fun M8 w6 h8 nv8 a6 _ => ⟨fun _ => next M8 h8 nv8, fun z => ?_⟩))
      rw [a5.1 rfl, a6.1 rfl, i_lt] at z
      exact absurd (st_rise hb hv (by omega) (by omega)) z
theorem lp_sorted_ok {E : Mm → Prop} (hc : c < nc) (h : LI_ ow M F nc m R sz nq kk cq (gl_ l v L)) (hnv : NV_ M F c l v) (hE : E M) :
    ∀ (f j : Nat), 1 ≤ j → j ≤ L.length + 1 → L.length + 1 - j < f → lp_L_isSearchSound_339 F (nI nc) (nI L.length) (nI c) K E f (nI j) M := by
  obtain ⟨n1, n2⟩ := hnv
  have h6 := h.2.2.2.2.1
  rw [gl_len] at h6
  have hR := h.R6
  intro f
  induction f with
  | zero => intro j _ _ h; omega
  | succ f ih =>
    intro j h1 hj hf
    have q1 : j < L.length + 1 → L.length + 1 - (j + 1) < f := by omega
    unfold lp_L_isSearchSound_339
    rw [le_nI (by omega) (by omega)]
    refine ⟨fun _ => hE, fun hh => ?_⟩
    have hjL : j < L.length := by omega
    have next := ih (j + 1) (by omega) (by omega) (q1 (by omega))
    rw [← nI_p1] at next
    rw [nI_s1 (by omega)]
    -- what stands at a place
    have at_ : ∀ (k : Nat) (K' : Mm → Int32 → Prop), k < L.length → (∀ r, r < R → gj_ l v L k = nI r → K' M (nI r)) → wp_X10_foundAt F (nI k) M K' := fun k K' hk hK' => sp_foundAt h (by rw [gl_len]; exact hk) (fun x hx => by
      have e := gj_get (l := l) (v := v) hk
      rw [hx] at e
      have e2 := Option.some.inj e
      obtain ⟨r, hr, er⟩ := h.2.2.2.2.2 x (List.mem_of_getElem? hx)
      rw [er]
      exact hK' r hr (e2.symm.trans er))
    refine at_ j _ hjL (fun r hr er _ => sp_isNull h.1 h.2.1 hr hc (fun _ _ => at_ (j - 1) _ (by omega) (fun r' hr' er' _ => sp_isNull h.1 h.2.1 hr' hc (fun _ _ => ?_))))
    rw [n1]
    have srt := gj_sort (l := l) (v := v) (L := L) (show j - 1 < j by omega) hjL
    rw [er, er', ix_nI (by omega), ix_nI (by omega), ky0_t, ky0_t] at srt
    have rg := i_rng (v r)
    have rg' := i_rng (v r')
    -- the comparing of values
    have vals : l r = 0 → l r' = 0 → wp_X10_foundAt F (nI (j - 1)) M (fun M221 r222 => Nk_ M M221 → (wp_X10_valueOf F r222 (nI c) M221 (fun M227 r228 => Nk_ M221 M227 → (wp_X10_foundAt F (nI j) M227 (fun M233 r234 => Nk_ M227 M233 → (wp_X10_valueOf F r234 (nI c) M233 (fun M239 r240 => Nk_ M233 M239 → ((r228 ≤ r240 → lp_L_isSearchSound_339 F (nI nc) (nI L.length) (nI c) K E f ((nI j) + (1 : Int32)) M239) ∧ (¬ r228 ≤ r240 → (K M239 (0 : Int32))))))))))) := fun hl hl' => by
      rw [if_pos hl, if_pos hl'] at srt
      refine at_ (j - 1) _ (by omega) (fun r1 hr1 er1 _ => sp_valueOf h.1 h.2.1 hr1 hc (fun _ => at_ j _ hjL (fun r2 hr2 er2 _ => sp_valueOf h.1 h.2.1 hr2 hc (fun _ => ⟨fun _ => next, fun z => ?_⟩))))
      have e1 : r' = r1 := nI_inj (by omega) (by omega) (er'.symm.trans er1)
      have e2 : r = r2 := nI_inj (by omega) (by omega) (er.symm.trans er2)
      rw [n2, ← e1, ← e2, i_le] at z
      exact absurd srt z
    refine ⟨fun hl' => ⟨fun hl => vals hl hl', fun _ => next⟩, fun hl' => ⟨fun hl => ?_, fun hl => ⟨fun z => absurd z hl, fun _ => next⟩⟩⟩
    rw [if_pos hl, if_neg hl'] at srt
    omega
theorem idx_wb {M : Mm} (hS : TS_ ow M (rf_ M F 0) nc m) (hc : c < nc) : ∀ b, b = cl_ M (rf_ M F 0) c → WA_ ow M b := fun b hb => by rw [hb]; exact Or.inl (hS.cl hc)
theorem LI_.idx (h : LI_ ow M F nc m R sz nq kk cq L) (hc : c < nc) (hX : Ex_ (fun b => b = cl_ M (rf_ M F 0) c) M M') : LI_ ow M' F nc m R sz nq kk cq L := by
  have hS := h.2.1.1
  obtain ⟨k, o0, -⟩ := h.re
  have kc := hS.cl hc
  exact h.wb hX (fun b hb => Or.inl (idx_wb hS hc b hb)) (h.2.2.2.1.keep hX.1 (hX.it (kd_ne k kc (by decide)) 1) (fun j => hX.it (kd_ne o0.1 kc (by decide)) j)) h.2.2.2.2.1 h.2.2.2.2.2
theorem lp_cols_ok {E : Mm → Prop} {x4 : Nat} (h8 : nc ≤ 8) (hx4 : x4 ≤ 600)
    (hE : ∀ M' L', LI_ ow M' F nc m R sz nq kk cq L' → L'.length = x4 → E M') :
    ∀ (f c : Nat) (M2 : Mm) (L2 : List Int32), c ≤ nc → nc - c < f → LI_ ow M2 F nc m R sz nq kk cq L2 → L2.length = x4 → lp_L_isSearchSound_158 F (nI nc) (nI x4) K E f (nI c) M2 := by
  intro f
  induction f with
  | zero => intro c M2 L2 _ h; omega
  | succ f ih =>
    intro c M2 L2 hcn hf h2 hl
    have q1 : c < nc → nc - (c + 1) < f := by omega
    unfold lp_L_isSearchSound_158
    rw [le_nI (by omega) (by omega)]
    refine ⟨fun _ => hE M2 L2 h2 hl, fun hh => ?_⟩
    have hc : c < nc := by omega
    refine sp_index h2.1 h2.2.1.1 hc (fun M3 x X3 _ _ => ?_)
    have h3 := h2.idx hc X3
    refine sp_groups h3 hc (fun M4 X4 h4 hbz _ => ⟨(bs_ (nu_ M3 (rf_ M3 F 0) c) (vl_ M3 (rf_ M3 F 0) c) L2 L2.length).length + 1, ?_⟩)
    have nv3 : NV_ M3 F c (nu_ M3 (rf_ M3 F 0) c) (vl_ M3 (rf_ M3 F 0) c) := ⟨rfl, rfl⟩
    have nv4 := nv3.wb h3.2.1.1 X4 (fun _ z => z) hc
    have bl := bs_len (l := nu_ M3 (rf_ M3 F 0) c) (v := vl_ M3 (rf_ M3 F 0) c) (L := L2) (i := L2.length)
    have htc := h3.tc hc
    generalize nu_ M3 (rf_ M3 F 0) c = l at *
    generalize vl_ M3 (rf_ M3 F 0) c = v at *
    have hs0 : st_ l v L2 L2.length 0 = 0 := by
      by_cases e : 0 < L2.length
      · exact st_0 e
      · have := st_le (l := l) (v := v) (L := L2) (n := L2.length) (g := 0)
        omega
    have start : lp_L_isSearchSound_188 F (nI nc) (nI x4) (nI c) (nI (bs_ l v L2 L2.length).length) K (fun xv173 xv174 M171 => Nk_ M4 M171 → ((xv173 = (nI x4) → (wp_X10_sum F (nI c) M171 (fun M178 r179 => Nk_ M171 M178 → ((xv174 = r179 → (((nI (bs_ l v L2 L2.length).length) ≤ (nI x4) → (wp_X10_sort F (nI c) (0 : Int32) M178 (fun M186 r187 => Nk_ M178 M186 → (∃ n273 : Nat, lp_L_isSearchSound_339 F (nI nc) (nI x4) (nI c) K (fun M274 => Nk_ M186 M274 → lp_L_isSearchSound_158 F (nI nc) (nI x4) K E f ((nI c) + (1 : Int32)) M274) n273 (1 : Int32) M186)))) ∧ (¬ (nI (bs_ l v L2 L2.length).length) ≤ (nI x4) → (K M178 (0 : Int32))))) ∧ (¬ xv174 = r179 → (K M178 (0 : Int32))))))) ∧ (¬ xv173 = (nI x4) → (K M171 (0 : Int32))))) ((bs_ l v L2 L2.length).length + 1) (nI (st_ l v L2 L2.length 0)) (su_ v (sg_ (gj_ l v L2) 0 (st_ l v L2 L2.length 0))) (nI 0) M4 := by
      refine lp_acc_ok hc (by omega) hbz htc (fun M5 h5 nv5 => ?_) ((bs_ l v L2 L2.length).length + 1) 0 M4 (by omega) (by omega) h4 nv4
      intro _
      refine ⟨fun _ => sp_sum h5 hc (fun _ => ?_), fun z => absurd (by rw [hl]) z⟩
      rw [nv5.2, le_nI (by omega) (by omega)]
      refine ⟨fun _ => ⟨fun _ => sp_sort h5 hc (fun M6 x6 X6 h6 _ => ?_), fun z => absurd (by rw [← hl]; exact bl) z⟩, fun z => absurd rfl z⟩
      have nv6 := nv5.wb h5.2.1.1 X6 (fun _ z => z) hc
      rw [nv5.1, nv5.2] at h6
      have sorted : lp_L_isSearchSound_339 F (nI nc) (nI L2.length) (nI c) K (fun M274 => Nk_ M6 M274 → lp_L_isSearchSound_158 F (nI nc) (nI x4) K E f ((nI c) + (1 : Int32)) M274) (L2.length + 1) (nI 1) M6 := by
        refine lp_sorted_ok hc h6 nv6 (fun _ => ?_) (L2.length + 1) 1 (by omega) (by omega) (by omega)
        rw [nI_p1]
        exact ih (c + 1) M6 _ (by omega) (q1 hc) h6 (by rw [gl_len]; exact hl)
      rw [hl] at sorted
      exact ⟨x4 + 1, sorted⟩
    rw [hs0] at start
    exact start
theorem lp_flip_ok {E : Mm → Prop} {x4 : Int32} {a5 : Nat} (h8 : nc ≤ 8) (h : LI_ ow M F nc m R sz nq kk cq L)
    (hE : ∀ M', Ex_ (WA_ ow M) M M' → (∀ j, it_ M' a5 j = it_ M a5 j) → LI_ ow M' F nc m R sz nq kk cq L → E M') (h5 : kd_ M a5 = 20) :
    ∀ (f c : Nat) (M2 : Mm), c ≤ nc → nc - c < f → Ex_ (WA_ ow M) M M2 → (∀ j, it_ M2 a5 j = it_ M a5 j) → LI_ ow M2 F nc m R sz nq kk cq L → lp_L_isSearchSound_93 F (nI nc) x4 a5 K E f (nI c) M2 := by
  intro f
  induction f with
  | zero => intro c M2 _ h; omega
  | succ f ih =>
    intro c M2 hcn hf hX ha h2
    have q1 : c < nc → nc - (c + 1) < f := by omega
    unfold lp_L_isSearchSound_93
    rw [le_nI (by omega) (by omega)]
    refine ⟨fun _ => hE M2 hX ha h2, fun hh => ?_⟩
    have hc : c < nc := by omega
    refine sp_index h2.1 h2.2.1.1 hc (fun M3 x X3 _ _ => ?_)
    rw [nI_p1]
    have kc := h2.2.1.1.cl hc
    have e : ∀ b, WA_ ow M2 b → WA_ ow M b := fun b hb => by
      unfold WA_ kd_ at *
      rw [hX.1.1] at hb
      exact hb
    refine ih (c + 1) M3 (by omega) (q1 hc) (hX.tr (X3.mono (fun b hb => e b (idx_wb h2.2.1.1 hc b hb)))) (fun j => ?_) (h2.idx hc X3)
    have k5 : kd_ M2 a5 = 20 := by rw [hX.kd]; exact h5
    exact (X3.it (kd_ne k5 kc (by decide)) j).trans (ha j)
theorem lp_before_ok {E : Mm → Prop} {a5 : Nat} (hrf : a5 ≠ rf_ M (rf_ M F 3) 0) (h : LI_ ow M F nc m R sz nq kk cq L) (hal : ∀ x, x ∈ L → ∃ r, r < R ∧ x = nI r ∧ al_ M (rf_ M F 0) r ≠ 0) (h5 : kd_ M a5 = 20) (n5 : ln_ M a5 = L.length) (hA : ∀ b, b = a5 → WA_ ow M b)
    (hE : ∀ M', Ex_ (fun b => b = a5) M M' → (∀ j, j < L.length → L[j]? = some (it_ M' a5 j)) → LI_ ow M' F nc m R sz nq kk cq L → E M') :
    ∀ (f j : Nat) (M2 : Mm), j ≤ L.length → L.length - j < f → Ex_ (fun b => b = a5) M M2 → (∀ i, i < j → L[i]? = some (it_ M2 a5 i)) → LI_ ow M2 F nc m R sz nq kk cq L → lp_L_isSearchSound_52 F (nI nc) (nI L.length) a5 K E f (nI j) M2 := by
  have h6 := h.2.2.2.2.1
  have hR := h.R6
  obtain ⟨k, o0, -⟩ := h.re
  intro f
  induction f with
  | zero => intro j M2 _ h; omega
  | succ f ih =>
    intro j M2 hj hf hX ha h2
    have q1 : j < L.length → L.length - (j + 1) < f := by omega
    unfold lp_L_isSearchSound_52
    rw [le_nI (by omega) (by omega)]
    refine ⟨fun hh => hE M2 hX (fun i hi => ha i (by omega)) h2, fun hh => ?_⟩
    have hjL : j < L.length := by omega
    refine sp_foundAt h2 hjL (fun x hx _ => ?_)
    obtain ⟨r, hr, er, hal'⟩ := hal x (List.mem_of_getElem? hx)
    rw [ix_nI (by omega), hX.ln, n5]
    refine ⟨vi_ hjL (by omega), fun M60 e60 => ⟨vi_ hjL (by omega), ?_⟩⟩
    have X60 : Ex_ (fun b => b = a5) M2 M60 := by rw [e60]; exact Ex_.sI _ _ _ rfl
    have X := hX.tr X60
    have e : ∀ b, b = a5 → WA_ ow M2 b := fun b hb => by
      have := hA b hb
      unfold WA_ kd_ at *
      rw [hX.1.1]
      exact this
    have h60 : LI_ ow M60 F nc m R sz nq kk cq L := h2.wb X60 (fun b hb => Or.inl (e b hb)) (h2.2.2.2.1.keep X60.1 (X60.it (by rw [hX.rf]; exact kd_ne k h5 (by decide)) 1) (fun i => X60.it (by rw [hX.rf, hX.rf]; exact hrf.symm) i)) h6 h2.2.2.2.2.2
    have e5 : it_ M60 a5 j = nI r := by rw [e60, it_sIs]; exact er
    rw [e5, nI_p1]
    have eal : al_ M60 (rf_ M60 F 0) r = al_ M (rf_ M F 0) r := by
      unfold al_
      rw [X.rf, X.rf]
      exact X.it (kd_ne h.2.1.1.t.2.2.1.1 h5 (by decide)) r
    refine sp_isAlive h60.1 h60.2.1 hr (fun _ _ => ⟨fun z => absurd (eal.symm.trans z) hal', fun _ => ih (j + 1) M60 (by omega) (q1 hjL) X (fun i hi => ?_) h60⟩)
    by_cases ei : i = j
    · rw [ei, hx, e5, er]
    · rw [e60, it_sIk ei]
      exact ha i (by omega)
theorem lp_again_ok {E : Mm → Prop} {a5 : Nat} (h : LI_ ow M F nc m R sz nq kk cq L) (n5 : ln_ M a5 = L.length) (ha : ∀ j, j < L.length → L[j]? = some (it_ M a5 j)) (hE : E M) :
    ∀ (f j : Nat), j ≤ L.length → L.length - j < f → lp_L_isSearchSound_126 F (nI nc) (nI L.length) a5 K E f (nI j) M := by
  have h6 := h.2.2.2.2.1
  intro f
  induction f with
  | zero => intro j _ h; omega
  | succ f ih =>
    intro j hj hf
    have q1 : j < L.length → L.length - (j + 1) < f := by omega
    unfold lp_L_isSearchSound_126
    rw [le_nI (by omega) (by omega)]
    refine ⟨fun _ => hE, fun hh => ?_⟩
    have hjL : j < L.length := by omega
    refine sp_foundAt h hjL (fun x hx _ => ?_)
    rw [ix_nI (by omega), n5, nI_p1]
    have e : x = it_ M a5 j := Option.some.inj (hx.symm.trans (ha j hjL))
    exact ⟨vi_ hjL (by omega), fun _ => ih (j + 1) (by omega) (q1 hjL), fun z => absurd e z⟩
theorem wa_eq (e : M'.1 = M.1) {b : Nat} (h : WA_ ow M' b) : WA_ ow M b := by
  unfold WA_ kd_ at *
  rw [e] at h
  exact h
theorem sp_isSearchSound (hF : kd_ M F = 12) (h : TI_ ow M (rf_ M F 0) nc m R sz kk (fun j => j < m)) (hq : QI_ M (rf_ M F 1) nc nq cq) (hn : 0 < nc) (hK : ∀ M' ow' L, LI_ ow' M' F nc m R sz nq kk cq L → K M' 1) : wp_L_isSearchSound F (nI nc) M K := by
  have hS := h.1
  have hs := hS.sh
  have n8 := hS.nc8
  have m2 := hS.m2
  have f := hs.cfr hF
  have kQ := f.2.1.1
  have l6 := FR_len (M := M) (T := rf_ M F 0) (Q := rf_ M F 1) (m := m) (nq := nq) (kk := kk) (cq := cq)
  refine ⟨hF, sp_wouldFind hF h hq (fun M1 X1 _ => ?_)⟩
  have sa1 : ∀ b, SA_ ow M b → WA_ ow M b := fun b => SA_.wa
  have F1 : kd_ M1 F = 12 := by rw [X1.kd]; exact hF
  have e10 : ∀ k, rf_ M1 F k = rf_ M F k := fun k => X1.rf F k
  have h1 : TI_ ow M1 (rf_ M1 F 0) nc m R sz kk (fun j => j < m) := by rw [e10]; exact h.wa X1 sa1
  have q1 : QI_ M1 (rf_ M1 F 1) nc nq cq := by rw [e10]; exact hq.wa hs kQ X1 sa1
  have CW1 : CW_ M1 (rf_ M1 F 0) (rf_ M1 F 1) m nq kk cq = CW_ M (rf_ M F 0) (rf_ M F 1) m nq kk cq := by rw [e10, e10]; exact CW_wa hS hq kQ X1 sa1
  refine sp_costWithout F1 h1 q1 (fun M7 X7 _ => ?_)
  have X17 : Ex_ (WA_ ow M) M M7 := (X1.mono sa1).tr (X7.mono (fun b hb => wa_eq X1.1.1 hb.wa))
  have F7 : kd_ M7 F = 12 := by rw [X17.kd]; exact hF
  have e70 : ∀ k, rf_ M7 F k = rf_ M F k := fun k => X17.rf F k
  have h7 : TI_ ow M7 (rf_ M7 F 0) nc m R sz kk (fun j => j < m) := by rw [e70]; exact h.wa X17 (fun _ z => z)
  have q7 : QI_ M7 (rf_ M7 F 1) nc nq cq := by rw [e70]; exact hq.wa hs kQ X17 (fun _ z => z)
  have FR7 : FR_ M7 (rf_ M7 F 0) (rf_ M7 F 1) m nq kk cq = FR_ M (rf_ M F 0) (rf_ M F 1) m nq kk cq := by rw [e70, e70]; exact FR_wa hS hq kQ X17 (fun _ z => z)
  refine sp_find F7 h7 q7 (fun M13 X13 r13 hp _ => ?_)
  rw [FR7] at r13 ⊢
  have X113 : Ex_ (WA_ ow M) M M13 := X17.tr (X13.mono (fun b hb => wa_eq X17.1.1 (hb.wa h7.1.sh F7)))
  have F13 : kd_ M13 F = 12 := by rw [X113.kd]; exact hF
  have e13 : ∀ k, rf_ M13 F k = rf_ M F k := fun k => X113.rf F k
  have h13 : TI_ ow M13 (rf_ M13 F 0) nc m R sz kk (fun j => j < m) := by rw [e13]; exact h.wa X113 (fun _ z => z)
  have q13 : QI_ M13 (rf_ M13 F 1) nc nq cq := by rw [e13]; exact hq.wa hs kQ X113 (fun _ z => z)
  have CW13 : CW_ M13 (rf_ M13 F 0) (rf_ M13 F 1) m nq kk cq = CW_ M (rf_ M F 0) (rf_ M F 1) m nq kk cq := by rw [e13, e13]; exact CW_wa hS hq kQ X113 (fun _ z => z)
  obtain ⟨p, hp1, hp2⟩ := hp
  refine ⟨fun _ => ⟨F13, fun _ => sp_frames F13 h13.1 (fun _ => ?_)⟩, fun z => absurd rfl z⟩
  rw [hp2, lt_nI (by omega) (by omega)]
  refine ⟨fun z => absurd z (by omega), fun _ => sp_costWithout F13 h13 q13 (fun M33 X33 _ => ?_)⟩
  rw [CW1, CW13]
  have X133 : Ex_ (WA_ ow M) M M33 := X113.tr (X33.mono (fun b hb => wa_eq X113.1.1 hb.wa))
  refine ⟨fun _ => ⟨fun z => ?_, ?_, fun q40 hq0 hq40 M47 e47 => ?_⟩, fun z => absurd rfl z⟩
  · rw [show (0 : Int32) = nI 0 from rfl, lt_nI (by omega) (by omega)] at z
    omega
  · rw [ix_nI (by omega)]; exact l6
  rw [ix_nI (by omega)] at e47
  -- the object behind the first find
  have FRm : ∀ x, x ∈ FR_ M (rf_ M F 0) (rf_ M F 1) m nq kk cq → ∃ r, r < R ∧ x = nI r ∧ al_ M (rf_ M F 0) r ≠ 0 := fun x hx => FR_mem h hx
  have q70 : rf_ M7 F 3 = rf_ M F 3 := e70 3
  have r13' : RS_ M13 (rf_ M13 F 3) (FR_ M (rf_ M F 0) (rf_ M F 1) m nq kk cq) := by rw [e13, ← q70]; exact r13
  have L13 : LI_ ow M13 F nc m R sz nq kk cq (FR_ M (rf_ M F 0) (rf_ M F 1) m nq kk cq) := ⟨F13, h13, q13, r13', l6, fun x hx => by
    obtain ⟨r, a1, a2, -⟩ := FRm x hx
    exact ⟨r, a1, a2⟩⟩
  have L33 : LI_ ow M33 F nc m R sz nq kk cq (FR_ M (rf_ M F 0) (rf_ M F 1) m nq kk cq) := by
    obtain ⟨k, o0, -⟩ := L13.re
    refine L13.wb X33 (fun b hb => Or.inl hb.wa) (r13'.keep X33.1 (X33.it (fun z => by unfold SA_ at z; omega) 1) (fun j => X33.it (fun z => sa_o o0 (by rw [k]; decide) (by decide) z) j)) l6 L13.2.2.2.2.2
  -- the new row
  have G47 : Gw_ (fun _ => False) M33 M47 := by rw [e47]; exact Gw_.nw hq40
  have B47 := (BD_.start L33.2.1.1.sh).nwt (c := 20) (n := (FR_ M (rf_ M F 0) (rf_ M F 1) m nq kk cq).length) hq40 (q40, 0) (by decide)
  rw [← e47] at B47
  have hs47 : SH_ (upd_ ow q40 (q40, 0)) M47 := B47.sh (fun _ => id)
  have L47 := L33.gw0 G47 B47.1 hs47
  have k47 : kd_ M47 q40 = 20 := by rw [e47, kd_nwq]
  have n47 : ln_ M47 q40 = (FR_ M (rf_ M F 0) (rf_ M F 1) m nq kk cq).length := by rw [e47, ln_nwq]
  have w47 : WA_ (upd_ ow q40 (q40, 0)) M47 q40 := by
    unfold WA_
    rw [upd_s]
    exact Or.inr (Or.inr (Or.inr (Or.inr ⟨Or.inl k47, Or.inr (Or.inr k47)⟩)))
  have ne47 : q40 ≠ rf_ M47 (rf_ M47 F 3) 0 := fun e => by
    obtain ⟨k, o0, -⟩ := L47.re
    have := o0.2.2
    rw [← e, upd_s] at this
    have e3 := (Prod.mk.inj this).1
    rw [← e3, k47] at k
    omega
  -- what is alive, and what is found, there
  have S33 := L33.2.1.1
  have al47 : ∀ r, al_ M47 (rf_ M47 F 0) r = al_ M (rf_ M F 0) r := fun r => by
    have t33 := S33.t.2.2.1
    have e33 : rf_ M33 F 0 = rf_ M F 0 := X133.rf F 0
    unfold al_
    rw [G47.rf (a := F) (by rw [X133.kd, hF]; decide) id, G47.rf (a := rf_ M33 F 0) (by rw [S33.kT]; decide) id, G47.it (a := rf_ M33 (rf_ M33 F 0) 2) (by rw [t33.1]; decide) id, e33, X133.rf, X133.it (fun z => wa_o hS.t.2.2.1 (by rw [hS.kT]; omega) (by decide) z)]
  have FR47 : FR_ M47 (rf_ M47 F 0) (rf_ M47 F 1) m nq kk cq = FR_ M (rf_ M F 0) (rf_ M F 1) m nq kk cq := by
    have e33 : ∀ k, rf_ M33 F k = rf_ M F k := fun k => X133.rf F k
    have nF : kd_ M33 F ≠ 0 := by rw [X133.kd, hF]; decide
    rw [G47.rf nF id, G47.rf nF id, FR_gw0 L33.2.1 L33.2.2.1 (by rw [e33, X133.kd]; exact kQ) G47, e33, e33]
    exact FR_wa hS hq kQ X133 (fun _ z => z)
  generalize FR_ M (rf_ M F 0) (rf_ M F 1) m nq kk cq = L at *
  have hal47 : ∀ x, x ∈ L → ∃ r, r < R ∧ x = nI r ∧ al_ M47 (rf_ M47 F 0) r ≠ 0 := fun x hx => by
    obtain ⟨r, a1, a2, a3⟩ := FRm x hx
    exact ⟨r, a1, a2, by rw [al47]; exact a3⟩
  have o47 : upd_ ow q40 (q40, 0) q40 = (q40, 0) := upd_s _ _ _
  generalize upd_ ow q40 (q40, 0) = ow' at *
  refine ⟨L.length + 1, lp_before_ok ne47 L47 hal47 k47 n47 (fun b hb => by rw [hb]; exact w47) (fun M72 X72 b72 L72 _ => ⟨nc + 1, ?_⟩) (L.length + 1) 0 M47 (by omega) (by omega) (Ex_.refl _ _) (fun i hi => by omega) L47⟩
  refine lp_flip_ok n8 L72 (fun M87 X87 b87 L87 _ => ?_) (by rw [X72.kd]; exact k47) (nc + 1) 0 M72 (by omega) (by omega) (Ex_.refl _ _) (fun _ => rfl) L72
  have X4787 : Ex_ (WA_ ow' M47) M47 M87 := (X72.mono (fun b hb => by rw [hb]; exact w47)).tr (X87.mono (fun b hb => wa_eq X72.1.1 hb))
  have S47 := L47.2.1.1
  have kQ47 : kd_ M47 (rf_ M47 F 1) = 6 := (hs47.cfr L47.1).2.1.1
  have FR87 : FR_ M87 (rf_ M87 F 0) (rf_ M87 F 1) m nq kk cq = L := by
    rw [X4787.rf F 0, X4787.rf F 1, FR_wa S47 L47.2.2.1 kQ47 X4787 (fun _ z => z)]
    exact FR47
  refine sp_find L87.1 L87.2.1 L87.2.2.1 (fun M92 X92 r92 _ _ => ?_)
  rw [FR87] at r92 ⊢
  have X92' : Ex_ (WA_ ow' M87) M87 M92 := X92.mono (fun b hb => hb.wa L87.2.1.1.sh L87.1)
  have L92 : LI_ ow' M92 F nc m R sz nq kk cq L := L87.wb X92' (fun b hb => Or.inl hb) r92 l6 L87.2.2.2.2.2
  have X4792 : Sm_ M47 M92 := X4787.1.tr X92'.1
  have n92 : ln_ M92 q40 = L.length := by rw [X4792.ln]; exact n47
  have b92 : ∀ j, j < L.length → L[j]? = some (it_ M92 q40 j) := fun j hj => by
    have e3 : rf_ M87 F 3 = rf_ M47 F 3 := X4787.rf F 3
    have e30 : rf_ M87 (rf_ M47 F 3) 0 = rf_ M47 (rf_ M47 F 3) 0 := X4787.rf _ _
    have k87 : kd_ M87 q40 = 20 := by rw [X4787.kd]; exact k47
    have : it_ M92 q40 j = it_ M87 q40 j := X92.it (fun z => by
      rcases z with z | z | z | z
      · unfold SA_ at z
        rw [k87, o47, k87] at z
        omega
      · rw [z, L87.1] at k87; omega
      · rw [z, L87.re.1] at k87; omega
      · rw [e3, e30] at z; exact ne47 z) j
    rw [this, b87]
    exact b72 j hj
  refine ⟨fun _ => ⟨L.length + 1, lp_again_ok L92 n92 b92 (fun _ => ⟨nc + 1, ?_⟩) (L.length + 1) 0 (by omega) (by omega)⟩, fun z => absurd rfl z⟩
  refine lp_cols_ok n8 l6 (fun M279 L' h279 hl' _ => ?_) (nc + 1) 0 M92 L (by omega) (by omega) L92 rfl
  refine sp_keep h279 (fun M283 X283 h283 k283 _ => ?_)
  rw [hl']
  refine ⟨fun _ => ?_, fun z => absurd rfl z⟩
  refine sp_pairs (c := 0) h283 k283 hn (fun p hp _ => ?_)
  rw [show (0 : Int32) = nI 0 from rfl, lt_nI (by omega) (by omega)]
  refine ⟨fun z => absurd z (by omega), fun _ => ?_⟩
  rw [← hl']
  exact sp_limit h283 (fun M297 X297 h297 _ => ⟨fun _ => hK M297 ow' L' h297, fun z => absurd rfl z⟩)
end SS
