/-! the object's methods over the result -/
section TD
variable {ow : Nat → Nat × Nat} {M M' : Mm} {F nc m R sz nq i c r g k n : Nat} {kk cq : Nat → Nat} {A : Nat → Prop} {L : List Int32}
theorem LI_.re (h : LI_ ow M F nc m R sz nq kk cq L) : kd_ M (rf_ M F 3) = 7 ∧ own_ ow M (rf_ M F 3) 0 20 600 ∧ own_ ow M (rf_ M F 3) 3 20 600 ∧ own_ ow M (rf_ M F 3) 5 20 600 ∧ own_ ow M (rf_ M F 3) 6 20 601 := by
  have f := h.2.1.1.sh.cfr h.1
  exact ⟨f.2.2.2.1, h.2.1.1.sh.res f.2.2.2.1⟩
theorem LI_.R6 (h : LI_ ow M F nc m R sz nq kk cq L) : R ≤ 600 := h.2.1.2.2.2.1.2.1
theorem LI_.row (h : LI_ ow M F nc m R sz nq kk cq L) {j : Nat} (hj : j < L.length) : ∃ r, r < R ∧ it_ M (rf_ M (rf_ M F 3) 0) j = nI r := h.2.2.2.1.row h.2.2.2.2.2 hj
theorem ag_wb (h : LI_ ow M F nc m R sz nq kk cq L) {a : Nat} (ha : AG_ M (rf_ M F 3) (rf_ M (rf_ M F 0) 4) a) : WB_ ow M a := by
  obtain ⟨k, o0, o3, o5, o6⟩ := h.re
  have so := wb_so h.2.1.1.sh h.2.1.1.t.2.2.2.2.1.1
  rcases ha with z | z | z | z | z
  · rw [z]; exact Or.inl (Or.inr (Or.inl k))
  · rw [z]; exact wb_re k o5
  · rw [z]; exact wb_re k o6
  · rw [z]; exact so.1
  · rw [z]; exact so.2
theorem RS_.keep {Re : Nat} (h : RS_ M Re L) (hX : Sm_ M M') (h1 : it_ M' Re 1 = it_ M Re 1) (h0 : ∀ j, it_ M' (rf_ M Re 0) j = it_ M (rf_ M Re 0) j) : RS_ M' Re L := by
  have e : it_ M' (rf_ M Re 0) = it_ M (rf_ M Re 0) := funext h0
  unfold RS_ at h ⊢
  rw [hX.rf, h1, e]
  exact h
/-- groups arranged: what the object still is -/
theorem LI_.ag (h : LI_ ow M F nc m R sz nq kk cq L) (hX : Ex_ (AG_ M (rf_ M F 3) (rf_ M (rf_ M F 0) 4)) M M') (hf : ∀ j, j ≠ 2 → it_ M' (rf_ M F 3) j = it_ M (rf_ M F 3) j) : LI_ ow M' F nc m R sz nq kk cq L := by
  obtain ⟨k, o0, o3, o5, o6⟩ := h.re
  have hs := h.2.1.1.sh
  have t := h.2.1.1.t
  obtain ⟨s0, s1⟩ := hs.sor t.2.2.2.2.1.1
  refine h.wb hX (fun b hb => ag_wb h hb) (h.2.2.2.1.keep hX.1 (hf 1 (by decide)) (fun j => hX.it (fun z => ?_) j)) h.2.2.2.2.1 h.2.2.2.2.2
  rcases z with z | z | z | z | z
  · exact kd_ne o0.1 k (by decide) z
  · exact own_ne o0 o5 (Or.inr (by decide)) z
  · exact own_ne o0 o6 (Or.inr (by decide)) z
  · exact kd_ne o0.1 s0.1 (by decide) z
  · exact own_ne o0 s1 (Or.inl (kd_ne k t.2.2.2.2.1.1 (by decide))) z
theorem sp_groups {K : Mm → Int32 → Prop} (h : LI_ ow M F nc m R sz nq kk cq L) (hc : c < nc) (hK : ∀ M', Ex_ (WB_ ow M) M M' → LI_ ow M' F nc m R sz nq kk cq L → BZ_ (nu_ M (rf_ M F 0) c) (vl_ M (rf_ M F 0) c) L L.length → K M' (nI (bs_ (nu_ M (rf_ M F 0) c) (vl_ M (rf_ M F 0) c) L L.length).length)) : wp_X10_groups F (nI c) M K := by
  have hS := h.2.1.1
  have t := hS.t
  obtain ⟨k, o0, o3, o5, o6⟩ := h.re
  refine ⟨h.1, sp_needColumn h.1 hS hc (fun _ => ⟨k, hS.kT, t.1.1, sp_get hS.lc hc (by decide) (fun _ => ⟨hS.cl hc, hS.kT, t.2.2.2.2.1.1, ?_⟩)⟩)⟩
  refine sp_arrangeGroups hS.sh k (hS.cl hc) t.2.2.2.2.1.1 h.2.2.2.1 h.2.2.2.2.1 h.R6 h.2.2.2.2.2 (fun M' X f' G _ => ?_)
  rw [X.rf, X.kd]
  refine ⟨k, ?_⟩
  rw [G.1]
  exact hK M' (X.mono (fun b hb => ag_wb h hb)) (h.ag X f') G.2.2.2
theorem sp_ofGroup {K : Mm → Int32 → Prop} {a : Nat} (h : LI_ ow M F nc m R sz nq kk cq L) (hc : c < nc) (ha : a < 5) (hg : g < (bs_ (nu_ M (rf_ M F 0) c) (vl_ M (rf_ M F 0) c) L L.length).length) (hK : ∀ M' w, Ex_ (WB_ ow M) M M' → LI_ ow M' F nc m R sz nq kk cq L → AC_ (nu_ M (rf_ M F 0) c) (vl_ M (rf_ M F 0) c) L g a w → K M' w) : wp_X10_ofGroup F (nI c) (nI g) (nI c) (nI a) M K := by
  have hS := h.2.1.1
  have t := hS.t
  have l6 := h.2.2.2.2.1
  obtain ⟨k, o0, o3, o5, o6⟩ := h.re
  have bl := bs_len (l := nu_ M (rf_ M F 0) c) (v := vl_ M (rf_ M F 0) c) (L := L) (i := L.length)
  refine ⟨h.1, sp_needColumn h.1 hS hc (fun _ => sp_needColumn h.1 hS hc (fun _ => ⟨hS.kT, t.1.1, sp_get hS.lc hc (by decide) (fun _ => ⟨hS.cl hc, k, hS.kT, t.2.2.2.2.1.1, ?_⟩)⟩))⟩
  refine sp_arrangeGroups hS.sh k (hS.cl hc) t.2.2.2.2.1.1 h.2.2.2.1 h.2.2.2.2.1 h.R6 h.2.2.2.2.2 (fun M1 X f' G _ => ?_)
  have h1 := h.ag X f'
  have hS1 := h1.2.1.1
  have nv := nv_wb hS (X.mono (fun b hb => ag_wb h hb)) (fun _ z => z) hc
  have e0 : ∀ x : Nat, x < 1000 → ¬ (nI x < 0) := fun x hx z => by
    rw [show (0 : Int32) = nI 0 from rfl, lt_nI (by omega) (by omega)] at z
    omega
  have eL : it_ M (rf_ M (cl_ M (rf_ M F 0) c) 1) = nu_ M (rf_ M F 0) c := rfl
  have eV : it_ M (rf_ M (cl_ M (rf_ M F 0) c) 0) = vl_ M (rf_ M F 0) c := rfl
  have G' : GP_ M1 (rf_ M F 3) (nu_ M (rf_ M F 0) c) (vl_ M (rf_ M F 0) c) L := G
  have G1 : it_ M1 (rf_ M F 3) 2 = nI (bs_ (nu_ M (rf_ M F 0) c) (vl_ M (rf_ M F 0) c) L L.length).length := G.1
  have ecl : el_ M (rf_ M (rf_ M F 0) 0) c = cl_ M1 (rf_ M1 F 0) c := by rw [X.rf F 0, X.1.cl]; rfl
  have hk : wp_X5_accountOf (rf_ M1 F 3) (nI g) (el_ M (rf_ M (rf_ M F 0) 0) c) (el_ M1 (rf_ M1 (rf_ M1 F 0) 0) c) (nI a) M1 (fun M53 r54 => Nk_ M1 M53 → K M53 r54) := by
    rw [ecl]
    have e1 : it_ M1 (rf_ M1 (cl_ M1 (rf_ M1 F 0) c) 1) = nu_ M (rf_ M F 0) c := by rw [← nv.1, X.rf F 0]; rfl
    have e2 : it_ M1 (rf_ M1 (cl_ M1 (rf_ M1 F 0) c) 0) = vl_ M (rf_ M F 0) c := by rw [← nv.2, X.rf F 0]; rfl
    refine sp_accountOf (L := L) hS1.sh h1.re.1 (hS1.cl hc) h.R6 h1.2.2.2.2.1 h.2.2.2.2.2 ?_ ?_ ha (fun w hw _ => hK M1 w (X.mono (fun b hb => ag_wb h hb)) h1 ?_)
    · rw [e1, e2, X.rf F 3]; exact G'
    · rw [e1, e2]; exact hg
    · rw [e1, e2] at hw; exact hw
  refine ⟨fun z => absurd z (e0 g (by omega)), fun _ => ⟨h1.re.1, ?_⟩⟩
  rw [X.rf F 3, G1, lt_nI (by omega) (by omega)]
  rw [X.rf F 3] at hk
  exact ⟨fun _ => ⟨fun z => absurd z (e0 a (by omega)), fun _ => ⟨fun _ => ⟨hS1.kT, hS1.t.1.1, sp_get hS1.lc hc (by decide) (fun _ => ⟨hS1.cl hc, hk⟩)⟩, fun z => absurd ((lt_nI (b := 5) (by omega) (by omega)).mpr ha) z⟩⟩, fun z => absurd hg z⟩
theorem sp_sum {K : Mm → Int32 → Prop} (h : LI_ ow M F nc m R sz nq kk cq L) (hc : c < nc) (hK : K M (su_ (vl_ M (rf_ M F 0) c) L)) : wp_X10_sum F (nI c) M K := by
  have hS := h.2.1.1
  have t := hS.t
  have l6 := h.2.2.2.2.1
  have hR := h.R6
  obtain ⟨k, o0, o3, o5, o6⟩ := h.re
  obtain ⟨c0, c1⟩ := hS.co hc
  have hL := h.2.2.2.1
  refine ⟨h.1, sp_needColumn h.1 hS hc (fun _ => ⟨k, hS.kT, t.1.1, sp_get hS.lc hc (by decide) (fun _ => ⟨hS.cl hc, k, hS.cl hc, L.length + 1, ?_⟩)⟩)⟩
  have key : ∀ (f i : Nat) (y : Int64), i ≤ L.length → L.length - i < f → y.toInt32 = su_ (vl_ M (rf_ M F 0) c) (sg_ (it_ M (rf_ M (rf_ M F 3) 0)) 0 i) → lp_X5_total_5 (rf_ M F 3) (cl_ M (rf_ M F 0) c) (fun M18 r19 => Nk_ M M18 → K M18 (r19.toInt32)) (fun yv6 M7 => Nk_ M M7 → (Nk_ M M7 → K M7 (yv6.toInt32))) f y (nI i) M := by
    intro f
    induction f with
    | zero => intro i y _ h; omega
    | succ f ih =>
      intro i y hi hf hy
      have q1 : i < L.length → L.length - (i + 1) < f := by omega
      unfold lp_X5_total_5
      rw [hL.1, le_nI (by omega) (by omega)]
      refine ⟨fun hh => ?_, fun hh => ?_⟩
      · have : i = L.length := by omega
        subst this
        intro _ _
        rw [hy, hL.2]
        exact hK
      · have hiL : i < L.length := by omega
        obtain ⟨r, hr, er⟩ := h.row hiL
        rw [ix_nI (n := i) (by omega), er, ix_nI (n := r) (by omega), o0.2.1, c0.2.1, nI_p1]
        refine ⟨c0.1, o0.1, vi_ (by omega) (by decide), vi_ (by omega) (by decide), ih (i + 1) _ (by omega) (q1 hiL) ?_⟩
        rw [sg_snoc, su_app, su_one, Nat.zero_add, er, ix_nI (by omega), Int64.toInt32_add, hy, Int32.toInt32_toInt64]
        rfl
  exact key (L.length + 1) 0 0 (by omega) (by omega) rfl
theorem sp_sort {K : Mm → Int32 → Prop} (h : LI_ ow M F nc m R sz nq kk cq L) (hc : c < nc) (hK : ∀ M' x, Ex_ (WB_ ow M) M M' → LI_ ow M' F nc m R sz nq kk cq (gl_ (nu_ M (rf_ M F 0) c) (vl_ M (rf_ M F 0) c) L) → K M' x) : wp_X10_sort F (nI c) 0 M K := by
  have hS := h.2.1.1
  have t := hS.t
  have l6 := h.2.2.2.2.1
  have hR := h.R6
  obtain ⟨k, o0, o3, o5, o6⟩ := h.re
  obtain ⟨c0, c1⟩ := hS.co hc
  have hL := h.2.2.2.1
  have ks := t.2.2.2.2.1.1
  obtain ⟨s0, s1⟩ := hS.sh.sor ks
  have n0s : rf_ M (rf_ M F 3) 0 ≠ rf_ M (rf_ M (rf_ M F 0) 4) 1 := own_ne o0 s1 (Or.inl (kd_ne k ks (by decide)))
  refine ⟨h.1, sp_needColumn h.1 hS hc (fun _ => ⟨hS.kT, ks, k, o0.1, t.1.1, sp_get hS.lc hc (by decide) (fun _ => ⟨hS.cl hc, ?_⟩)⟩)⟩
  rw [hL.1]
  refine sp_arrange ks s1.1 s1.2.1 s0.1 s0.2.1 o0.1 n0s (by rw [o0.2.1]; exact l6) l6 (by rw [o0.2.1]; decide) (hS.cl hc) c0.1 c1.1 c0.2.1 c1.2.1 (fun j hj => ?_) (fun M' X p _ _ => ?_)
  · obtain ⟨r, hr, er⟩ := h.row hj
    exact ⟨r, er, by omega⟩
  have so := wb_so hS.sh ks
  have sub : ∀ b, (b = rf_ M (rf_ M (rf_ M F 0) 4) 1 ∨ b = rf_ M (rf_ M F 3) 0 ∨ b = rf_ M (rf_ M (rf_ M F 0) 4) 0) → WB_ ow M b := fun b hb => by
    rcases hb with z | z | z
    · rw [z]; exact so.2
    · rw [z]; exact wb_re k o0
    · rw [z]; exact so.1
  have cn : it_ M' (rf_ M F 3) 1 = nI L.length := by
    rw [X.it (fun z => by
      rcases z with z | z | z
      · exact kd_ne k s1.1 (by decide) z
      · exact kd_ne k o0.1 (by decide) z
      · exact kd_ne k s0.1 (by decide) z)]
    exact hL.1
  have pg : sg_ (it_ M' (rf_ M (rf_ M F 3) 0)) 0 L.length = gl_ (nu_ M (rf_ M F 0) c) (vl_ M (rf_ M F 0) c) L := by
    rw [p, hL.2]
    rfl
  have h1 : LI_ ow M' F nc m R sz nq kk cq (gl_ (nu_ M (rf_ M F 0) c) (vl_ M (rf_ M F 0) c) L) := h.wb X sub (by
    unfold RS_
    rw [gl_len, X.rf]
    exact ⟨cn, pg⟩) (by rw [gl_len]; exact l6) (fun x hx => h.2.2.2.2.2 x (gl_perm.mem_iff.mp hx))
  have X' := X.mono (B := WB_ ow M) sub
  rw [X.rf, X.kd, cn, X.rf, X.kd, X.ln]
  refine ⟨k, fun _ => hK M' _ X' h1, fun h0 => ⟨o0.1, by rw [o0.2.1]; exact vi_ (n := 0) (by decide) (by decide), hK M' _ X' h1⟩⟩
theorem sp_foundAt {K : Mm → Int32 → Prop} {j : Nat} (h : LI_ ow M F nc m R sz nq kk cq L) (hj : j < L.length) (hK : ∀ x, L[j]? = some x → K M x) : wp_X10_foundAt F (nI j) M K := by
  have l6 := h.2.2.2.2.1
  obtain ⟨k, o0, -⟩ := h.re
  have hL := h.2.2.2.1
  refine ⟨h.1, fun z => ?_, fun _ => ⟨k, ?_⟩⟩
  · rw [show (0 : Int32) = nI 0 from rfl, lt_nI (by omega) (by omega)] at z
    omega
  · rw [hL.1, lt_nI (by omega) (by omega), ix_nI (by omega), o0.2.1]
    exact ⟨fun _ => ⟨o0.1, vi_ (by omega) (by decide), hK _ (hL.at hj)⟩, fun z => absurd hj z⟩
theorem sp_index {K : Mm → Int32 → Prop} (hF : kd_ M F = 12) (hS : TS_ ow M (rf_ M F 0) nc m) (hc : c < nc) (hK : ∀ M' x, Ex_ (fun b => b = cl_ M (rf_ M F 0) c) M M' → K M' x) : wp_X10_index F (nI c) M K := by
  refine ⟨hF, sp_needColumn hF hS hc (fun _ => ⟨hS.kT, hS.t.1.1, sp_get hS.lc hc (by decide) (fun _ => ⟨hS.cl hc, fun _ => ⟨fun _ M20 e20 _ => hK M20 _ ?_, fun _ M20 e20 _ => hK M20 _ ?_⟩⟩)⟩)⟩
  · rw [e20]; exact Ex_.sI _ _ _ rfl
  · rw [e20]; exact Ex_.sI _ _ _ rfl
/-- the rows kept -/
def KP_ (M : Mm) (Re R n : Nat) : Prop := it_ M Re 4 = nI n ∧ ∀ j, j < n → ∃ r, r < R ∧ it_ M (rf_ M Re 3) j = nI r
theorem sp_keep {K : Mm → Int32 → Prop} (h : LI_ ow M F nc m R sz nq kk cq L) (hK : ∀ M', Ex_ (WB_ ow M) M M' → LI_ ow M' F nc m R sz nq kk cq L → KP_ M' (rf_ M' F 3) R L.length → K M' (nI L.length)) : wp_X10_keep F M K := by
  have l6 := h.2.2.2.2.1
  obtain ⟨k, o0, o3, -⟩ := h.re
  have hL := h.2.2.2.1
  have nR3 : rf_ M F 3 ≠ rf_ M (rf_ M F 3) 3 := kd_ne k o3.1 (by decide)
  have n03 : rf_ M (rf_ M F 3) 0 ≠ rf_ M (rf_ M F 3) 3 := own_ne o0 o3 (Or.inr (by decide))
  have n0R : rf_ M (rf_ M F 3) 0 ≠ rf_ M F 3 := kd_ne o0.1 k (by decide)
  refine ⟨h.1, k, k, o0.1, o3.1, by decide, by decide, fun z => ?_, ?_, ?_, fun M3 e3 M9 e9 _ => ?_⟩
  · rw [hL.1, show (0 : Int32) = nI 0 from rfl, lt_nI (by omega) (by omega)] at z
    omega
  · rw [hL.1, ix_nI (by omega), o0.2.1]
    show 0 + L.length ≤ 600
    omega
  · rw [hL.1, ix_nI (by omega), o3.2.1]
    show 0 + L.length ≤ 600
    omega
  rw [hL.1, ix_nI (by omega), show ix_ (0 : Int32) = 0 from rfl] at e3
  have X3 : Ex_ (fun a => a = rf_ M (rf_ M F 3) 3) M M3 := by rw [e3]; exact Ex_.aI _ _ rfl
  have c3 : it_ M3 (rf_ M F 3) 1 = nI L.length := by rw [X3.it nR3]; exact hL.1
  have X9 : Ex_ (fun a => a = rf_ M (rf_ M F 3) 3 ∨ a = rf_ M F 3) M M9 := by rw [e9]; exact (X3.mono (fun a ha => Or.inl ha)).tr (Ex_.sI _ _ _ (Or.inr rfl))
  have sub : ∀ b, (b = rf_ M (rf_ M F 3) 3 ∨ b = rf_ M F 3) → WB_ ow M b := fun b hb => by
    rcases hb with z | z
    · rw [z]; exact wb_re k o3
    · rw [z]; exact Or.inl (Or.inr (Or.inl k))
  have c9 : it_ M9 (rf_ M F 3) 4 = nI L.length := by rw [e9, it_sIs, c3]
  rw [c9]
  have h1 : LI_ ow M9 F nc m R sz nq kk cq L := h.wb X9 sub (hL.keep X9.1 (by rw [e9, it_sIk (by decide), X3.it nR3]) (fun j => X9.it (fun z => z.elim n03 n0R) j)) l6 h.2.2.2.2.2
  refine hK M9 (X9.mono sub) h1 ⟨by rw [X9.rf]; exact c9, fun j hj => ?_⟩
  obtain ⟨r, hr, er⟩ := h.row hj
  refine ⟨r, hr, ?_⟩
  rw [X9.rf F 3, X9.rf, e9, it_sIa nR3.symm, e3, it_aI, if_pos rfl, pk_cpy_in (by omega) (by omega), ← er]
  congr 1
  omega
theorem sp_pairs {K : Mm → Int32 → Prop} (h : LI_ ow M F nc m R sz nq kk cq L) (hk : KP_ M (rf_ M F 3) R L.length) (hc : c < nc) (hK : ∀ p, p ≤ 360000 → K M (nI p)) : wp_X10_pairs F (nI c) (nI c) M K := by
  have hS := h.2.1.1
  have t := hS.t
  have l6 := h.2.2.2.2.1
  have hR := h.R6
  obtain ⟨k, o0, o3, -⟩ := h.re
  obtain ⟨c0, c1⟩ := hS.co hc
  have hL := h.2.2.2.1
  have kc := hS.cl hc
  refine ⟨h.1, sp_needColumn h.1 hS hc (fun _ => sp_needColumn h.1 hS hc (fun _ => ⟨k, hS.kT, t.1.1, sp_get hS.lc hc (by decide) (fun _ => ⟨kc, hS.kT, t.1.1, sp_get hS.lc hc (by decide) (fun _ => ⟨kc, k, kc, kc, L.length + 1, ?_⟩)⟩)⟩))⟩
  have key2 : ∀ (E : Int32 → Mm → Prop) (x4 : Int32) (r : Nat) (p0 : Nat), r < R → (∀ p, p ≤ p0 + L.length → E (nI p) M) → ∀ (f j p : Nat), j ≤ L.length → L.length - j < f → p ≤ p0 + j → lp_X5_pairCount_26 (rf_ M F 3) (cl_ M (rf_ M F 0) c) (cl_ M (rf_ M F 0) c) x4 (nI r) (fun M35 r36 => Nk_ M M35 → K M35 r36) E f (nI p) (nI j) M := by
    intro E x4 r p0 hr hE f
    induction f with
    | zero => intro j p _ h; omega
    | succ f ih =>
      intro j p hj hf hp
      have q1 : j < L.length → L.length - (j + 1) < f := by omega
      unfold lp_X5_pairCount_26
      rw [hk.1, le_nI (by omega) (by omega)]
      refine ⟨fun _ => hE p (by omega), fun hh => ?_⟩
      have hjL : j < L.length := by omega
      obtain ⟨r2, hr2, er2⟩ := hk.2 j hjL
      have v1 : vp_in (nI r) 600 := vi_ (by omega) (by decide)
      have v2 : vp_in (nI r2) 600 := vi_ (by omega) (by decide)
      rw [ix_nI (n := r) (by omega), ix_nI (n := j) (by omega), er2, ix_nI (n := r2) (by omega), c1.2.1, c0.2.1, o3.2.1, nI_p1, nI_p1]
      exact ⟨c1.1, v1, fun _ => ⟨fun _ => ⟨o3.1, vi_ (by omega) (by decide), c1.1, v2, fun _ => ⟨fun _ => ⟨c0.1, v2, c0.1, v1, fun _ => ih (j + 1) (p + 1) (by omega) (q1 hjL) (by omega), fun _ => ih (j + 1) p (by omega) (q1 hjL) (by omega)⟩, fun _ => ih (j + 1) p (by omega) (q1 hjL) (by omega)⟩⟩, fun _ => hE p (by omega)⟩⟩
  have key1 : ∀ (f i p : Nat), i ≤ L.length → L.length - i < f → p ≤ i * L.length → lp_X5_pairCount_5 (rf_ M F 3) (cl_ M (rf_ M F 0) c) (cl_ M (rf_ M F 0) c) (fun M35 r36 => Nk_ M M35 → K M35 r36) (fun xv28 M29 => Nk_ M M29 → (Nk_ M M29 → K M29 xv28)) f (nI p) (nI i) M := by
    intro f
    induction f with
    | zero => intro j p _ h; omega
    | succ f ih =>
      intro i p hi hf hp
      have q1 : i < L.length → L.length - (i + 1) < f := by omega
      unfold lp_X5_pairCount_5
      rw [hL.1, le_nI (by omega) (by omega)]
      refine ⟨fun hh _ _ => hK p ?_, fun hh => ?_⟩
      · refine Nat.le_trans hp ?_
        calc i * L.length ≤ 600 * 600 := Nat.mul_le_mul (by omega) l6
          _ = 360000 := rfl
      · have hiL : i < L.length := by omega
        obtain ⟨r, hr, er⟩ := h.row hiL
        rw [ix_nI (n := i) (by omega), er, o0.2.1]
        refine ⟨o0.1, vi_ (by omega) (by decide), L.length + 1, key2 _ (nI i) r p hr (fun p' hp' _ => ?_) (L.length + 1) 0 p (by omega) (by omega) (by omega)⟩
        rw [nI_p1]
        exact ih (i + 1) p' (by omega) (q1 hiL) (by rw [Nat.succ_mul]; omega)
  exact key1 (L.length + 1) 0 0 (by omega) (by omega) (by omega)
theorem sp_limit {K : Mm → Int32 → Prop} (h : LI_ ow M F nc m R sz nq kk cq L) (hK : ∀ M', Ex_ (WB_ ow M) M M' → LI_ ow M' F nc m R sz nq kk cq L → K M' (nI L.length)) : wp_X10_limit F (nI L.length + 1) M K := by
  have l6 := h.2.2.2.2.1
  obtain ⟨k, o0, -⟩ := h.re
  have hL := h.2.2.2.1
  have n0R : rf_ M (rf_ M F 3) 0 ≠ rf_ M F 3 := kd_ne o0.1 k (by decide)
  refine ⟨h.1, fun _ => ⟨k, fun M3 e3 => ?_⟩, fun z => ?_⟩
  · rw [hL.1, nI_p1, if_neg (fun z => by rw [lt_nI (by omega) (by omega)] at z; omega)] at e3
    have X3 : Ex_ (fun a => a = rf_ M F 3) M M3 := by rw [e3]; exact Ex_.sI _ _ _ rfl
    have sub : ∀ b, b = rf_ M F 3 → WB_ ow M b := fun b hb => by rw [hb]; exact Or.inl (Or.inr (Or.inl k))
    have c3 : it_ M3 (rf_ M F 3) 1 = nI L.length := by rw [e3, it_sIs]
    rw [c3]
    exact hK M3 (X3.mono sub) (h.wb X3 sub (hL.keep X3.1 (c3.trans hL.1.symm) (fun j => X3.it n0R j)) l6 h.2.2.2.2.2)
  · rw [nI_p1] at z
    exact z ((le_nI (a := 0) (by omega) (by omega)).mpr (by omega))
end TD
