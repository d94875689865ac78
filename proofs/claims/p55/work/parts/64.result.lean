/-! the result's methods -/
def WB_ (ow : Nat → Nat × Nat) (M : Mm) (b : Nat) : Prop := WA_ ow M b ∨ ((kd_ M b = 20 ∨ kd_ M b = 22) ∧ kd_ M (ow b).1 = 9)
section RE
variable {ow : Nat → Nat × Nat} {M M' : Mm} {T F Q nc m R sz nq i c r g k n Re C : Nat} {kk cq : Nat → Nat} {A Z : Nat → Prop} {L : List Int32}
theorem wb_k {b c : Nat} (h : kd_ M b = c) (hc : c = 1 ∨ c = 2 ∨ c = 4 ∨ c = 5 ∨ c = 6 ∨ c = 9 ∨ c = 10 ∨ c = 11 ∨ c = 23 ∨ c = 24 ∨ c = 25 ∨ c = 26 ∨ c = 30 ∨ c = 36) : ¬ WB_ ow M b := by
  unfold WB_ WA_
  omega
theorem wb_o {a k c n : Nat} (h : own_ ow M a k c n) (ha : kd_ M a = 2 ∨ kd_ M a = 3 ∨ kd_ M a = 10 ∨ kd_ M a = 11) (hc : c = 20 ∨ c = 21) : ¬ WB_ ow M (rf_ M a k) := by
  obtain ⟨h1, -, h3⟩ := h
  unfold WB_ WA_
  rw [h1, h3]
  simp only
  omega
theorem WB_.eq (e : M'.1 = M.1) (b : Nat) : WB_ ow M' b ↔ WB_ ow M b := by
  unfold WB_ WA_ kd_
  rw [e]
theorem wb_so {a : Nat} (hs : SH_ ow M) (ha : kd_ M a = 9) : WB_ ow M (rf_ M a 0) ∧ WB_ ow M (rf_ M a 1) := by
  obtain ⟨o0, o1⟩ := hs.sor ha
  unfold WB_
  rw [o0.1, o0.2.2, o1.1, o1.2.2]
  exact ⟨Or.inr ⟨Or.inr rfl, ha⟩, Or.inr ⟨Or.inl rfl, ha⟩⟩
theorem wb_re {k n : Nat} (hR : kd_ M Re = 7) (h : own_ ow M Re k 20 n) : WB_ ow M (rf_ M Re k) := by
  unfold WB_ WA_
  rw [h.1, h.2.2]
  exact Or.inl (Or.inr (Or.inr (Or.inr (Or.inr ⟨Or.inl rfl, Or.inl hR⟩))))
theorem TI_.wb (h : TI_ ow M T nc m R sz kk Z) (hX : Ex_ A M M') (hA : ∀ b, A b → WB_ ow M b) : TI_ ow M' T nc m R sz kk Z := by
  obtain ⟨hS, hH, hZ, hN, hC⟩ := h
  obtain ⟨t0, t1, t2, t3, t4, t5⟩ := hS.t
  have hT := hS.kT
  have nT : ¬ A T := fun z => wb_k hT (by decide) (hA _ z)
  have n2 : ¬ A (rf_ M T 2) := fun z => wb_o t2 (by omega) (by decide) (hA _ z)
  have n3 : ¬ A (rf_ M T 3) := fun z => wb_o t3 (by omega) (by decide) (hA _ z)
  have nb : ∀ i, ¬ A (bk_ M T m i) ∧ ¬ A (rf_ M (bk_ M T m i) 0) := fun i => ⟨fun z => wb_k (hS.bk i) (by decide) (hA _ z), fun z => wb_o (hS.bo i).1 (Or.inl (hS.bk i)) (by decide) (hA _ z)⟩
  have eal : ∀ r, al_ M' T r = al_ M T r := fun r => by unfold al_; rw [hX.rf]; exact hX.it n2 r
  have ehm : ∀ r, hm_ M' T r = hm_ M T r := fun r => by unfold hm_; rw [hX.rf]; exact hX.it n3 r
  have hv : ∀ c r, c < nc → r < R → it_ M' (rf_ M (cl_ M T c) 0) r = it_ M (rf_ M (cl_ M T c) 0) r ∧ it_ M' (rf_ M (cl_ M T c) 1) r = it_ M (rf_ M (cl_ M T c) 1) r := fun c r hc _ => ⟨hX.it (fun z => wb_o (hS.co hc).1 (Or.inr (Or.inl (hS.cl hc))) (by decide) (hA _ z)) r, hX.it (fun z => wb_o (hS.co hc).2 (Or.inr (Or.inl (hS.cl hc))) (by decide) (hA _ z)) r⟩
  refine ⟨hS.ex hX (fun b z e => wb_k e (by decide) (hA _ z)), hH.sa (fun i _ => hX.1.bk T m i) (fun i _ => ⟨hX.it (nb i).1 2, hX.rf _ _, fun j _ => hX.it (nb i).2 j⟩) ehm (fun r _ z => by rw [eal]; exact z), hZ.sa hS hH.1 hX (fun i _ _ => nb i) (fun b z => ⟨fun e => wb_k e (by decide) (hA _ z), fun e => wb_k e (by decide) (hA _ z)⟩) hv hN.2.1, ?_, fun c r hc hr hl => ?_⟩
  · obtain ⟨h1, h2, h3, h4, h5, h6, h7⟩ := hN
    exact ⟨by rw [hX.it nT]; exact h1, h2, by rw [hX.it nT]; exact h3, h4, h5, fun r hr => by rw [eal]; exact h6 r hr, by rw [hX.it nT, lvn_congr (fun r _ => eal r)]; exact h7⟩
  · rw [hX.1.cl, hX.rf] at hl ⊢
    rw [(hv c r hc hr).2] at hl
    rw [(hv c r hc hr).1]
    exact hC c r hc hr hl
theorem nv_wb (hS : TS_ ow M T nc m) (hX : Ex_ A M M') (hA : ∀ b, A b → WB_ ow M b) (hc : c < nc) : nu_ M' T c = nu_ M T c ∧ vl_ M' T c = vl_ M T c := by
  constructor
  · funext r
    unfold nu_
    rw [hX.1.cl, hX.rf]
    exact hX.it (fun z => wb_o (hS.co hc).2 (Or.inr (Or.inl (hS.cl hc))) (by decide) (hA _ z)) r
  · funext r
    unfold vl_
    rw [hX.1.cl, hX.rf]
    exact hX.it (fun z => wb_o (hS.co hc).1 (Or.inr (Or.inl (hS.cl hc))) (by decide) (hA _ z)) r
/-- the object, with a result of L -/
def LI_ (ow : Nat → Nat × Nat) (M : Mm) (F nc m R sz nq : Nat) (kk cq : Nat → Nat) (L : List Int32) : Prop := kd_ M F = 12 ∧ TI_ ow M (rf_ M F 0) nc m R sz kk (fun j => j < m) ∧ QI_ M (rf_ M F 1) nc nq cq ∧ RS_ M (rf_ M F 3) L ∧ L.length ≤ 600 ∧ ∀ x, x ∈ L → ∃ r, r < R ∧ x = nI r
theorem LI_.wb {L' : List Int32} (h : LI_ ow M F nc m R sz nq kk cq L) (hX : Ex_ A M M') (hA : ∀ b, A b → WB_ ow M b) (hR : RS_ M' (rf_ M F 3) L') (h6 : L'.length ≤ 600) (hr : ∀ x, x ∈ L' → ∃ r, r < R ∧ x = nI r) : LI_ ow M' F nc m R sz nq kk cq L' := by
  obtain ⟨h1, h2, h3, h4, h5, h7⟩ := h
  have hs := h2.1.sh
  have f := hs.cfr h1
  unfold LI_
  rw [hX.kd, hX.rf, hX.rf, hX.rf]
  exact ⟨h1, h2.wb hX hA, h3.ex hs f.2.1.1 hX (fun b hb => ⟨fun e => wb_k e (by decide) (hA b hb), fun e => wb_k e (by decide) (hA b hb), fun e => wb_k e (by decide) (hA b hb)⟩), hR, h6, hr⟩
theorem RS_.at (h : RS_ M Re L) {j : Nat} (hj : j < L.length) : L[j]? = some (it_ M (rf_ M Re 0) j) := by
  have := sg_get (it_ M (rf_ M Re 0)) (i := 0) hj
  rw [h.2, Nat.zero_add] at this
  exact this
theorem RS_.row (h : RS_ M Re L) (hr : ∀ x, x ∈ L → ∃ r, r < R ∧ x = nI r) {j : Nat} (hj : j < L.length) : ∃ r, r < R ∧ it_ M (rf_ M Re 0) j = nI r := hr _ (List.mem_of_getElem? (h.at hj))
theorem sp_isSame' {K : Mm → Int32 → Prop} {q : Nat} (hs : SH_ ow M) (hC : kd_ M C = 3) (hr : r < 600) (hq : q < 600) (hK : ∀ x : Int32, bz_ x → bz_ (it_ M (rf_ M C 1) r) → bz_ (it_ M (rf_ M C 1) q) → (x = 0 ↔ sm_ (it_ M (rf_ M C 1)) (it_ M (rf_ M C 0)) (nI r) (nI q) = false) → K M x) : wp_X1_isSame C (nI r) (nI q) M K := by
  obtain ⟨c0, c1⟩ := hs.col hC
  have v0 : ∀ j, j < 600 → vp_in (nI j) 600 := fun j hj => vi_ hj (by decide)
  unfold wp_X1_isSame
  rw [ix_nI (by omega), ix_nI (by omega), c0.2.1, c1.2.1]
  have e : sm_ (it_ M (rf_ M C 1)) (it_ M (rf_ M C 0)) (nI r) (nI q) = (decide (it_ M (rf_ M C 1) r = it_ M (rf_ M C 1) q) && decide (it_ M (rf_ M C 0) r = it_ M (rf_ M C 0) q)) := by
    unfold sm_
    rw [ix_nI (by omega), ix_nI (by omega)]
  rw [e] at hK
  refine ⟨hC, c1.1, v0 r hr, fun b1 => ⟨v0 q hq, fun b2 => ⟨fun e1 => ⟨c0.1, v0 r hr, v0 q hq, fun e2 => hK 1 (Or.inr rfl) b1 b2 ?_, fun e2 => hK 0 (Or.inl rfl) b1 b2 ?_⟩, fun e1 => hK 0 (Or.inl rfl) b1 b2 ?_⟩⟩⟩
  · rw [decide_eq_true e1, decide_eq_true e2]
    exact ⟨fun z => absurd z (by decide), fun z => absurd z (by decide)⟩
  · rw [decide_eq_false e2, Bool.and_false]
    exact ⟨fun _ => rfl, fun _ => rfl⟩
  · rw [decide_eq_false e1, Bool.false_and]
    exact ⟨fun _ => rfl, fun _ => rfl⟩
/-- groups as they were last arranged -/
def GP_ (M : Mm) (Re : Nat) (l v : Nat → Int32) (L : List Int32) : Prop := it_ M Re 2 = nI (bs_ l v L L.length).length ∧ (∀ g, g ≤ (bs_ l v L L.length).length → it_ M (rf_ M Re 6) g = nI (st_ l v L L.length g)) ∧ (∀ j, j < L.length → it_ M (rf_ M Re 5) j = gj_ l v L j) ∧ BZ_ l v L L.length
def AG_ (M : Mm) (Re srt a : Nat) : Prop := a = Re ∨ a = rf_ M Re 5 ∨ a = rf_ M Re 6 ∨ a = rf_ M srt 0 ∨ a = rf_ M srt 1
theorem sp_arrangeGroups {K : Mm → Prop} {srt : Nat} (hs : SH_ ow M) (hRe : kd_ M Re = 7) (hC : kd_ M C = 3) (hsrt : kd_ M srt = 9) (hL : RS_ M Re L) (h6 : L.length ≤ 600) (hR : R ≤ 600) (hr : ∀ x, x ∈ L → ∃ r, r < R ∧ x = nI r)
    (hK : ∀ M', Ex_ (AG_ M Re srt) M M' → (∀ j, j ≠ 2 → it_ M' Re j = it_ M Re j) → GP_ M' Re (it_ M (rf_ M C 1)) (it_ M (rf_ M C 0)) L → K M') : wp_X5_arrangeGroups Re C srt M K := by
  obtain ⟨q0, q3, q5, q6⟩ := hs.res hRe
  obtain ⟨c0, c1⟩ := hs.col hC
  obtain ⟨s0, s1⟩ := hs.sor hsrt
  have n50 : rf_ M Re 5 ≠ rf_ M Re 0 := own_ne q5 q0 (Or.inr (by decide))
  have n56 : rf_ M Re 5 ≠ rf_ M Re 6 := own_ne q5 q6 (Or.inr (by decide))
  have nR5 : Re ≠ rf_ M Re 5 := kd_ne hRe q5.1 (by decide)
  have nR6 : Re ≠ rf_ M Re 6 := kd_ne hRe q6.1 (by decide)
  have ne : srt ≠ Re := kd_ne hsrt hRe (by decide)
  have n5s : rf_ M Re 5 ≠ rf_ M srt 1 := own_ne q5 s1 (Or.inl ne.symm)
  have nRs0 : Re ≠ rf_ M srt 0 := kd_ne hRe s0.1 (by decide)
  have nRs1 : Re ≠ rf_ M srt 1 := kd_ne hRe s1.1 (by decide)
  have nCr : C ≠ Re := kd_ne hC hRe (by decide)
  have nCs : C ≠ srt := kd_ne hC hsrt (by decide)
  refine ⟨hRe, hC, hsrt, q0.1, q5.1, by decide, by decide, fun z => ?_, ?_, ?_, fun M3 e3 => ?_⟩
  · rw [hL.1, show (0 : Int32) = nI 0 from rfl, lt_nI (by omega) (by omega)] at z
    omega
  · rw [hL.1, ix_nI (by omega), q0.2.1]
    show 0 + L.length ≤ 600
    omega
  · rw [hL.1, ix_nI (by omega), q5.2.1]
    show 0 + L.length ≤ 600
    omega
  rw [hL.1, ix_nI (by omega), show ix_ (0 : Int32) = 0 from rfl] at e3
  have X3 : Ex_ (fun a => a = rf_ M Re 5) M M3 := by rw [e3]; exact Ex_.aI _ _ rfl
  have g3 : sg_ (it_ M3 (rf_ M Re 5)) 0 L.length = L := by
    refine Eq.trans (sg_congr (fun j _ hj => ?_)) hL.2
    rw [e3, it_aI, if_pos rfl, pk_cpy_in (by omega) (by omega)]
    congr 1
    omega
  have cn3 : it_ M3 Re 1 = nI L.length := by rw [X3.it nR5]; exact hL.1
  have l3 : it_ M3 (rf_ M C 1) = it_ M (rf_ M C 1) := funext fun j => X3.it (kd_ne c1.1 q5.1 (by decide)) j
  have v3 : it_ M3 (rf_ M C 0) = it_ M (rf_ M C 0) := funext fun j => X3.it (own_ne c0 q5 (Or.inl nCr)) j
  clear e3
  rw [cn3]
  have ra := @sp_arrange srt (rf_ M Re 5) C L.length 0 M3
  simp only [X3.rf, X3.kd, X3.ln, l3, v3, g3] at ra
  refine ra hsrt s1.1 s1.2.1 s0.1 s0.2.1 q5.1 n5s (by rw [q5.2.1]; exact h6) h6 (by rw [q5.2.1]; decide) hC c0.1 c1.1 c0.2.1 c1.2.1 (fun j hj => ?_) (fun M9 X9 p9 _ _ M16 e16 => ⟨L.length + 1, ?_⟩)
  · have hm : it_ M3 (rf_ M Re 5) j ∈ L := by
      rw [← g3]
      exact sg_mem.mpr ⟨j, Nat.zero_le _, by omega, rfl⟩
    obtain ⟨r, h1, h2⟩ := hr _ hm
    exact ⟨r, h2, by omega⟩
  have X9' : Ex_ (AG_ M Re srt) M M9 := (X3.mono (fun a ha => Or.inr (Or.inl ha))).tr (X9.mono (fun a ha => by
    rcases ha with z | z | z
    · exact Or.inr (Or.inr (Or.inr (Or.inr z)))
    · exact Or.inr (Or.inl z)
    · exact Or.inr (Or.inr (Or.inr (Or.inl z)))))
  have X16 : Ex_ (AG_ M Re srt) M M16 := by rw [e16]; exact X9'.tr (Ex_.sI _ _ _ (Or.inl rfl))
  have re9 : ∀ j, it_ M9 Re j = it_ M Re j := fun j => by
    rw [X9.it (fun z => by
      rcases z with z | z | z
      · exact nRs1 z
      · exact nR5 z
      · exact nRs0 z), X3.it nR5]
  have g16 : ∀ j, j < L.length → it_ M16 (rf_ M Re 5) j = gj_ (it_ M (rf_ M C 1)) (it_ M (rf_ M C 0)) L j := fun j hj => by
    have h1 := sg_get (it_ M9 (rf_ M Re 5)) (i := 0) hj
    rw [p9, Nat.zero_add] at h1
    have h2 := gj_get (l := it_ M (rf_ M C 1)) (v := it_ M (rf_ M C 0)) hj
    unfold gl_ at h2
    rw [h2] at h1
    rw [e16, it_sIa nR5.symm]
    exact (Option.some.inj h1).symm
  have f16 : ∀ j, j ≠ 2 → it_ M16 Re j = it_ M Re j := fun j hj => by rw [e16, it_sIk hj]; exact re9 j
  have c16 : it_ M16 Re 2 = nI 0 := by rw [e16, it_sIs]; rfl
  clear e16
  -- the rows grouped are rows
  have rw5 : ∀ j, j < L.length → ∃ r, r < R ∧ gj_ (it_ M (rf_ M C 1)) (it_ M (rf_ M C 0)) L j = nI r := fun j hj => hr _ (gj_mem hj)
  have key : ∀ (f i : Nat) (M2 : Mm), i ≤ L.length → L.length - i < f → Ex_ (fun a => a = Re ∨ a = rf_ M Re 6) M16 M2 → (∀ j, j ≠ 2 → it_ M2 Re j = it_ M16 Re j) → it_ M2 Re 2 = nI (bs_ (it_ M (rf_ M C 1)) (it_ M (rf_ M C 0)) L i).length → (∀ g, g < (bs_ (it_ M (rf_ M C 1)) (it_ M (rf_ M C 0)) L i).length → it_ M2 (rf_ M Re 6) g = nI (((bs_ (it_ M (rf_ M C 1)) (it_ M (rf_ M C 0)) L i)[g]?).getD 0)) → (∀ j, 1 ≤ j → j < i → bz_ (it_ M (rf_ M C 1) (ix_ (gj_ (it_ M (rf_ M C 1)) (it_ M (rf_ M C 0)) L (j - 1)))) ∧ bz_ (it_ M (rf_ M C 1) (ix_ (gj_ (it_ M (rf_ M C 1)) (it_ M (rf_ M C 0)) L j)))) → lp_X5_arrangeGroups_39 Re C K (fun M39 => Nk_ M16 M39 → (kd_ M39 (rf_ M39 Re 6) = 20 ∧ (vp_in (it_ M39 Re 2) (ln_ M39 (rf_ M39 Re 6)) ∧ (∀ M46, M46 = sI_ M39 (rf_ M39 Re 6) (ix_ (it_ M39 Re 2)) (it_ M39 Re 1) → K M46)))) f (nI i) M2 := by
    intro f
    induction f with
    | zero => intro i M2 _ h; omega
    | succ f ih =>
      intro i M2 hi hf hX hfl hc hst hbz
      have q1 : i < L.length → L.length - (i + 1) < f := by omega
      have X2 : Ex_ (AG_ M Re srt) M M2 := X16.tr (hX.mono (fun a ha => by
        rcases ha with z | z
        · exact Or.inl z
        · exact Or.inr (Or.inr (Or.inl z))))
      have bl := bs_len (l := it_ M (rf_ M C 1)) (v := it_ M (rf_ M C 0)) (L := L) (i := i)
      unfold lp_X5_arrangeGroups_39
      rw [hfl 1 (by decide), f16 1 (by decide), hL.1, le_nI (by omega) (by omega)]
      refine ⟨fun hni => ?_, fun hni => ?_⟩
      · have : i = L.length := by omega
        subst this
        intro _
        rw [hc, X2.rf, X2.kd, X2.ln, ix_nI (by omega)]
        refine ⟨q6.1, by rw [q6.2.1]; exact vi_ (by omega) (by decide), fun M46 e46 => ?_⟩
        have X46 : Ex_ (AG_ M Re srt) M M46 := by rw [e46]; exact X2.tr (Ex_.sI _ _ _ (Or.inr (Or.inr (Or.inl rfl))))
        refine hK M46 X46 (fun j hj => by rw [e46, it_sIa nR6, hfl j hj, f16 j hj]) ⟨?_, fun g hg => ?_, fun j hj => ?_, hbz⟩
        · rw [e46, it_sIa nR6]; exact hc
        · rw [X46.rf, e46]
          by_cases e : g = (bs_ (it_ M (rf_ M C 1)) (it_ M (rf_ M C 0)) L L.length).length
          · rw [e, it_sIs, st_end (Nat.le_refl _)]
          · rw [it_sIk e, hst g (by omega), st_at (by omega), List.getElem?_eq_getElem (by omega)]
            rfl
        · rw [X46.rf, e46, it_sIa n56, hX.it (fun z => by
            rcases z with z | z
            · exact nR5 z.symm
            · exact n56 z)]
          exact g16 j hj
      have hin : i < L.length := by omega
      have go : ∀ M22 : Mm, nb_ (it_ M (rf_ M C 1)) (it_ M (rf_ M C 0)) L i = true → (∀ j, 1 ≤ j → j < i + 1 → bz_ (it_ M (rf_ M C 1) (ix_ (gj_ (it_ M (rf_ M C 1)) (it_ M (rf_ M C 0)) L (j - 1)))) ∧ bz_ (it_ M (rf_ M C 1) (ix_ (gj_ (it_ M (rf_ M C 1)) (it_ M (rf_ M C 0)) L j)))) → M22 = sI_ (sI_ M2 (rf_ M Re 6) (bs_ (it_ M (rf_ M C 1)) (it_ M (rf_ M C 0)) L i).length (nI i)) Re 2 (nI ((bs_ (it_ M (rf_ M C 1)) (it_ M (rf_ M C 0)) L i).length + 1)) → lp_X5_arrangeGroups_39 Re C K (fun M39 => Nk_ M16 M39 → (kd_ M39 (rf_ M39 Re 6) = 20 ∧ (vp_in (it_ M39 Re 2) (ln_ M39 (rf_ M39 Re 6)) ∧ (∀ M46, M46 = sI_ M39 (rf_ M39 Re 6) (ix_ (it_ M39 Re 2)) (it_ M39 Re 1) → K M46)))) f (nI (i + 1)) M22 := fun M22 hnb hbz2 e22 => by
        have ebs : bs_ (it_ M (rf_ M C 1)) (it_ M (rf_ M C 0)) L (i + 1) = bs_ (it_ M (rf_ M C 1)) (it_ M (rf_ M C 0)) L i ++ [i] := if_pos hnb
        have elen : (bs_ (it_ M (rf_ M C 1)) (it_ M (rf_ M C 0)) L (i + 1)).length = (bs_ (it_ M (rf_ M C 1)) (it_ M (rf_ M C 0)) L i).length + 1 := by rw [ebs, List.length_append]; rfl
        refine ih (i + 1) M22 (by omega) (q1 hin) ?_ (fun j hj => ?_) ?_ (fun g hg => ?_) hbz2
        · rw [e22]
          exact (hX.tr (Ex_.sI _ _ _ (Or.inr rfl))).tr (Ex_.sI _ _ _ (Or.inl rfl))
        · rw [e22, it_sIk hj, it_sIa nR6]
          exact hfl j hj
        · rw [e22, it_sIs, elen]
        · rw [e22, it_sIa nR6.symm, ebs]
          rw [elen] at hg
          by_cases e : g = (bs_ (it_ M (rf_ M C 1)) (it_ M (rf_ M C 0)) L i).length
          · rw [e, it_sIs, List.getElem?_append_right (Nat.le_refl _), Nat.sub_self]
            rfl
          · rw [it_sIk e, List.getElem?_append_left (by omega)]
            exact hst g (by omega)
      rw [nI_p1]
      refine ⟨fun h0 => ?_, fun h0 => ?_⟩
      · have e0 : i = 0 := nI_inj (a := i) (b := 0) (by omega) (by omega) h0
        rw [hc, X2.rf, X2.kd, X2.ln, ix_nI (by omega), q6.2.1]
        refine ⟨q6.1, vi_ (by omega) (by decide), fun M21 e21 M22 e22 => go M22 (by unfold nb_; rw [decide_eq_true e0]; rfl) (fun j h1 h2 => by omega) ?_⟩
        rw [e22, e21, it_sIa nR6, hc, nI_p1]
      · have e0 : i ≠ 0 := fun e => h0 (by rw [e]; rfl)
        obtain ⟨r1, hr1, er1⟩ := rw5 (i - 1) (by omega)
        obtain ⟨r2, hr2, er2⟩ := rw5 i hin
        have rd : ∀ j, j < L.length → it_ M2 (rf_ M Re 5) j = gj_ (it_ M (rf_ M C 1)) (it_ M (rf_ M C 0)) L j := fun j hj => by
          rw [hX.it (fun z => by
            rcases z with z | z
            · exact nR5 z.symm
            · exact n56 z)]
          exact g16 j hj
        have hs2 : SH_ ow M2 := X2.1.sh hs
        have hC2 : kd_ M2 C = 3 := by rw [X2.kd]; exact hC
        have nAc : ∀ a, kd_ M a = 21 → ¬ AG_ M Re srt a := fun a ha z => by
          rcases z with z | z | z | z | z
          · rw [z, hRe] at ha; omega
          · rw [z, q5.1] at ha; omega
          · rw [z, q6.1] at ha; omega
          · rw [z, s0.1] at ha; omega
          · rw [z, s1.1] at ha; omega
        have l2 : it_ M2 (rf_ M C 1) = it_ M (rf_ M C 1) := funext fun j => X2.it (nAc _ c1.1) j
        have v2 : it_ M2 (rf_ M C 0) = it_ M (rf_ M C 0) := funext fun j => X2.it (fun z => by
          rcases z with z | z | z | z | z
          · exact kd_ne c0.1 hRe (by decide) z
          · exact own_ne c0 q5 (Or.inl nCr) z
          · exact own_ne c0 q6 (Or.inl nCr) z
          · exact kd_ne c0.1 s0.1 (by decide) z
          · exact own_ne c0 s1 (Or.inl nCs) z) j
        rw [nI_s1 (by omega), X2.rf Re 5, X2.kd, X2.ln, ix_nI (n := i - 1) (by omega), ix_nI (n := i) (by omega), rd (i - 1) (by omega), rd i hin, er1, er2, q5.2.1]
        refine ⟨q5.1, vi_ (by omega) (by decide), vi_ (by omega) (by decide), sp_isSame' hs2 hC2 (by omega) (by omega) (fun x hx b1 b2 hsm _ _ => ?_)⟩
        rw [X2.rf C 1, l2] at b1 b2 hsm
        rw [X2.rf C 0, v2] at hsm
        have enb : nb_ (it_ M (rf_ M C 1)) (it_ M (rf_ M C 0)) L i = !(sm_ (it_ M (rf_ M C 1)) (it_ M (rf_ M C 0)) (nI r1) (nI r2)) := by
          unfold nb_
          rw [er1, er2, decide_eq_false e0, Bool.false_or]
        have hbz2 : ∀ j, 1 ≤ j → j < i + 1 → bz_ (it_ M (rf_ M C 1) (ix_ (gj_ (it_ M (rf_ M C 1)) (it_ M (rf_ M C 0)) L (j - 1)))) ∧ bz_ (it_ M (rf_ M C 1) (ix_ (gj_ (it_ M (rf_ M C 1)) (it_ M (rf_ M C 0)) L j))) := fun j h1 h2 => by
          by_cases e : j = i
          · rw [e, er1, er2, ix_nI (by omega), ix_nI (by omega)]
            exact ⟨b1, b2⟩
          · exact hbz j h1 (by omega)
        refine ⟨fun hx0 => ?_, fun hx0 => ?_⟩
        · rw [hc, X2.rf, X2.kd, X2.ln, ix_nI (by omega), q6.2.1]
          refine ⟨q6.1, vi_ (by omega) (by decide), fun M37 e37 M38 e38 => go M38 (by rw [enb, hsm.mp hx0]; rfl) hbz2 ?_⟩
          rw [e38, e37, it_sIa nR6, hc, nI_p1]
        · have hsm1 : sm_ (it_ M (rf_ M C 1)) (it_ M (rf_ M C 0)) (nI r1) (nI r2) = true := by
            cases h9 : sm_ (it_ M (rf_ M C 1)) (it_ M (rf_ M C 0)) (nI r1) (nI r2)
            · exact absurd (hsm.mpr h9) hx0
            · rfl
          rw [hsm1] at enb
          have ebs : bs_ (it_ M (rf_ M C 1)) (it_ M (rf_ M C 0)) L (i + 1) = bs_ (it_ M (rf_ M C 1)) (it_ M (rf_ M C 0)) L i := if_neg (by rw [enb]; decide)
          refine ih (i + 1) M2 (by omega) (q1 hin) hX hfl (by rw [ebs]; exact hc) (fun g hg => ?_) hbz2
          rw [ebs] at hg ⊢
          exact hst g hg
  exact key (L.length + 1) 0 M16 (by omega) (by omega) (Ex_.refl _ _) (fun _ _ => rfl) c16 (fun g hg => by cases hg) (fun j h1 h2 => by omega)
/-! accountOf -/
theorem sp_sumOf {K : Mm → Int32 → Prop} {s e : Nat} {x3 : Int32} (hs : SH_ ow M) (hRe : kd_ M Re = 7) (hC : kd_ M C = 3) (hse : s ≤ e) (he : e ≤ 600) (hR : R ≤ 600) (hr : ∀ j, s ≤ j → j < e → ∃ r, r < R ∧ it_ M (rf_ M Re 5) j = nI r) (hK : K M (su_ (it_ M (rf_ M C 0)) (sg_ (it_ M (rf_ M Re 5)) s (e - s)))) : wp_X5_sumOf Re C (nI s) (nI e) M K := by
  obtain ⟨q0, q3, q5, q6⟩ := hs.res hRe
  obtain ⟨c0, c1⟩ := hs.col hC
  have key : ∀ (f i : Nat), s ≤ i → i ≤ e → e - i < f → lp_X5_sumOf_6 Re C (nI e) K (fun xv6 M7 => Nk_ M M7 → (K M7 xv6)) f (su_ (it_ M (rf_ M C 0)) (sg_ (it_ M (rf_ M Re 5)) s (i - s))) (nI i) M := by
    intro f
    induction f with
    | zero => intro i _ _ h; omega
    | succ f ih =>
      intro i hsi hie hf
      have q1 : i < e → e - (i + 1) < f := by omega
      unfold lp_X5_sumOf_6
      rw [le_nI (by omega) (by omega)]
      refine ⟨fun h => ?_, fun h => ?_⟩
      · have : i = e := by omega
        rw [this]
        exact fun _ => hK
      · have hi : i < e := by omega
        obtain ⟨r, hr1, er⟩ := hr i hsi hi
        have next := ih (i + 1) (by omega) (by omega) (q1 hi)
        rw [show i + 1 - s = (i - s) + 1 by omega, sg_snoc, su_app, su_one, show s + (i - s) = i by omega, er, ix_nI (by omega), ← nI_p1] at next
        rw [ix_nI (n := i) (by omega), er, ix_nI (n := r) (by omega), q5.2.1, c0.2.1]
        exact ⟨c0.1, q5.1, vi_ (by omega) (by decide), vi_ (by omega) (by decide), next⟩
  have := key (e - s + 1) s (Nat.le_refl s) hse (by omega)
  rw [Nat.sub_self] at this
  exact ⟨hRe, hC, e - s + 1, this⟩
theorem sp_endOf {K : Mm → Int32 → Prop} {s e : Nat} {x4 : Int32} (hs : SH_ ow M) (hRe : kd_ M Re = 7) (hC : kd_ M C = 3) (hse : s ≤ e) (he : e ≤ 600) (hR : R ≤ 600) (hr : ∀ j, s ≤ j → j < e → ∃ r, r < R ∧ it_ M (rf_ M Re 5) j = nI r) (hK : ∀ w, EN_ (it_ M (rf_ M C 1)) (it_ M (rf_ M C 0)) (it_ M (rf_ M Re 5)) x4 s e w → K M w) : wp_X5_endOf Re C (nI s) (nI e) x4 M K := by
  obtain ⟨q0, q3, q5, q6⟩ := hs.res hRe
  obtain ⟨c0, c1⟩ := hs.col hC
  have key : ∀ (f i : Nat) (x5 w : Int32), s ≤ i → i ≤ e → e - i < f → (x5 = 0 → (∀ j, s ≤ j → j < i → it_ M (rf_ M C 1) (ix_ (it_ M (rf_ M Re 5) j)) ≠ 0) ∧ w = 0) → (x5 ≠ 0 → ∃ j, s ≤ j ∧ j < i ∧ it_ M (rf_ M C 1) (ix_ (it_ M (rf_ M Re 5) j)) = 0 ∧ it_ M (rf_ M C 0) (ix_ (it_ M (rf_ M Re 5) j)) = w) → (∀ j, s ≤ j → j < i → it_ M (rf_ M C 1) (ix_ (it_ M (rf_ M Re 5) j)) = 0 → cm_ x4 w (it_ M (rf_ M C 0) (ix_ (it_ M (rf_ M Re 5) j)))) → lp_X5_endOf_9 Re C (nI e) x4 K (fun xv17 M18 => Nk_ M M18 → (K M18 xv17)) f x5 w (nI i) M := by
    intro f
    induction f with
    | zero => intro i _ _ _ _ h; omega
    | succ f ih =>
      intro i x5 w hsi hie hf h0 h1 h2
      have q1 : i < e → e - (i + 1) < f := by omega
      unfold lp_X5_endOf_9
      rw [le_nI (by omega) (by omega)]
      refine ⟨fun h => ?_, fun h => ?_⟩
      · have : i = e := by omega
        subst this
        intro _
        refine hK w ⟨h2, ?_⟩
        by_cases e5 : x5 = 0
        · exact Or.inr (h0 e5)
        · exact Or.inl (h1 e5)
      have hi : i < e := by omega
      obtain ⟨r, hr1, er⟩ := hr i hsi hi
      rw [ix_nI (n := i) (by omega), er, ix_nI (n := r) (by omega), q5.2.1, c0.2.1, c1.2.1, nI_p1]
      have v6 : vp_in (nI r) 600 := vi_ (by omega) (by decide)
      have eix : ix_ (it_ M (rf_ M Re 5) i) = r := by rw [er, ix_nI (by omega)]
      refine ⟨q5.1, vi_ (by omega) (by decide), c1.1, v6, fun _ => ⟨fun hl => ⟨c0.1, v6, ?_⟩, fun hl => ?_⟩⟩
      · -- take the new one
        have tk : (x5 = 0 ∨ cm_ x4 (it_ M (rf_ M C 0) r) w) → lp_X5_endOf_9 Re C (nI e) x4 K (fun xv17 M18 => Nk_ M M18 → (K M18 xv17)) f 1 (it_ M (rf_ M C 0) r) (nI (i + 1)) M := fun hor => by
          refine ih (i + 1) 1 _ (by omega) (by omega) (q1 hi) (fun z => absurd z (by decide)) (fun _ => ⟨i, hsi, by omega, by rw [eix]; exact hl, by rw [eix]⟩) (fun j j1 j2 j3 => ?_)
          by_cases ej : j = i
          · rw [ej, eix]
            unfold cm_
            split <;> exact Int.le_refl _
          · rcases hor with z | z
            · exact absurd j3 ((h0 z).1 j j1 (by omega))
            · have := h2 j j1 (by omega) j3
              unfold cm_ at this z ⊢
              split
              · rename_i e4
                rw [if_pos e4] at this z
                omega
              · rename_i e4
                rw [if_neg e4] at this z
                omega
        have kp : x5 ≠ 0 → cm_ x4 w (it_ M (rf_ M C 0) r) → lp_X5_endOf_9 Re C (nI e) x4 K (fun xv17 M18 => Nk_ M M18 → (K M18 xv17)) f 1 w (nI (i + 1)) M := fun h5 hc => by
          refine ih (i + 1) 1 w (by omega) (by omega) (q1 hi) (fun z => absurd z (by decide)) (fun _ => ?_) (fun j j1 j2 j3 => ?_)
          · obtain ⟨j, j1, j2, j3⟩ := h1 h5
            exact ⟨j, j1, by omega, j3⟩
          · by_cases ej : j = i
            · rw [ej, eix]; exact hc
            · exact h2 j j1 (by omega) j3
        refine ⟨fun h4 => ⟨fun hle => ⟨fun h5 => tk (Or.inl h5), fun h5 => kp h5 ?_⟩, fun hle => ⟨fun h5 => tk (Or.inl h5), fun h5 => tk (Or.inr ?_)⟩⟩, fun h4 => ⟨fun hle => ⟨fun h5 => tk (Or.inl h5), fun h5 => kp h5 ?_⟩, fun hle => ⟨fun h5 => tk (Or.inl h5), fun h5 => tk (Or.inr ?_)⟩⟩⟩
        · unfold cm_; rw [if_pos h4]; exact i_le.mp hle
        · unfold cm_; rw [if_pos h4]; rw [i_le] at hle; omega
        · unfold cm_; rw [if_neg h4]; exact i_le.mp hle
        · unfold cm_; rw [if_neg h4]; rw [i_le] at hle; omega
      · refine ih (i + 1) x5 w (by omega) (by omega) (q1 hi) (fun z => ⟨fun j j1 j2 => ?_, (h0 z).2⟩) (fun z => ?_) (fun j j1 j2 j3 => ?_)
        · by_cases ej : j = i
          · rw [ej, eix]; exact hl
          · exact (h0 z).1 j j1 (by omega)
        · obtain ⟨j, j1, j2, j3⟩ := h1 z
          exact ⟨j, j1, by omega, j3⟩
        · by_cases ej : j = i
          · rw [ej, eix] at j3; exact absurd j3 hl
          · exact h2 j j1 (by omega) j3
  exact ⟨hRe, hC, e - s + 1, key (e - s + 1) s 0 0 (Nat.le_refl s) hse (by omega) (fun _ => ⟨fun j j1 j2 => by omega, rfl⟩) (fun z => absurd rfl z) (fun j j1 j2 => by omega)⟩
/-- what is told of a group -/
def AC_ (l v : Nat → Int32) (L : List Int32) (g a : Nat) (w : Int32) : Prop := (a = 0 → w = v (ix_ (gj_ l v L (st_ l v L L.length g)))) ∧ (a = 1 → w = nI (st_ l v L L.length (g + 1)) - nI (st_ l v L L.length g)) ∧ (a = 2 → w = su_ v (sg_ (gj_ l v L) (st_ l v L L.length g) (st_ l v L L.length (g + 1) - st_ l v L L.length g))) ∧ (a = 3 → EN_ l v (gj_ l v L) 1 (st_ l v L L.length g) (st_ l v L L.length (g + 1)) w) ∧ (a = 4 → EN_ l v (gj_ l v L) 0 (st_ l v L L.length g) (st_ l v L L.length (g + 1)) w)
theorem EN_.congr {l v g g' : Nat → Int32} {f : Int32} {s e : Nat} {w : Int32} (h : EN_ l v g f s e w) (hg : ∀ j, s ≤ j → j < e → g j = g' j) : EN_ l v g' f s e w := by
  obtain ⟨h1, h2⟩ := h
  refine ⟨fun j j1 j2 j3 => ?_, ?_⟩
  · rw [← hg j j1 j2] at j3 ⊢
    exact h1 j j1 j2 j3
  · rcases h2 with ⟨j, j1, j2, j3, j4⟩ | ⟨j1, j2⟩
    · rw [hg j j1 j2] at j3 j4
      exact Or.inl ⟨j, j1, j2, j3, j4⟩
    · exact Or.inr ⟨fun j a b => by rw [← hg j a b]; exact j1 j a b, j2⟩
theorem sp_accountOf {K : Mm → Int32 → Prop} {a : Nat} (hs : SH_ ow M) (hRe : kd_ M Re = 7) (hC : kd_ M C = 3) (hR : R ≤ 600) (h6 : L.length ≤ 600) (hr : ∀ x, x ∈ L → ∃ r, r < R ∧ x = nI r) (hG : GP_ M Re (it_ M (rf_ M C 1)) (it_ M (rf_ M C 0)) L) (hg : g < (bs_ (it_ M (rf_ M C 1)) (it_ M (rf_ M C 0)) L L.length).length) (ha : a < 5) (hK : ∀ w, AC_ (it_ M (rf_ M C 1)) (it_ M (rf_ M C 0)) L g a w → K M w) : wp_X5_accountOf Re (nI g) C C (nI a) M K := by
  obtain ⟨q0, q3, q5, q6⟩ := hs.res hRe
  obtain ⟨c0, c1⟩ := hs.col hC
  obtain ⟨z1, z2, z3, z4⟩ := hG
  have bl := bs_len (l := it_ M (rf_ M C 1)) (v := it_ M (rf_ M C 0)) (L := L) (i := L.length)
  have y1 := st_in (l := it_ M (rf_ M C 1)) (v := it_ M (rf_ M C 0)) (L := L) (n := L.length) hg
  have y2 := st_lt (l := it_ M (rf_ M C 1)) (v := it_ M (rf_ M C 0)) (L := L) (n := L.length) (show g < g + 1 by omega) hg
  have y3 := st_le (l := it_ M (rf_ M C 1)) (v := it_ M (rf_ M C 0)) (L := L) (n := L.length) (g := g + 1)
  have rows : ∀ j, j < L.length → ∃ r, r < R ∧ it_ M (rf_ M Re 5) j = nI r := fun j hj => by
    rw [z3 j hj]
    exact hr _ (gj_mem hj)
  obtain ⟨r, hr1, er⟩ := rows _ y1.1
  unfold wp_X5_accountOf
  rw [nI_p1, ix_nI (n := g) (by omega), ix_nI (n := g + 1) (by omega), z2 g (by omega), z2 (g + 1) (by omega), ix_nI (n := st_ _ _ _ _ g) (by omega), er, ix_nI (n := r) (by omega), q5.2.1, q6.2.1, c0.2.1]
  have n5 : ∀ b : Nat, b < 5 → (nI a = nI b ↔ a = b) := fun b hb => eq_nI (by omega) (by omega)
  refine ⟨hRe, hC, hC, q6.1, vi_ (by omega) (by decide), vi_ (by omega) (by decide), fun h => ?_, fun h => ?_, fun h => ?_, fun h0 h1 h2 => ⟨fun h => ?_, fun h => ?_⟩⟩
  · have e : a = 0 := (n5 0 (by omega)).mp h
    refine ⟨c0.1, q5.1, vi_ (by omega) (by decide), vi_ (by omega) (by decide), hK _ ⟨fun _ => ?_, fun z => by omega, fun z => by omega, fun z => by omega, fun z => by omega⟩⟩
    rw [← z3 _ y1.1, er, ix_nI (by omega)]
  · have e : a = 1 := (n5 1 (by omega)).mp h
    exact hK _ ⟨fun z => by omega, fun _ => rfl, fun z => by omega, fun z => by omega, fun z => by omega⟩
  · have e : a = 2 := (n5 2 (by omega)).mp h
    refine sp_sumOf (x3 := 0) hs hRe hC (by omega) (by omega) hR (fun j _ j2 => rows j (by omega)) (fun _ => hK _ ⟨fun z => by omega, fun z => by omega, fun _ => ?_, fun z => by omega, fun z => by omega⟩)
    congr 1
    exact sg_congr (fun j _ j2 => z3 j (by omega))
  · have e : a = 3 := (n5 3 (by omega)).mp h
    exact sp_endOf hs hRe hC (by omega) (by omega) hR (fun j _ j2 => rows j (by omega)) (fun w hw _ => hK _ ⟨fun z => by omega, fun z => by omega, fun z => by omega, fun _ => hw.congr (fun j _ j2 => z3 j (by omega)), fun z => by omega⟩)
  · have e3 : a ≠ 3 := fun z => h ((n5 3 (by omega)).mpr z)
    have e0 : a ≠ 0 := fun z => h0 ((n5 0 (by omega)).mpr z)
    have e1 : a ≠ 1 := fun z => h1 ((n5 1 (by omega)).mpr z)
    have e2 : a ≠ 2 := fun z => h2 ((n5 2 (by omega)).mpr z)
    exact sp_endOf hs hRe hC (by omega) (by omega) hR (fun j _ j2 => rows j (by omega)) (fun w hw _ => hK _ ⟨fun z => by omega, fun z => by omega, fun z => by omega, fun z => by omega, fun _ => hw.congr (fun j _ j2 => z3 j (by omega))⟩)
end RE
