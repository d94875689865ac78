/-! what stays where a memory only grows -/
section GN
variable {ow ow' : Nat → Nat × Nat} {M M' : Mm} {T F Q nc m R sz nq i c r g k n : Nat} {kk cq : Nat → Nat} {Z : Nat → Prop}
theorem TI_.gw0 (h : TI_ ow M T nc m R sz kk Z) (X : Gw_ (fun _ => False) M M') (hw : ∀ b, kd_ M b ≠ 0 → ow' b = ow b) (hs : SH_ ow' M') : TI_ ow' M' T nc m R sz kk Z := by
  obtain ⟨hS, hH, hZ, hN, hC⟩ := h
  have X2 : Gw_ (AK_ ow M T) M M' := X.mono (fun _ _ z => z.elim)
  have t := hS.t
  have tt := fun k => ak_T X2 hS k
  have lf' : Ls_ ow' M' (rf_ M T 1) m 2 := X.ls hw id (fun _ => id) (by decide) hS.lf
  have el' : ∀ i, i < m → el_ M' (rf_ M T 1) i = el_ M (rf_ M T 1) i := fun i hi => X.el hS.lf id id hi
  have bk' : ∀ i, bk_ M' T m i = bk_ M T m i := fun i => by
    unfold bk_
    by_cases e : i < m
    · rw [if_pos e, if_pos e, (tt 1).1, el' i e]
    · rw [if_neg e, if_neg e, (tt 5).1]
  have sa : ∀ b, kd_ M b ≠ 0 → Sa_ M M' b := fun b hb => X.2 b hb id
  have nb : ∀ i, Sa_ M M' (bk_ M T m i) ∧ Sa_ M M' (rf_ M (bk_ M T m i) 0) ∧ Sa_ M M' (rf_ M (bk_ M T m i) 1) ∧ ∀ z, z < 8 → Sa_ M M' (rf_ M (rf_ M (bk_ M T m i) 1) z) := fun i => by
    obtain ⟨b0, b1, bz⟩ := hS.bo i
    exact ⟨sa _ (by rw [hS.bk i]; decide), sa _ (by rw [b0.1]; decide), sa _ (by rw [b1.1]; decide), fun z hz => sa _ (by rw [(bz z hz).1]; decide)⟩
  have eal : ∀ r, al_ M' T r = al_ M T r := fun r => ak_al X2 hS r
  have ehm : ∀ r, hm_ M' T r = hm_ M T r := fun r => by
    unfold hm_
    rw [(tt 3).1]
    exact X.it (by rw [t.2.2.2.1.1]; decide) id r
  refine ⟨⟨hs, by rw [X.kd (by rw [hS.kT]; decide)]; exact hS.kT, ak_lc X2 hS hw, hS.nc8, by rw [(tt 1).1]; exact lf', by rw [(tt 5).1, X.kd (by rw [hS.kb]; decide)]; exact hS.kb, fun i hi => by rw [(tt 1).1, (tt 5).1, el' i hi]; exact hS.2.2.2.2.2.2 i hi⟩, hH.sa (fun i _ => bk' i) (fun i _ => ⟨((nb i).1 2).2.1, ((nb i).1 0).1, fun j _ => ((nb i).2.1 j).2.1⟩) ehm (fun r _ z => by rw [eal]; exact z), fun i hi hz => ?_, hN.ak X2 hS, hC.ak X2 hS⟩
  obtain ⟨s1, s2, s3, s4⟩ := nb i
  rw [bk' i]
  exact ⟨(hZ i hi hz).1, FZ_.ak X2 hS s1 (fun j _ => (s2 j).2.1) s3 s4 (hZ i hi hz).2⟩
theorem cd_gw0 (hs : SH_ ow M) (hQ : kd_ M Q = 6) (X : Gw_ (fun _ => False) M M') (hg : g < 4) (hk : k < 4) : gr_ M' Q g = gr_ M Q g ∧ cd_ M' Q g k = cd_ M Q g k := by
  have q := hs.qry hQ
  have kg := gr_k hs hQ hg
  have gg := hs.grp kg
  have e1 : gr_ M' Q g = gr_ M Q g := by
    unfold gr_
    rw [X.rf (a := Q) (by rw [hQ]; decide) id, X.rf (a := rf_ M Q 0) (by rw [q.1.1]; decide) id]
  refine ⟨e1, ?_⟩
  unfold cd_
  rw [e1, X.rf (a := gr_ M Q g) (by rw [kg]; decide) id, X.rf (a := rf_ M (gr_ M Q g) 0) (by rw [gg.1.1]; decide) id]
theorem QI_.gw0 (h : QI_ M Q nc nq cq) (hs : SH_ ow M) (hQ : kd_ M Q = 6) (X : Gw_ (fun _ => False) M M') : QI_ M' Q nc nq cq := by
  obtain ⟨h1, h2, h3, h4⟩ := h
  refine ⟨h1, h2, by rw [X.it (by rw [hQ]; decide) id]; exact h3, fun g hg => ?_⟩
  obtain ⟨g1, g2, g3⟩ := h4 g hg
  have kg := gr_k hs hQ (show g < 4 by omega)
  refine ⟨g1, ?_, fun k hk => ?_⟩
  · rw [(cd_gw0 hs hQ X (show g < 4 by omega) (show 0 < 4 by decide)).1, X.it (by rw [kg]; decide) id]
    exact g2
  · have kc := cd_k hs hQ (show g < 4 by omega) (show k < 4 by omega)
    rw [(cd_gw0 hs hQ X (show g < 4 by omega) (show k < 4 by omega)).2, X.it (by rw [kc]; decide) id]
    exact g3 k hk
theorem FR_gw0 (h : TI_ ow M T nc m R sz kk Z) (hq : QI_ M Q nc nq cq) (hQ : kd_ M Q = 6) (X : Gw_ (fun _ => False) M M') : FR_ M' T Q m nq kk cq = FR_ M T Q m nq kk cq := by
  have hS := h.1
  have hs := hS.sh
  have t := hS.t
  have n8 := hS.nc8
  have X2 : Gw_ (AK_ ow M T) M M' := X.mono (fun _ _ z => z.elim)
  have tt := fun k => ak_T X2 hS k
  have bk' : ∀ i, bk_ M' T m i = bk_ M T m i := fun i => by
    unfold bk_
    by_cases e : i < m
    · rw [if_pos e, if_pos e, (tt 1).1, X.el hS.lf id id e]
    · rw [if_neg e, if_neg e, (tt 5).1]
  have erl : (fun i => rl_ M' (bk_ M' T m i) (kk i)) = (fun i => rl_ M (bk_ M T m i) (kk i)) := funext fun i => by
    unfold rl_
    rw [bk' i, X.rf (by rw [hS.bk i]; decide) id]
    exact sg_congr (fun j _ _ => X.it (by rw [(hS.bo i).1.1]; decide) id j)
  have ea : alB_ M' T = alB_ M T := by
    unfold alB_
    have : it_ M' (rf_ M' T 2) = it_ M (rf_ M T 2) := funext fun j => by
      rw [(tt 2).1]
      exact X.it (by rw [t.2.2.1.1]; decide) id j
    rw [this]
  unfold FR_
  rw [erl]
  congr 2
  unfold FP_
  refine pr_congr (fun x => by rw [ea]) (fun g k hg hk => ?_)
  obtain ⟨c1, c, hc, ec⟩ := hq.cd hs hQ hg hk
  have hg4 : g < 4 := by have := hq.2.1; omega
  have hk4 : k < 4 := by have := (hq.2.2.2 g hg).1; omega
  rw [(cd_gw0 hs hQ X hg4 hk4).2]
  have n0 : kd_ M (cd_ M Q g k) ≠ 0 := by rw [c1]; decide
  have cc := (ak_cc X2 hS hc)
  funext x
  unfold me_ meC_
  rw [X.it n0 id, X.it n0 id, X.it n0 id, ec, ix_nI (by omega), ak_cl X2 hS hc, (cc.1 0).1, (cc.1 1).1, cc.2.1, cc.2.2]
theorem LI_.gw0 {L : List Int32} (h : LI_ ow M F nc m R sz nq kk cq L) (X : Gw_ (fun _ => False) M M') (hw : ∀ b, kd_ M b ≠ 0 → ow' b = ow b) (hs : SH_ ow' M') : LI_ ow' M' F nc m R sz nq kk cq L := by
  obtain ⟨h1, h2, h3, h4, h5, h6⟩ := h
  have hs0 := h2.1.sh
  have f := hs0.cfr h1
  have q := hs0.res f.2.2.2.1
  have nF : kd_ M F ≠ 0 := by rw [h1]; decide
  have e : ∀ k, rf_ M' F k = rf_ M F k := fun k => X.rf nF id k
  have eR : it_ M' (rf_ M (rf_ M F 3) 0) = it_ M (rf_ M (rf_ M F 3) 0) := funext fun j => X.it (by rw [q.1.1]; decide) id j
  unfold LI_
  rw [e, e, e]
  refine ⟨by rw [X.kd nF]; exact h1, h2.gw0 X hw hs, h3.gw0 hs0 f.2.1.1 X, ?_, h5, h6⟩
  unfold RS_ at h4 ⊢
  rw [X.it (by rw [f.2.2.2.1]; decide) id, X.rf (by rw [f.2.2.2.1]; decide) id, eR]
  exact h4
end GN
