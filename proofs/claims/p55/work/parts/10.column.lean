/-! walks by program: 10.column -/
def rmX1_init : Room := { frames := 1, cells := 2, slots := 1200, locals := 12 }
theorem hy_X1_init : yX1_init.cls ≠ "java/lang/invoke/MethodHandle" ∧ yX1_init.cls ≠ "java/lang/invoke/VarHandle" ∧ (parseMethodDescriptor yX1_init.desc).map (fun d => d.parameters.length) = some 0 := by decide +kernel
def wp_X1_init (a0 : Nat) (M : Mm) (K : Mm → Prop) : Prop := kd_ M a0 = 3 ∧ ((∀ q1, q1 ≠ 0 → kd_ M q1 = 0 → ∀ M4, M4 = nw_ M q1 20 (ix_ (600 : Int32)) → (∀ M8, M8 = sR_ M4 a0 0 q1 → ((∀ q9, q9 ≠ 0 → kd_ M8 q9 = 0 → ∀ M12, M12 = nw_ M8 q9 21 (ix_ (600 : Int32)) → (∀ M16, M16 = sR_ M12 a0 1 q9 → K M16))))))
set_option maxHeartbeats 4000000 in
set_option maxRecDepth 100000 in
theorem mt_X1_init {l : Launch} {D : Dd_} {M : Mm} {a0 : Nat} {K : Mm → Prop} (hw : wp_X1_init a0 M K) (sz : Nat) : Met l yX1_init (Cond.code yX1_init cX1_init 1 none :: tbG_) rmX1_init (cPc_ D M sz [.ref a0]) (va_Qv (fun M' => K M') (cB_ D M sz) (Aw_ M sz)) 2 1200 (Aw_ M sz) := by
  refine ofV (by decide) (Nat.le_of_ble_eq_true rfl) ?_
  intro p e s m below meth c g hr hin hsz
  subst hsz
  have hin := hin rfl
  obtain ⟨hp0, hw⟩ := hw
  refine r_aload_n g dX1_init_0 rfl 0 rfl ?_
  refine r_oinit g tw_435 tw_33 tw_34 dX1_init_1 (Nat.le_of_ble_eq_true rfl) (Nat.le_of_ble_eq_true rfl) ?_
  refine r_aload_n g dX1_init_4 rfl 0 rfl ?_
  refine r_sipush (v := 600) g dX1_init_5 (by decide) ?_
  refine r_newI g tw_81 (by decide) (Nat.le_of_ble_eq_true rfl) (Nat.le_of_ble_eq_true rfl) (Nat.le_of_ble_eq_true rfl) dX1_init_8 (fun q1 h2 hq3 => ?_)
  have hw := hw q1 h2 hq3 _ rfl
  have hk5 := kd_nw_ (c := 20) (n := ix_ (600 : Int32)) hq3 hp0 (by decide)
  have hT6 := Nk_.tr (Nk_.rf _) (Nk_nw_ (c := 20) (n := ix_ (600 : Int32)) hq3)
  have hk7 := kd_nq_ M q1 20 (ix_ (600 : Int32))
  refine r_ptFx (C := RX1) (T := TX1) (N := 5) g (ci := 2) rfl tc_X1 tyX1 tyX1_ok nmX1 hk5 0 (by decide) tw_436 (fun _ h => h) rfl hin rfl rfl (k_ne hk7 (by decide)) rfl rfl dX1_init_10 ?_
  have hw := hw _ rfl
  refine r_aload_n g dX1_init_13 rfl 0 rfl ?_
  refine r_sipush (v := 600) g dX1_init_14 (by decide) ?_
  refine r_newZ g tw_80 (by decide) (Nat.le_of_ble_eq_true rfl) (Nat.le_of_ble_eq_true rfl) (Nat.le_of_ble_eq_true rfl) dX1_init_17 (fun q9 h10 hq11 => ?_)
  have hw := hw q9 h10 hq11 _ rfl
  have hk13 := kd_nw_ (c := 21) (n := ix_ (600 : Int32)) hq11 hk5 (by decide)
  have hT14 := Nk_.tr hT6 (Nk_nw_ (c := 21) (n := ix_ (600 : Int32)) hq11)
  have hk15 := kd_nq_ (sR_ (nw_ M q1 20 (ix_ (600 : Int32))) a0 0 q1) q9 21 (ix_ (600 : Int32))
  refine r_ptFx (C := RX1) (T := TX1) (N := 5) g (ci := 2) rfl tc_X1 tyX1 tyX1_ok nmX1 hk13 1 (by decide) tw_442 (fun _ h => h) rfl hin rfl rfl (k_ne hk15 (by decide)) rfl rfl dX1_init_19 ?_
  have hw := hw _ rfl
  exact r_vret g hr (Nat.le_of_ble_eq_true rfl) (Nat.le_of_ble_eq_true rfl) rfl dX1_init_22 hw
def rmX1_giveNext : Room := { frames := 0, cells := 0, slots := 0, locals := 0 }
theorem hy_X1_giveNext : yX1_giveNext.cls ≠ "java/lang/invoke/MethodHandle" ∧ yX1_giveNext.cls ≠ "java/lang/invoke/VarHandle" ∧ (parseMethodDescriptor yX1_giveNext.desc).map (fun d => d.parameters.length) = some 1 := by decide +kernel
def wp_X1_giveNext (a0 : Nat) (x1 : Int32) (M : Mm) (K : Mm → Prop) : Prop := kd_ M a0 = 3 ∧ (∀ M1, M1 = sI_ M a0 4 x1 → (∀ M2, M2 = sI_ M1 a0 3 (1 : Int32) → K M2))
set_option maxHeartbeats 4000000 in
set_option maxRecDepth 100000 in
theorem mt_X1_giveNext {l : Launch} {D : Dd_} {M : Mm} {a0 : Nat} {x1 : Int32} {K : Mm → Prop} (hw : wp_X1_giveNext a0 x1 M K) (sz : Nat) : Met l yX1_giveNext (Cond.code yX1_giveNext cX1_giveNext 2 none :: tbG_) rmX1_giveNext (cPc_ D M sz [.ref a0, .int x1]) (va_Qv (fun M' => K M') (cB_ D M sz) (Aw_ M sz)) 0 0 (Aw_ M sz) := by
  refine ofV (by decide) (Nat.le_of_ble_eq_true rfl) ?_
  intro p e s m below meth c g hr hin hsz
  subst hsz
  obtain ⟨hp0, hw⟩ := hw
  refine r_aload_n g dX1_giveNext_0 rfl 0 rfl ?_
  refine r_iload_n g dX1_giveNext_1 rfl 1 rfl ?_
  refine r_ptI (C := RX1) (T := TX1) (N := 5) g (ci := 2) rfl tc_X1 tyX1 tyX1_ok nmX1 hp0 4 (by decide) tw_453 (fun _ h => h) rfl rfl rfl rfl dX1_giveNext_2 ?_
  have hw := hw _ rfl
  refine r_aload_n g dX1_giveNext_5 rfl 0 rfl ?_
  refine r_iconst (v := 1) g dX1_giveNext_6 (by decide) ?_
  refine r_ptZ (C := RX1) (T := TX1) (N := 5) g (ci := 2) rfl tc_X1 tyX1 tyX1_ok nmX1 hp0 3 (by decide) tw_451 (fun _ h => h) rfl rfl (Or.inr rfl) (bz_n (Or.inr rfl)) (bz_f (Or.inr rfl)) dX1_giveNext_7 ?_
  have hw := hw _ rfl
  exact r_vret g hr (Nat.le_of_ble_eq_true rfl) (Nat.le_of_ble_eq_true rfl) rfl dX1_giveNext_10 hw
def rmX1_takeGiven : Room := { frames := 0, cells := 0, slots := 0, locals := 0 }
theorem hy_X1_takeGiven : yX1_takeGiven.cls ≠ "java/lang/invoke/MethodHandle" ∧ yX1_takeGiven.cls ≠ "java/lang/invoke/VarHandle" ∧ (parseMethodDescriptor yX1_takeGiven.desc).map (fun d => d.parameters.length) = some 1 := by decide +kernel
def wp_X1_takeGiven (a0 : Nat) (x1 : Int32) (M : Mm) (K : Mm → Prop) : Prop := kd_ M a0 = 3 ∧ (kd_ M (rf_ M a0 0) = 20 ∧ (bz_ (it_ M a0 3) → (((it_ M a0 3) = 0 → (vp_in x1 (ln_ M (rf_ M a0 0)) ∧ (∀ M5, M5 = sI_ M (rf_ M a0 0) (ix_ x1) (0 : Int32) → (kd_ M (rf_ M a0 1) = 21 ∧ (bz_ (it_ M5 a0 3) → (((it_ M5 a0 3) = 0 → (vp_in x1 (ln_ M (rf_ M a0 1)) ∧ (∀ M10, M10 = sI_ M5 (rf_ M a0 1) (ix_ x1) (1 : Int32) → (∀ M11, M11 = sI_ M10 a0 3 (0 : Int32) → K M11)))) ∧ (¬ (it_ M5 a0 3) = 0 → (vp_in x1 (ln_ M (rf_ M a0 1)) ∧ (∀ M13, M13 = sI_ M5 (rf_ M a0 1) (ix_ x1) (0 : Int32) → (∀ M14, M14 = sI_ M13 a0 3 (0 : Int32) → K M14)))))))))) ∧ (¬ (it_ M a0 3) = 0 → (vp_in x1 (ln_ M (rf_ M a0 0)) ∧ (∀ M16, M16 = sI_ M (rf_ M a0 0) (ix_ x1) (it_ M a0 4) → (kd_ M (rf_ M a0 1) = 21 ∧ (bz_ (it_ M16 a0 3) → (((it_ M16 a0 3) = 0 → (vp_in x1 (ln_ M (rf_ M a0 1)) ∧ (∀ M21, M21 = sI_ M16 (rf_ M a0 1) (ix_ x1) (1 : Int32) → (∀ M22, M22 = sI_ M21 a0 3 (0 : Int32) → K M22)))) ∧ (¬ (it_ M16 a0 3) = 0 → (vp_in x1 (ln_ M (rf_ M a0 1)) ∧ (∀ M24, M24 = sI_ M16 (rf_ M a0 1) (ix_ x1) (0 : Int32) → (∀ M25, M25 = sI_ M24 a0 3 (0 : Int32) → K M25)))))))))))))
set_option maxHeartbeats 4000000 in
set_option maxRecDepth 100000 in
theorem mt_X1_takeGiven {l : Launch} {D : Dd_} {M : Mm} {a0 : Nat} {x1 : Int32} {K : Mm → Prop} (hw : wp_X1_takeGiven a0 x1 M K) (sz : Nat) : Met l yX1_takeGiven (Cond.code yX1_takeGiven cX1_takeGiven 2 none :: tbG_) rmX1_takeGiven (cPc_ D M sz [.ref a0, .int x1]) (va_Qv (fun M' => K M') (cB_ D M sz) (Aw_ M sz)) 0 0 (Aw_ M sz) := by
  refine ofV (by decide) (Nat.le_of_ble_eq_true rfl) ?_
  intro p e s m below meth c g hr hin hsz
  subst hsz
  obtain ⟨hp0, hw⟩ := hw
  refine r_aload_n g dX1_takeGiven_0 rfl 0 rfl ?_
  obtain ⟨hk1, hw⟩ := hw
  refine r_gtR (C := RX1) (T := TX1) (N := 5) g (ci := 2) rfl tc_X1 hp0 0 (by decide) tw_436 (fun _ h => h) rfl (k_ne hk1 (by decide)) dX1_takeGiven_1 ?_
  refine r_iload_n g dX1_takeGiven_4 rfl 1 rfl ?_
  refine r_aload_n g dX1_takeGiven_5 rfl 0 rfl ?_
  refine r_gtZ (C := RX1) (T := TX1) (N := 5) g (ci := 2) rfl tc_X1 hp0 3 (by decide) tw_451 (fun _ h => h) rfl dX1_takeGiven_6 (fun hb2 => ?_)
  have hw := hw hb2
  refine r_if_eq (tgt := 19) g dX1_takeGiven_9 (by decide) (fun hc3 => ?_) (fun hc3 => ?_)
  · have hw := hw.1 hc3
    refine r_iconst (v := 0) g dX1_takeGiven_19 (by decide) ?_
    obtain ⟨hi4, hw⟩ := hw
    refine r_iast g hk1 hi4 dX1_takeGiven_20 ?_
    have hw := hw _ rfl
    refine r_aload_n g dX1_takeGiven_21 rfl 0 rfl ?_
    obtain ⟨hk6, hw⟩ := hw
    refine r_gtR (C := RX1) (T := TX1) (N := 5) g (ci := 2) rfl tc_X1 hp0 1 (by decide) tw_442 (fun _ h => h) rfl (k_ne hk6 (by decide)) dX1_takeGiven_22 ?_
    refine r_iload_n g dX1_takeGiven_25 rfl 1 rfl ?_
    refine r_aload_n g dX1_takeGiven_26 rfl 0 rfl ?_
    refine r_gtZ (C := RX1) (T := TX1) (N := 5) g (ci := 2) rfl tc_X1 hp0 3 (by decide) tw_451 (fun _ h => h) rfl dX1_takeGiven_27 (fun hb7 => ?_)
    have hw := hw hb7
    refine r_if_ne (tgt := 37) g dX1_takeGiven_30 (by decide) (fun hc8 => ?_) (fun hc8 => ?_)
    · have hw := hw.2 hc8
      refine r_iconst (v := 0) g dX1_takeGiven_37 (by decide) ?_
      obtain ⟨hi12, hw⟩ := hw
      refine r_zast g hk6 hi12 (Or.inl rfl) dX1_takeGiven_38 ?_
      have hw := hw _ rfl
      refine r_aload_n g dX1_takeGiven_39 rfl 0 rfl ?_
      refine r_iconst (v := 0) g dX1_takeGiven_40 (by decide) ?_
      refine r_ptZ (C := RX1) (T := TX1) (N := 5) g (ci := 2) rfl tc_X1 tyX1 tyX1_ok nmX1 hp0 3 (by decide) tw_451 (fun _ h => h) rfl rfl (Or.inl rfl) (bz_n (Or.inl rfl)) (bz_f (Or.inl rfl)) dX1_takeGiven_41 ?_
      have hw := hw _ rfl
      exact r_vret g hr (Nat.le_of_ble_eq_true rfl) (Nat.le_of_ble_eq_true rfl) rfl dX1_takeGiven_44 hw
    · have hw := hw.1 hc8
      refine r_iconst (v := 1) g dX1_takeGiven_33 (by decide) ?_
      refine r_goto (tgt := 38) g dX1_takeGiven_34 (by decide) ?_
      obtain ⟨hi9, hw⟩ := hw
      refine r_zast g hk6 hi9 (Or.inr rfl) dX1_takeGiven_38 ?_
      have hw := hw _ rfl
      refine r_aload_n g dX1_takeGiven_39 rfl 0 rfl ?_
      refine r_iconst (v := 0) g dX1_takeGiven_40 (by decide) ?_
      refine r_ptZ (C := RX1) (T := TX1) (N := 5) g (ci := 2) rfl tc_X1 tyX1 tyX1_ok nmX1 hp0 3 (by decide) tw_451 (fun _ h => h) rfl rfl (Or.inl rfl) (bz_n (Or.inl rfl)) (bz_f (Or.inl rfl)) dX1_takeGiven_41 ?_
      have hw := hw _ rfl
      exact r_vret g hr (Nat.le_of_ble_eq_true rfl) (Nat.le_of_ble_eq_true rfl) rfl dX1_takeGiven_44 hw
  · have hw := hw.2 hc3
    refine r_aload_n g dX1_takeGiven_12 rfl 0 rfl ?_
    refine r_gt (C := RX1) (T := TX1) (N := 5) g (ci := 2) rfl tc_X1 hp0 4 (by decide) tw_453 (fun _ h => h) rfl dX1_takeGiven_13 ?_
    refine r_goto (tgt := 20) g dX1_takeGiven_16 (by decide) ?_
    obtain ⟨hi15, hw⟩ := hw
    refine r_iast g hk1 hi15 dX1_takeGiven_20 ?_
    have hw := hw _ rfl
    refine r_aload_n g dX1_takeGiven_21 rfl 0 rfl ?_
    obtain ⟨hk17, hw⟩ := hw
    refine r_gtR (C := RX1) (T := TX1) (N := 5) g (ci := 2) rfl tc_X1 hp0 1 (by decide) tw_442 (fun _ h => h) rfl (k_ne hk17 (by decide)) dX1_takeGiven_22 ?_
    refine r_iload_n g dX1_takeGiven_25 rfl 1 rfl ?_
    refine r_aload_n g dX1_takeGiven_26 rfl 0 rfl ?_
    refine r_gtZ (C := RX1) (T := TX1) (N := 5) g (ci := 2) rfl tc_X1 hp0 3 (by decide) tw_451 (fun _ h => h) rfl dX1_takeGiven_27 (fun hb18 => ?_)
    have hw := hw hb18
    refine r_if_ne (tgt := 37) g dX1_takeGiven_30 (by decide) (fun hc19 => ?_) (fun hc19 => ?_)
    · have hw := hw.2 hc19
      refine r_iconst (v := 0) g dX1_takeGiven_37 (by decide) ?_
      obtain ⟨hi23, hw⟩ := hw
      refine r_zast g hk17 hi23 (Or.inl rfl) dX1_takeGiven_38 ?_
      have hw := hw _ rfl
      refine r_aload_n g dX1_takeGiven_39 rfl 0 rfl ?_
      refine r_iconst (v := 0) g dX1_takeGiven_40 (by decide) ?_
      refine r_ptZ (C := RX1) (T := TX1) (N := 5) g (ci := 2) rfl tc_X1 tyX1 tyX1_ok nmX1 hp0 3 (by decide) tw_451 (fun _ h => h) rfl rfl (Or.inl rfl) (bz_n (Or.inl rfl)) (bz_f (Or.inl rfl)) dX1_takeGiven_41 ?_
      have hw := hw _ rfl
      exact r_vret g hr (Nat.le_of_ble_eq_true rfl) (Nat.le_of_ble_eq_true rfl) rfl dX1_takeGiven_44 hw
    · have hw := hw.1 hc19
      refine r_iconst (v := 1) g dX1_takeGiven_33 (by decide) ?_
      refine r_goto (tgt := 38) g dX1_takeGiven_34 (by decide) ?_
      obtain ⟨hi20, hw⟩ := hw
      refine r_zast g hk17 hi20 (Or.inr rfl) dX1_takeGiven_38 ?_
      have hw := hw _ rfl
      refine r_aload_n g dX1_takeGiven_39 rfl 0 rfl ?_
      refine r_iconst (v := 0) g dX1_takeGiven_40 (by decide) ?_
      refine r_ptZ (C := RX1) (T := TX1) (N := 5) g (ci := 2) rfl tc_X1 tyX1 tyX1_ok nmX1 hp0 3 (by decide) tw_451 (fun _ h => h) rfl rfl (Or.inl rfl) (bz_n (Or.inl rfl)) (bz_f (Or.inl rfl)) dX1_takeGiven_41 ?_
      have hw := hw _ rfl
      exact r_vret g hr (Nat.le_of_ble_eq_true rfl) (Nat.le_of_ble_eq_true rfl) rfl dX1_takeGiven_44 hw
def rmX1_put : Room := { frames := 0, cells := 0, slots := 0, locals := 0 }
theorem hy_X1_put : yX1_put.cls ≠ "java/lang/invoke/MethodHandle" ∧ yX1_put.cls ≠ "java/lang/invoke/VarHandle" ∧ (parseMethodDescriptor yX1_put.desc).map (fun d => d.parameters.length) = some 2 := by decide +kernel
def wp_X1_put (a0 : Nat) (x1 : Int32) (x2 : Int32) (M : Mm) (K : Mm → Prop) : Prop := kd_ M a0 = 3 ∧ (kd_ M (rf_ M a0 0) = 20 ∧ (vp_in x1 (ln_ M (rf_ M a0 0)) ∧ (∀ M3, M3 = sI_ M (rf_ M a0 0) (ix_ x1) x2 → (kd_ M (rf_ M a0 1) = 21 ∧ (vp_in x1 (ln_ M (rf_ M a0 1)) ∧ (∀ M6, M6 = sI_ M3 (rf_ M a0 1) (ix_ x1) (0 : Int32) → K M6))))))
set_option maxHeartbeats 4000000 in
set_option maxRecDepth 100000 in
theorem mt_X1_put {l : Launch} {D : Dd_} {M : Mm} {a0 : Nat} {x1 : Int32} {x2 : Int32} {K : Mm → Prop} (hw : wp_X1_put a0 x1 x2 M K) (sz : Nat) : Met l yX1_put (Cond.code yX1_put cX1_put 3 none :: tbG_) rmX1_put (cPc_ D M sz [.ref a0, .int x1, .int x2]) (va_Qv (fun M' => K M') (cB_ D M sz) (Aw_ M sz)) 0 0 (Aw_ M sz) := by
  refine ofV (by decide) (Nat.le_of_ble_eq_true rfl) ?_
  intro p e s m below meth c g hr hin hsz
  subst hsz
  obtain ⟨hp0, hw⟩ := hw
  refine r_aload_n g dX1_put_0 rfl 0 rfl ?_
  obtain ⟨hk1, hw⟩ := hw
  refine r_gtR (C := RX1) (T := TX1) (N := 5) g (ci := 2) rfl tc_X1 hp0 0 (by decide) tw_436 (fun _ h => h) rfl (k_ne hk1 (by decide)) dX1_put_1 ?_
  refine r_iload_n g dX1_put_4 rfl 1 rfl ?_
  refine r_iload_n g dX1_put_5 rfl 2 rfl ?_
  obtain ⟨hi2, hw⟩ := hw
  refine r_iast g hk1 hi2 dX1_put_6 ?_
  have hw := hw _ rfl
  refine r_aload_n g dX1_put_7 rfl 0 rfl ?_
  obtain ⟨hk4, hw⟩ := hw
  refine r_gtR (C := RX1) (T := TX1) (N := 5) g (ci := 2) rfl tc_X1 hp0 1 (by decide) tw_442 (fun _ h => h) rfl (k_ne hk4 (by decide)) dX1_put_8 ?_
  refine r_iload_n g dX1_put_11 rfl 1 rfl ?_
  refine r_iconst (v := 0) g dX1_put_12 (by decide) ?_
  obtain ⟨hi5, hw⟩ := hw
  refine r_zast g hk4 hi5 (Or.inl rfl) dX1_put_13 ?_
  have hw := hw _ rfl
  exact r_vret g hr (Nat.le_of_ble_eq_true rfl) (Nat.le_of_ble_eq_true rfl) rfl dX1_put_14 hw
def rmX1_copy : Room := { frames := 0, cells := 0, slots := 0, locals := 0 }
theorem hy_X1_copy : yX1_copy.cls ≠ "java/lang/invoke/MethodHandle" ∧ yX1_copy.cls ≠ "java/lang/invoke/VarHandle" ∧ (parseMethodDescriptor yX1_copy.desc).map (fun d => d.parameters.length) = some 2 := by decide +kernel
def wp_X1_copy (a0 : Nat) (x1 : Int32) (x2 : Int32) (M : Mm) (K : Mm → Prop) : Prop := kd_ M a0 = 3 ∧ (kd_ M (rf_ M a0 0) = 20 ∧ (vp_in x1 (ln_ M (rf_ M a0 0)) ∧ (vp_in x2 (ln_ M (rf_ M a0 0)) ∧ (∀ M4, M4 = sI_ M (rf_ M a0 0) (ix_ x2) (it_ M (rf_ M a0 0) (ix_ x1)) → (kd_ M (rf_ M a0 1) = 21 ∧ (vp_in x1 (ln_ M (rf_ M a0 1)) ∧ (bz_ (it_ M4 (rf_ M a0 1) (ix_ x1)) → (vp_in x2 (ln_ M (rf_ M a0 1)) ∧ (∀ M9, M9 = sI_ M4 (rf_ M a0 1) (ix_ x2) (it_ M4 (rf_ M a0 1) (ix_ x1)) → K M9)))))))))
set_option maxHeartbeats 4000000 in
set_option maxRecDepth 100000 in
theorem mt_X1_copy {l : Launch} {D : Dd_} {M : Mm} {a0 : Nat} {x1 : Int32} {x2 : Int32} {K : Mm → Prop} (hw : wp_X1_copy a0 x1 x2 M K) (sz : Nat) : Met l yX1_copy (Cond.code yX1_copy cX1_copy 3 none :: tbG_) rmX1_copy (cPc_ D M sz [.ref a0, .int x1, .int x2]) (va_Qv (fun M' => K M') (cB_ D M sz) (Aw_ M sz)) 0 0 (Aw_ M sz) := by
  refine ofV (by decide) (Nat.le_of_ble_eq_true rfl) ?_
  intro p e s m below meth c g hr hin hsz
  subst hsz
  obtain ⟨hp0, hw⟩ := hw
  refine r_aload_n g dX1_copy_0 rfl 0 rfl ?_
  obtain ⟨hk1, hw⟩ := hw
  refine r_gtR (C := RX1) (T := TX1) (N := 5) g (ci := 2) rfl tc_X1 hp0 0 (by decide) tw_436 (fun _ h => h) rfl (k_ne hk1 (by decide)) dX1_copy_1 ?_
  refine r_iload_n g dX1_copy_4 rfl 2 rfl ?_
  refine r_aload_n g dX1_copy_5 rfl 0 rfl ?_
  refine r_gtR (C := RX1) (T := TX1) (N := 5) g (ci := 2) rfl tc_X1 hp0 0 (by decide) tw_436 (fun _ h => h) rfl (k_ne hk1 (by decide)) dX1_copy_6 ?_
  refine r_iload_n g dX1_copy_9 rfl 1 rfl ?_
  obtain ⟨hi2, hw⟩ := hw
  refine r_iald g (Or.inl hk1) hi2 dX1_copy_10 ?_
  obtain ⟨hi3, hw⟩ := hw
  refine r_iast g hk1 hi3 dX1_copy_11 ?_
  have hw := hw _ rfl
  refine r_aload_n g dX1_copy_12 rfl 0 rfl ?_
  obtain ⟨hk5, hw⟩ := hw
  refine r_gtR (C := RX1) (T := TX1) (N := 5) g (ci := 2) rfl tc_X1 hp0 1 (by decide) tw_442 (fun _ h => h) rfl (k_ne hk5 (by decide)) dX1_copy_13 ?_
  refine r_iload_n g dX1_copy_16 rfl 2 rfl ?_
  refine r_aload_n g dX1_copy_17 rfl 0 rfl ?_
  refine r_gtR (C := RX1) (T := TX1) (N := 5) g (ci := 2) rfl tc_X1 hp0 1 (by decide) tw_442 (fun _ h => h) rfl (k_ne hk5 (by decide)) dX1_copy_18 ?_
  refine r_iload_n g dX1_copy_21 rfl 1 rfl ?_
  obtain ⟨hi6, hw⟩ := hw
  refine r_zald g hk5 hi6 dX1_copy_22 (fun hb7 => ?_)
  have hw := hw hb7
  obtain ⟨hi8, hw⟩ := hw
  refine r_zast g hk5 hi8 hb7 dX1_copy_23 ?_
  have hw := hw _ rfl
  exact r_vret g hr (Nat.le_of_ble_eq_true rfl) (Nat.le_of_ble_eq_true rfl) rfl dX1_copy_24 hw
def rmX1_isSame : Room := { frames := 0, cells := 0, slots := 0, locals := 0 }
theorem hy_X1_isSame : yX1_isSame.cls ≠ "java/lang/invoke/MethodHandle" ∧ yX1_isSame.cls ≠ "java/lang/invoke/VarHandle" ∧ (parseMethodDescriptor yX1_isSame.desc).map (fun d => d.parameters.length) = some 2 := by decide +kernel
def wp_X1_isSame (a0 : Nat) (x1 : Int32) (x2 : Int32) (M : Mm) (K : Mm → Int32 → Prop) : Prop := kd_ M a0 = 3 ∧ (kd_ M (rf_ M a0 1) = 21 ∧ (vp_in x1 (ln_ M (rf_ M a0 1)) ∧ (bz_ (it_ M (rf_ M a0 1) (ix_ x1)) → (vp_in x2 (ln_ M (rf_ M a0 1)) ∧ (bz_ (it_ M (rf_ M a0 1) (ix_ x2)) → (((it_ M (rf_ M a0 1) (ix_ x1)) = (it_ M (rf_ M a0 1) (ix_ x2)) → (kd_ M (rf_ M a0 0) = 20 ∧ (vp_in x1 (ln_ M (rf_ M a0 0)) ∧ (vp_in x2 (ln_ M (rf_ M a0 0)) ∧ (((it_ M (rf_ M a0 0) (ix_ x1)) = (it_ M (rf_ M a0 0) (ix_ x2)) → (K M (1 : Int32))) ∧ (¬ (it_ M (rf_ M a0 0) (ix_ x1)) = (it_ M (rf_ M a0 0) (ix_ x2)) → (K M (0 : Int32)))))))) ∧ (¬ (it_ M (rf_ M a0 1) (ix_ x1)) = (it_ M (rf_ M a0 1) (ix_ x2)) → (K M (0 : Int32)))))))))
set_option maxHeartbeats 4000000 in
set_option maxRecDepth 100000 in
theorem mt_X1_isSame {l : Launch} {D : Dd_} {M : Mm} {a0 : Nat} {x1 : Int32} {x2 : Int32} {K : Mm → Int32 → Prop} (hw : wp_X1_isSame a0 x1 x2 M K) (sz : Nat) : Met l yX1_isSame (Cond.code yX1_isSame cX1_isSame 3 (some .boolean) :: tbG_) rmX1_isSame (cPc_ D M sz [.ref a0, .int x1, .int x2]) (va_Qi (fun r M' => K M' r ∧ bz_ r) (cB_ D M sz) (Aw_ M sz)) 0 0 (Aw_ M sz) := by
  refine ofV (by decide) (Nat.le_of_ble_eq_true rfl) ?_
  intro p e s m below meth c g hr hin hsz
  subst hsz
  obtain ⟨hp0, hw⟩ := hw
  refine r_aload_n g dX1_isSame_0 rfl 0 rfl ?_
  obtain ⟨hk1, hw⟩ := hw
  refine r_gtR (C := RX1) (T := TX1) (N := 5) g (ci := 2) rfl tc_X1 hp0 1 (by decide) tw_442 (fun _ h => h) rfl (k_ne hk1 (by decide)) dX1_isSame_1 ?_
  refine r_iload_n g dX1_isSame_4 rfl 1 rfl ?_
  obtain ⟨hi2, hw⟩ := hw
  refine r_zald g hk1 hi2 dX1_isSame_5 (fun hb3 => ?_)
  have hw := hw hb3
  refine r_aload_n g dX1_isSame_6 rfl 0 rfl ?_
  refine r_gtR (C := RX1) (T := TX1) (N := 5) g (ci := 2) rfl tc_X1 hp0 1 (by decide) tw_442 (fun _ h => h) rfl (k_ne hk1 (by decide)) dX1_isSame_7 ?_
  refine r_iload_n g dX1_isSame_10 rfl 2 rfl ?_
  obtain ⟨hi4, hw⟩ := hw
  refine r_zald g hk1 hi4 dX1_isSame_11 (fun hb5 => ?_)
  have hw := hw hb5
  refine r_icmp_ne (tgt := 34) g dX1_isSame_12 (by decide) (fun hc6 => ?_) (fun hc6 => ?_)
  · have hw := hw.2 hc6
    refine r_iconst (v := 0) g dX1_isSame_34 (by decide) ?_
    exact r_zret g hr (Nat.le_of_ble_eq_true rfl) (Nat.le_of_ble_eq_true rfl) rfl (Or.inl rfl) dX1_isSame_35 hw
  · have hw := hw.1 hc6
    refine r_aload_n g dX1_isSame_15 rfl 0 rfl ?_
    obtain ⟨hk7, hw⟩ := hw
    refine r_gtR (C := RX1) (T := TX1) (N := 5) g (ci := 2) rfl tc_X1 hp0 0 (by decide) tw_436 (fun _ h => h) rfl (k_ne hk7 (by decide)) dX1_isSame_16 ?_
    refine r_iload_n g dX1_isSame_19 rfl 1 rfl ?_
    obtain ⟨hi8, hw⟩ := hw
    refine r_iald g (Or.inl hk7) hi8 dX1_isSame_20 ?_
    refine r_aload_n g dX1_isSame_21 rfl 0 rfl ?_
    refine r_gtR (C := RX1) (T := TX1) (N := 5) g (ci := 2) rfl tc_X1 hp0 0 (by decide) tw_436 (fun _ h => h) rfl (k_ne hk7 (by decide)) dX1_isSame_22 ?_
    refine r_iload_n g dX1_isSame_25 rfl 2 rfl ?_
    obtain ⟨hi9, hw⟩ := hw
    refine r_iald g (Or.inl hk7) hi9 dX1_isSame_26 ?_
    refine r_icmp_ne (tgt := 34) g dX1_isSame_27 (by decide) (fun hc10 => ?_) (fun hc10 => ?_)
    · have hw := hw.2 hc10
      refine r_iconst (v := 0) g dX1_isSame_34 (by decide) ?_
      exact r_zret g hr (Nat.le_of_ble_eq_true rfl) (Nat.le_of_ble_eq_true rfl) rfl (Or.inl rfl) dX1_isSame_35 hw
    · have hw := hw.1 hc10
      refine r_iconst (v := 1) g dX1_isSame_30 (by decide) ?_
      refine r_goto (tgt := 35) g dX1_isSame_31 (by decide) ?_
      exact r_zret g hr (Nat.le_of_ble_eq_true rfl) (Nat.le_of_ble_eq_true rfl) rfl (Or.inr rfl) dX1_isSame_35 hw
