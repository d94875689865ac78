/-! walks by program: 18.frame -/
def rmX10_init : Room := { frames := 5, cells := 84, slots := 6267, locals := 92 }
theorem hy_X10_init : yX10_init.cls ≠ "java/lang/invoke/MethodHandle" ∧ yX10_init.cls ≠ "java/lang/invoke/VarHandle" ∧ (parseMethodDescriptor yX10_init.desc).map (fun d => d.parameters.length) = some 0 := by decide +kernel
def wp_X10_init (a0 : Nat) (M : Mm) (K : Mm → Prop) : Prop := kd_ M a0 = 12 ∧ (∀ q1, q1 ≠ 0 → kd_ M q1 = 0 → (∀ M4, M4 = nw_ M q1 10 0 → (wp_X8_init q1 M4 (fun M8 => Nk_ M4 M8 → (∀ M14, M14 = sR_ M8 a0 0 q1 → (∀ q15, q15 ≠ 0 → kd_ M8 q15 = 0 → (∀ M18, M18 = nw_ M14 q15 6 0 → (wp_X4_init q15 M18 (fun M22 => Nk_ M18 M22 → (∀ M28, M28 = sR_ M22 a0 1 q15 → (∀ q29, q29 ≠ 0 → kd_ M22 q29 = 0 → (∀ M32, M32 = nw_ M28 q29 8 0 → (wp_X6_init q29 M32 (fun M36 => Nk_ M32 M36 → (∀ M42, M42 = sR_ M36 a0 2 q29 → (∀ q43, q43 ≠ 0 → kd_ M36 q43 = 0 → (∀ M46, M46 = nw_ M42 q43 7 0 → (wp_X5_init q43 M46 (fun M50 => Nk_ M46 M50 → (∀ M56, M56 = sR_ M50 a0 3 q43 → K M56))))))))))))))))))))
set_option maxHeartbeats 4000000 in
set_option maxRecDepth 100000 in
theorem mt_X10_init {l : Launch} {D : Dd_} {M : Mm} {a0 : Nat} {K : Mm → Prop} (hw : wp_X10_init a0 M K) (sz : Nat) : Met l yX10_init (Cond.code yX10_init cX10_init 1 none :: tbG_) rmX10_init (cPc_ D M sz [.ref a0]) (va_Qv (fun M' => K M') (cB_ D M sz) (Aw_ M sz)) 84 6267 (Aw_ M sz) := by
  refine ofV (by decide) (Nat.le_of_ble_eq_true rfl) ?_
  intro p e s m below meth c g hr hin hsz
  subst hsz
  have hin := hin rfl
  obtain ⟨hp0, hw⟩ := hw
  refine r_aload_n g dX10_init_0 rfl 0 rfl ?_
  refine r_oinit g tw_32 tw_33 tw_34 dX10_init_1 (Nat.le_of_ble_eq_true rfl) (Nat.le_of_ble_eq_true rfl) ?_
  refine r_aload_n g dX10_init_4 rfl 0 rfl ?_
  refine r_new (ci := 9) (C := RX8) (T := TX8) (N := 11) g rfl tc_X8 tyX8 tyX8_ok tw_35 tw_36 tw_2 td_X8 (Nat.le_of_ble_eq_true rfl) (Nat.le_of_ble_eq_true rfl) dX10_init_5 (fun q1 h2 hq3 => ?_)
  have hw := hw q1 h2 hq3 _ rfl
  have hk5 := Nk_.k (Nk_nw_ (c := 10) (n := 0) hq3) hp0 (by decide)
  have hT6 := Nk_.tr (Nk_.rf _) (Nk_nw_ (c := 10) (n := 0) hq3)
  have hk7 := kd_nq_ M q1 10 0
  refine r_dup g dX10_init_8 rfl ?_
  refine r_callNv (As := []) g (fun sz => mt_X8_init hw sz) tx_37 tw_39 tw_2 tw_38 rfl hy_X8_init ⟨rfl, rfl⟩ (Nat.le_of_ble_eq_true rfl) (Nat.le_of_ble_eq_true rfl) (Nat.le_of_ble_eq_true rfl) (Nat.le_of_ble_eq_true rfl) (Nat.le_of_ble_eq_true rfl) rfl dX10_init_9 (fun M8 hK9 hN10 => ?_)
  have hw := hK9 hN10
  have hk11 := Nk_.k hN10 hk5 (by decide)
  have hk12 := Nk_.k hN10 hk7 (by decide)
  have hT13 := Nk_.tr hT6 hN10
  refine r_ptFx (C := RX10) (T := TX10) (N := 6) g (ci := 11) rfl tc_X10 tyX10 tyX10_ok nmX10 hk11 0 (by decide) tw_334 (fun _ h => h) rfl hin rfl rfl (k_ne hk12 (by decide)) rfl rfl dX10_init_12 ?_
  have hw := hw _ rfl
  refine r_aload_n g dX10_init_15 rfl 0 rfl ?_
  refine r_new (ci := 5) (C := RX4) (T := TX4) (N := 2) g rfl tc_X4 tyX4 tyX4_ok tw_210 tw_211 tw_9 td_X4 (Nat.le_of_ble_eq_true rfl) (Nat.le_of_ble_eq_true rfl) dX10_init_16 (fun q15 h16 hq17 => ?_)
  have hw := hw q15 h16 hq17 _ rfl
  have hk19 := Nk_.k (Nk_nw_ (c := 6) (n := 0) hq17) hk11 (by decide)
  have hT20 := Nk_.tr hT13 (Nk_nw_ (c := 6) (n := 0) hq17)
  have hk21 := kd_nq_ (sR_ M8 a0 0 q1) q15 6 0
  refine r_dup g dX10_init_19 rfl ?_
  refine r_callIv (As := []) g (fun sz => mt_X4_init hw sz) tw_212 tw_214 tw_9 tw_213 rfl hy_X4_init ⟨rfl, rfl⟩ (Nat.le_of_ble_eq_true rfl) (Nat.le_of_ble_eq_true rfl) (Nat.le_of_ble_eq_true rfl) (Nat.le_of_ble_eq_true rfl) (Nat.le_of_ble_eq_true rfl) rfl dX10_init_20 (fun M22 hK23 hN24 => ?_)
  have hw := hK23 hN24
  have hk25 := Nk_.k hN24 hk19 (by decide)
  have hk26 := Nk_.k hN24 hk21 (by decide)
  have hT27 := Nk_.tr hT20 hN24
  refine r_ptFx (C := RX10) (T := TX10) (N := 6) g (ci := 11) rfl tc_X10 tyX10 tyX10_ok nmX10 hk25 1 (by decide) tw_335 (fun _ h => h) rfl hin rfl rfl (k_ne hk26 (by decide)) rfl rfl dX10_init_23 ?_
  have hw := hw _ rfl
  refine r_aload_n g dX10_init_26 rfl 0 rfl ?_
  refine r_new (ci := 7) (C := RX6) (T := TX6) (N := 10) g rfl tc_X6 tyX6 tyX6_ok tw_262 tw_263 tw_12 td_X6 (Nat.le_of_ble_eq_true rfl) (Nat.le_of_ble_eq_true rfl) dX10_init_27 (fun q29 h30 hq31 => ?_)
  have hw := hw q29 h30 hq31 _ rfl
  have hk33 := Nk_.k (Nk_nw_ (c := 8) (n := 0) hq31) hk25 (by decide)
  have hT34 := Nk_.tr hT27 (Nk_nw_ (c := 8) (n := 0) hq31)
  have hk35 := kd_nq_ (sR_ M22 a0 1 q15) q29 8 0
  refine r_dup g dX10_init_30 rfl ?_
  refine r_callNv (As := []) g (fun sz => mt_X6_init hw sz) tx_264 tw_266 tw_12 tw_265 rfl hy_X6_init ⟨rfl, rfl⟩ (Nat.le_of_ble_eq_true rfl) (Nat.le_of_ble_eq_true rfl) (Nat.le_of_ble_eq_true rfl) (Nat.le_of_ble_eq_true rfl) (Nat.le_of_ble_eq_true rfl) rfl dX10_init_31 (fun M36 hK37 hN38 => ?_)
  have hw := hK37 hN38
  have hk39 := Nk_.k hN38 hk33 (by decide)
  have hk40 := Nk_.k hN38 hk35 (by decide)
  have hT41 := Nk_.tr hT34 hN38
  refine r_ptFx (C := RX10) (T := TX10) (N := 6) g (ci := 11) rfl tc_X10 tyX10 tyX10_ok nmX10 hk39 2 (by decide) tw_336 (fun _ h => h) rfl hin rfl rfl (k_ne hk40 (by decide)) rfl rfl dX10_init_34 ?_
  have hw := hw _ rfl
  refine r_aload_n g dX10_init_37 rfl 0 rfl ?_
  refine r_new (ci := 6) (C := RX5) (T := TX5) (N := 7) g rfl tc_X5 tyX5 tyX5_ok tw_303 tw_304 tw_13 td_X5 (Nat.le_of_ble_eq_true rfl) (Nat.le_of_ble_eq_true rfl) dX10_init_38 (fun q43 h44 hq45 => ?_)
  have hw := hw q43 h44 hq45 _ rfl
  have hk47 := Nk_.k (Nk_nw_ (c := 7) (n := 0) hq45) hk39 (by decide)
  have hT48 := Nk_.tr hT41 (Nk_nw_ (c := 7) (n := 0) hq45)
  have hk49 := kd_nq_ (sR_ M36 a0 2 q29) q43 7 0
  refine r_dup g dX10_init_41 rfl ?_
  refine r_callNv (As := []) g (fun sz => mt_X5_init hw sz) tx_305 tw_307 tw_13 tw_306 rfl hy_X5_init ⟨rfl, rfl⟩ (Nat.le_of_ble_eq_true rfl) (Nat.le_of_ble_eq_true rfl) (Nat.le_of_ble_eq_true rfl) (Nat.le_of_ble_eq_true rfl) (Nat.le_of_ble_eq_true rfl) rfl dX10_init_42 (fun M50 hK51 hN52 => ?_)
  have hw := hK51 hN52
  have hk53 := Nk_.k hN52 hk47 (by decide)
  have hk54 := Nk_.k hN52 hk49 (by decide)
  have hT55 := Nk_.tr hT48 hN52
  refine r_ptFx (C := RX10) (T := TX10) (N := 6) g (ci := 11) rfl tc_X10 tyX10 tyX10_ok nmX10 hk53 3 (by decide) tw_337 (fun _ h => h) rfl hin rfl rfl (k_ne hk54 (by decide)) rfl rfl dX10_init_45 ?_
  have hw := hw _ rfl
  exact r_vret g hr (Nat.le_of_ble_eq_true rfl) (Nat.le_of_ble_eq_true rfl) rfl dX10_init_48 hw
def rmX10_needColumn : Room := { frames := 1, cells := 0, slots := 0, locals := 20 }
theorem hy_X10_needColumn : yX10_needColumn.cls ≠ "java/lang/invoke/MethodHandle" ∧ yX10_needColumn.cls ≠ "java/lang/invoke/VarHandle" ∧ (parseMethodDescriptor yX10_needColumn.desc).map (fun d => d.parameters.length) = some 1 := by decide +kernel
def wp_X10_needColumn (a0 : Nat) (x1 : Int32) (M : Mm) (K : Mm → Prop) : Prop := kd_ M a0 = 12 ∧ ((x1 < 0 → False) ∧ (¬ x1 < 0 → (kd_ M (rf_ M a0 0) = 10 ∧ (kd_ M (rf_ M (rf_ M a0 0) 0) = 1 ∧ (wp_Jx4a65c_size_8abf5 (rf_ M (rf_ M a0 0) 0) M (fun M7 r8 => Nk_ M M7 → ((x1 < r8 → K M7) ∧ (¬ x1 < r8 → False))))))))
set_option maxHeartbeats 4000000 in
set_option maxRecDepth 100000 in
theorem mt_X10_needColumn {l : Launch} {D : Dd_} {M : Mm} {a0 : Nat} {x1 : Int32} {K : Mm → Prop} (hw : wp_X10_needColumn a0 x1 M K) (sz : Nat) : Met l yX10_needColumn (Cond.code yX10_needColumn cX10_needColumn 2 none :: tbG_) rmX10_needColumn (cPc_ D M sz [.ref a0, .int x1]) (va_Qv (fun M' => K M') (cB_ D M sz) (Aw_ M sz)) 0 0 (Aw_ M sz) := by
  refine ofV (by decide) (Nat.le_of_ble_eq_true rfl) ?_
  intro p e s m below meth c g hr hin hsz
  subst hsz
  obtain ⟨hp0, hw⟩ := hw
  refine r_iload_n g dX10_needColumn_0 rfl 1 rfl ?_
  refine r_if_lt (tgt := 18) g dX10_needColumn_1 (by decide) (fun hc1 => ?_) (fun hc1 => ?_)
  · have hw := hw.1 hc1
    exact hw.elim
  · have hw := hw.2 hc1
    refine r_iload_n g dX10_needColumn_4 rfl 1 rfl ?_
    refine r_aload_n g dX10_needColumn_5 rfl 0 rfl ?_
    obtain ⟨hk5, hw⟩ := hw
    refine r_gtR (C := RX10) (T := TX10) (N := 6) g (ci := 11) rfl tc_X10 hp0 0 (by decide) tw_334 (fun _ h => h) rfl (k_ne hk5 (by decide)) dX10_needColumn_6 ?_
    obtain ⟨hk6, hw⟩ := hw
    refine r_gtR (C := RX8) (T := TX8) (N := 11) g (ci := 9) rfl tc_X8 hk5 0 (by decide) tw_164 (fun _ h => h) rfl (k_ne hk6 (by decide)) dX10_needColumn_9 ?_
    refine r_callVi (As := []) g (fun sz => mt_Jx4a65c_size_8abf5 hw sz) tw_357 tw_360 tw_5 tw_358 tw_359 (ci := 0) (T := TJx4a65c) (N := 3) rfl hk6 hy_Jx4a65c_size_8abf5 ⟨rfl, rfl⟩ (Nat.le_of_ble_eq_true rfl) (Nat.le_of_ble_eq_true rfl) (Nat.le_of_ble_eq_true rfl) (Nat.le_of_ble_eq_true rfl) (Nat.le_of_ble_eq_true rfl) rfl dX10_needColumn_12 (fun M7 r8 hK9 hN10 => ?_)
    have hw := hK9 hN10
    have hk11 := Nk_.k hN10 hp0 (by decide)
    have hT12 := Nk_.tr (Nk_.rf _) hN10
    refine r_icmp_lt (tgt := 29) g dX10_needColumn_15 (by decide) (fun hc13 => ?_) (fun hc13 => ?_)
    · have hw := hw.1 hc13
      exact r_vret g hr (Nat.le_of_ble_eq_true rfl) (Nat.le_of_ble_eq_true rfl) rfl dX10_needColumn_29 hw
    · have hw := hw.2 hc13
      exact hw.elim
def rmX10_needRow : Room := { frames := 0, cells := 0, slots := 0, locals := 0 }
theorem hy_X10_needRow : yX10_needRow.cls ≠ "java/lang/invoke/MethodHandle" ∧ yX10_needRow.cls ≠ "java/lang/invoke/VarHandle" ∧ (parseMethodDescriptor yX10_needRow.desc).map (fun d => d.parameters.length) = some 1 := by decide +kernel
def wp_X10_needRow (a0 : Nat) (x1 : Int32) (M : Mm) (K : Mm → Prop) : Prop := kd_ M a0 = 12 ∧ ((x1 < 0 → False) ∧ (¬ x1 < 0 → (kd_ M (rf_ M a0 0) = 10 ∧ ((x1 < (it_ M (rf_ M a0 0) 7) → K M) ∧ (¬ x1 < (it_ M (rf_ M a0 0) 7) → False)))))
set_option maxHeartbeats 4000000 in
set_option maxRecDepth 100000 in
theorem mt_X10_needRow {l : Launch} {D : Dd_} {M : Mm} {a0 : Nat} {x1 : Int32} {K : Mm → Prop} (hw : wp_X10_needRow a0 x1 M K) (sz : Nat) : Met l yX10_needRow (Cond.code yX10_needRow cX10_needRow 2 none :: tbG_) rmX10_needRow (cPc_ D M sz [.ref a0, .int x1]) (va_Qv (fun M' => K M') (cB_ D M sz) (Aw_ M sz)) 0 0 (Aw_ M sz) := by
  refine ofV (by decide) (Nat.le_of_ble_eq_true rfl) ?_
  intro p e s m below meth c g hr hin hsz
  subst hsz
  obtain ⟨hp0, hw⟩ := hw
  refine r_iload_n g dX10_needRow_0 rfl 1 rfl ?_
  refine r_if_lt (tgt := 15) g dX10_needRow_1 (by decide) (fun hc1 => ?_) (fun hc1 => ?_)
  · have hw := hw.1 hc1
    exact hw.elim
  · have hw := hw.2 hc1
    refine r_iload_n g dX10_needRow_4 rfl 1 rfl ?_
    refine r_aload_n g dX10_needRow_5 rfl 0 rfl ?_
    obtain ⟨hk5, hw⟩ := hw
    refine r_gtR (C := RX10) (T := TX10) (N := 6) g (ci := 11) rfl tc_X10 hp0 0 (by decide) tw_334 (fun _ h => h) rfl (k_ne hk5 (by decide)) dX10_needRow_6 ?_
    refine r_gt (C := RX8) (T := TX8) (N := 11) g (ci := 9) rfl tc_X8 hk5 7 (by decide) tw_181 (fun _ h => h) rfl dX10_needRow_9 ?_
    refine r_icmp_lt (tgt := 26) g dX10_needRow_12 (by decide) (fun hc6 => ?_) (fun hc6 => ?_)
    · have hw := hw.1 hc6
      exact r_vret g hr (Nat.le_of_ble_eq_true rfl) (Nat.le_of_ble_eq_true rfl) rfl dX10_needRow_26 hw
    · have hw := hw.2 hc6
      exact hw.elim
def rmX10_needFrame : Room := { frames := 1, cells := 0, slots := 0, locals := 20 }
theorem hy_X10_needFrame : yX10_needFrame.cls ≠ "java/lang/invoke/MethodHandle" ∧ yX10_needFrame.cls ≠ "java/lang/invoke/VarHandle" ∧ (parseMethodDescriptor yX10_needFrame.desc).map (fun d => d.parameters.length) = some 1 := by decide +kernel
def wp_X10_needFrame (a0 : Nat) (x1 : Int32) (M : Mm) (K : Mm → Prop) : Prop := kd_ M a0 = 12 ∧ ((x1 < 0 → False) ∧ (¬ x1 < 0 → (kd_ M (rf_ M a0 0) = 10 ∧ (kd_ M (rf_ M (rf_ M a0 0) 1) = 1 ∧ (wp_Jx4a65c_size_8abf5 (rf_ M (rf_ M a0 0) 1) M (fun M7 r8 => Nk_ M M7 → ((x1 < r8 → K M7) ∧ (¬ x1 < r8 → False))))))))
set_option maxHeartbeats 4000000 in
set_option maxRecDepth 100000 in
theorem mt_X10_needFrame {l : Launch} {D : Dd_} {M : Mm} {a0 : Nat} {x1 : Int32} {K : Mm → Prop} (hw : wp_X10_needFrame a0 x1 M K) (sz : Nat) : Met l yX10_needFrame (Cond.code yX10_needFrame cX10_needFrame 2 none :: tbG_) rmX10_needFrame (cPc_ D M sz [.ref a0, .int x1]) (va_Qv (fun M' => K M') (cB_ D M sz) (Aw_ M sz)) 0 0 (Aw_ M sz) := by
  refine ofV (by decide) (Nat.le_of_ble_eq_true rfl) ?_
  intro p e s m below meth c g hr hin hsz
  subst hsz
  obtain ⟨hp0, hw⟩ := hw
  refine r_iload_n g dX10_needFrame_0 rfl 1 rfl ?_
  refine r_if_lt (tgt := 18) g dX10_needFrame_1 (by decide) (fun hc1 => ?_) (fun hc1 => ?_)
  · have hw := hw.1 hc1
    exact hw.elim
  · have hw := hw.2 hc1
    refine r_iload_n g dX10_needFrame_4 rfl 1 rfl ?_
    refine r_aload_n g dX10_needFrame_5 rfl 0 rfl ?_
    obtain ⟨hk5, hw⟩ := hw
    refine r_gtR (C := RX10) (T := TX10) (N := 6) g (ci := 11) rfl tc_X10 hp0 0 (by decide) tw_334 (fun _ h => h) rfl (k_ne hk5 (by decide)) dX10_needFrame_6 ?_
    obtain ⟨hk6, hw⟩ := hw
    refine r_gtR (C := RX8) (T := TX8) (N := 11) g (ci := 9) rfl tc_X8 hk5 1 (by decide) tw_168 (fun _ h => h) rfl (k_ne hk6 (by decide)) dX10_needFrame_9 ?_
    refine r_callVi (As := []) g (fun sz => mt_Jx4a65c_size_8abf5 hw sz) tw_357 tw_360 tw_5 tw_358 tw_359 (ci := 0) (T := TJx4a65c) (N := 3) rfl hk6 hy_Jx4a65c_size_8abf5 ⟨rfl, rfl⟩ (Nat.le_of_ble_eq_true rfl) (Nat.le_of_ble_eq_true rfl) (Nat.le_of_ble_eq_true rfl) (Nat.le_of_ble_eq_true rfl) (Nat.le_of_ble_eq_true rfl) rfl dX10_needFrame_12 (fun M7 r8 hK9 hN10 => ?_)
    have hw := hK9 hN10
    have hk11 := Nk_.k hN10 hp0 (by decide)
    have hT12 := Nk_.tr (Nk_.rf _) hN10
    refine r_icmp_lt (tgt := 29) g dX10_needFrame_15 (by decide) (fun hc13 => ?_) (fun hc13 => ?_)
    · have hw := hw.1 hc13
      exact r_vret g hr (Nat.le_of_ble_eq_true rfl) (Nat.le_of_ble_eq_true rfl) rfl dX10_needFrame_29 hw
    · have hw := hw.2 hc13
      exact hw.elim
def rmX10_needRoom : Room := { frames := 0, cells := 0, slots := 0, locals := 0 }
theorem hy_X10_needRoom : yX10_needRoom.cls ≠ "java/lang/invoke/MethodHandle" ∧ yX10_needRoom.cls ≠ "java/lang/invoke/VarHandle" ∧ (parseMethodDescriptor yX10_needRoom.desc).map (fun d => d.parameters.length) = some 0 := by decide +kernel
def wp_X10_needRoom (a0 : Nat) (M : Mm) (K : Mm → Prop) : Prop := kd_ M a0 = 12 ∧ (kd_ M (rf_ M a0 0) = 10 ∧ (((it_ M (rf_ M a0 0) 7) < (600 : Int32) → K M) ∧ (¬ (it_ M (rf_ M a0 0) 7) < (600 : Int32) → False)))
set_option maxHeartbeats 4000000 in
set_option maxRecDepth 100000 in
theorem mt_X10_needRoom {l : Launch} {D : Dd_} {M : Mm} {a0 : Nat} {K : Mm → Prop} (hw : wp_X10_needRoom a0 M K) (sz : Nat) : Met l yX10_needRoom (Cond.code yX10_needRoom cX10_needRoom 1 none :: tbG_) rmX10_needRoom (cPc_ D M sz [.ref a0]) (va_Qv (fun M' => K M') (cB_ D M sz) (Aw_ M sz)) 0 0 (Aw_ M sz) := by
  refine ofV (by decide) (Nat.le_of_ble_eq_true rfl) ?_
  intro p e s m below meth c g hr hin hsz
  subst hsz
  obtain ⟨hp0, hw⟩ := hw
  refine r_aload_n g dX10_needRoom_0 rfl 0 rfl ?_
  obtain ⟨hk1, hw⟩ := hw
  refine r_gtR (C := RX10) (T := TX10) (N := 6) g (ci := 11) rfl tc_X10 hp0 0 (by decide) tw_334 (fun _ h => h) rfl (k_ne hk1 (by decide)) dX10_needRoom_1 ?_
  refine r_gt (C := RX8) (T := TX8) (N := 11) g (ci := 9) rfl tc_X8 hk1 7 (by decide) tw_181 (fun _ h => h) rfl dX10_needRoom_4 ?_
  refine r_sipush (v := 600) g dX10_needRoom_7 (by decide) ?_
  refine r_icmp_lt (tgt := 24) g dX10_needRoom_10 (by decide) (fun hc2 => ?_) (fun hc2 => ?_)
  · have hw := hw.1 hc2
    exact r_vret g hr (Nat.le_of_ble_eq_true rfl) (Nat.le_of_ble_eq_true rfl) rfl dX10_needRoom_24 hw
  · have hw := hw.2 hc2
    exact hw.elim
def rmX10_zoneOf : Room := { frames := 3, cells := 0, slots := 0, locals := 64 }
theorem hy_X10_zoneOf : yX10_zoneOf.cls ≠ "java/lang/invoke/MethodHandle" ∧ yX10_zoneOf.cls ≠ "java/lang/invoke/VarHandle" ∧ (parseMethodDescriptor yX10_zoneOf.desc).map (fun d => d.parameters.length) = some 2 := by decide +kernel
def wp_X10_zoneOf (a0 : Nat) (x1 : Int32) (x2 : Int32) (M : Mm) (K : Mm → Nat → Prop) : Prop := kd_ M a0 = 12 ∧ (wp_X10_needFrame a0 x1 M (fun M1 => Nk_ M M1 → (wp_X10_needColumn a0 x2 M1 (fun M6 => Nk_ M1 M6 → (kd_ M6 (rf_ M6 a0 0) = 10 ∧ (kd_ M6 (rf_ M6 (rf_ M6 a0 0) 1) = 1 ∧ (wp_Jx4a65c_get_915e3 (rf_ M6 (rf_ M6 a0 0) 1) x1 M6 (fun M13 r14 => Nk_ M6 M13 → (kd_ M13 r14 = 2 ∧ (kd_ M13 (rf_ M13 r14 1) = 23 ∧ (vp_in x2 (ln_ M13 (rf_ M13 r14 1)) ∧ (kd_ M13 (rf_ M13 (rf_ M13 r14 1) (ix_ x2)) = 11 ∧ (K M13 (rf_ M13 (rf_ M13 r14 1) (ix_ x2)))))))))))))))
set_option maxHeartbeats 4000000 in
set_option maxRecDepth 100000 in
theorem mt_X10_zoneOf {l : Launch} {D : Dd_} {M : Mm} {a0 : Nat} {x1 : Int32} {x2 : Int32} {K : Mm → Nat → Prop} (hw : wp_X10_zoneOf a0 x1 x2 M K) (sz : Nat) : Met l yX10_zoneOf (Cond.code yX10_zoneOf cX10_zoneOf 3 (some (.object "ColdFrame$Zone")) :: tbG_) rmX10_zoneOf (cPc_ D M sz [.ref a0, .int x1, .int x2]) (va_Qr (S := Mm) (fun _ => True) (fun M' a t => K M' a ∧ kd_ M' a ≠ 0 ∧ cB_ D M sz M' t) (Aw_ M sz)) 0 0 (Aw_ M sz) := by
  refine ofV (by decide) (Nat.le_of_ble_eq_true rfl) ?_
  intro p e s m below meth c g hr hin hsz
  subst hsz
  obtain ⟨hp0, hw⟩ := hw
  refine r_aload_n g dX10_zoneOf_0 rfl 0 rfl ?_
  refine r_iload_n g dX10_zoneOf_1 rfl 1 rfl ?_
  refine r_callVv (As := [.int x1]) g (fun sz => mt_X10_needFrame hw sz) tw_846 tw_849 tw_1 tw_848 tp_25 (ci := 11) (T := TX10) (N := 6) rfl hp0 hy_X10_needFrame ⟨rfl, rfl⟩ (Nat.le_of_ble_eq_true rfl) (Nat.le_of_ble_eq_true rfl) (Nat.le_of_ble_eq_true rfl) (Nat.le_of_ble_eq_true rfl) (Nat.le_of_ble_eq_true rfl) rfl dX10_zoneOf_2 (fun M1 hK2 hN3 => ?_)
  have hw := hK2 hN3
  have hk4 := Nk_.k hN3 hp0 (by decide)
  have hT5 := Nk_.tr (Nk_.rf _) hN3
  refine r_aload_n g dX10_zoneOf_5 rfl 0 rfl ?_
  refine r_iload_n g dX10_zoneOf_6 rfl 2 rfl ?_
  refine r_callVv (As := [.int x2]) g (fun sz => mt_X10_needColumn hw sz) tw_714 tw_717 tw_1 tw_716 tp_16 (ci := 11) (T := TX10) (N := 6) rfl hk4 hy_X10_needColumn ⟨rfl, rfl⟩ (Nat.le_of_ble_eq_true rfl) (Nat.le_of_ble_eq_true rfl) (Nat.le_of_ble_eq_true rfl) (Nat.le_of_ble_eq_true rfl) (Nat.le_of_ble_eq_true rfl) rfl dX10_zoneOf_7 (fun M6 hK7 hN8 => ?_)
  have hw := hK7 hN8
  have hk9 := Nk_.k hN8 hk4 (by decide)
  have hT10 := Nk_.tr hT5 hN8
  refine r_aload_n g dX10_zoneOf_10 rfl 0 rfl ?_
  obtain ⟨hk11, hw⟩ := hw
  refine r_gtR (C := RX10) (T := TX10) (N := 6) g (ci := 11) rfl tc_X10 hk9 0 (by decide) tw_334 (fun _ h => h) rfl (k_ne hk11 (by decide)) dX10_zoneOf_11 ?_
  obtain ⟨hk12, hw⟩ := hw
  refine r_gtR (C := RX8) (T := TX8) (N := 11) g (ci := 9) rfl tc_X8 hk11 1 (by decide) tw_168 (fun _ h => h) rfl (k_ne hk12 (by decide)) dX10_zoneOf_14 ?_
  refine r_iload_n g dX10_zoneOf_17 rfl 1 rfl ?_
  refine r_callVr (As := [.int x1]) g (fun sz => mt_Jx4a65c_get_915e3 hw sz) tw_651 tw_543 tw_5 tw_541 tw_542 (ci := 0) (T := TJx4a65c) (N := 3) rfl hk12 hy_Jx4a65c_get_915e3 ⟨rfl, rfl⟩ (Nat.le_of_ble_eq_true rfl) (Nat.le_of_ble_eq_true rfl) (Nat.le_of_ble_eq_true rfl) (Nat.le_of_ble_eq_true rfl) (Nat.le_of_ble_eq_true rfl) rfl dX10_zoneOf_18 (fun M13 r14 hK15 h17 hN16 => ?_)
  have hw := hK15 hN16
  have hk18 := Nk_.k hN16 hk9 (by decide)
  have hT19 := Nk_.tr hT10 hN16
  obtain ⟨hk20, hw⟩ := hw
  refine r_cast (C := RX0) (T := TX0) (N := 4) g (ci := 1) rfl tw_656 hk20 dX10_zoneOf_21 ?_
  obtain ⟨hk21, hw⟩ := hw
  refine r_gtR (C := RX0) (T := TX0) (N := 4) g (ci := 1) rfl tc_X0 hk20 1 (by decide) tw_146 (fun _ h => h) rfl (k_ne hk21 (by decide)) dX10_zoneOf_24 ?_
  refine r_iload_n g dX10_zoneOf_27 rfl 2 rfl ?_
  obtain ⟨hi22, hw⟩ := hw
  obtain ⟨hk23, hw⟩ := hw
  refine r_aald (t := 3) g (by decide) (by decide) hk21 hi22 dX10_zoneOf_28 ?_
  refine r_rv (k_ne hk23 (by decide)) ?_
  exact r_rret g hr (by first | exact Or.inl ⟨_, rfl⟩ | exact Or.inr ⟨_, rfl⟩) (Nat.le_of_ble_eq_true rfl) (Nat.le_of_ble_eq_true rfl) rfl (k_ne hk23 (by decide)) dX10_zoneOf_29 hw
def rmX10_mixed : Room := { frames := 0, cells := 0, slots := 0, locals := 0 }
theorem hy_X10_mixed : yX10_mixed.cls ≠ "java/lang/invoke/MethodHandle" ∧ yX10_mixed.cls ≠ "java/lang/invoke/VarHandle" ∧ (parseMethodDescriptor yX10_mixed.desc).map (fun d => d.parameters.length) = some 2 := by decide +kernel
def wp_X10_mixed (y0 : Int64) (y2 : Int64) (M : Mm) (K : Mm → Int64 → Prop) : Prop := (K M ((y0 * (31 : Int64)) + y2))
set_option maxHeartbeats 4000000 in
set_option maxRecDepth 100000 in
theorem mt_X10_mixed {l : Launch} {D : Dd_} {M : Mm} {y0 : Int64} {y2 : Int64} {K : Mm → Int64 → Prop} (hw : wp_X10_mixed y0 y2 M K) (sz : Nat) : Met l yX10_mixed (Cond.code yX10_mixed cX10_mixed 4 (some .long) :: tbG_) rmX10_mixed (cPc_ D M sz [.long y0, .long y2]) (va_Ql (fun r M' => K M' r) (cB_ D M sz) (Aw_ M sz)) 0 0 (Aw_ M sz) := by
  refine ofV (by decide) (Nat.le_of_ble_eq_true rfl) ?_
  intro p e s m below meth c g hr hin hsz
  subst hsz
  refine r_lload_n g dX10_mixed_0 rfl 0 rfl ?_
  refine r_ldc2 (v := 31) g tw_631 dX10_mixed_1 ?_
  refine r_lmul g dX10_mixed_4 ?_
  refine r_lload_n g dX10_mixed_5 rfl 1 rfl ?_
  refine r_ladd g dX10_mixed_6 ?_
  exact r_lret g hr (Nat.le_of_ble_eq_true rfl) (Nat.le_of_ble_eq_true rfl) rfl dX10_mixed_7 hw
def rmX10_addColumn : Room := { frames := 7, cells := 4, slots := 1405, locals := 191 }
theorem hy_X10_addColumn : yX10_addColumn.cls ≠ "java/lang/invoke/MethodHandle" ∧ yX10_addColumn.cls ≠ "java/lang/invoke/VarHandle" ∧ (parseMethodDescriptor yX10_addColumn.desc).map (fun d => d.parameters.length) = some 0 := by decide +kernel
def wp_X10_addColumn (a0 : Nat) (M : Mm) (K : Mm → Int32 → Prop) : Prop := kd_ M a0 = 12 ∧ (kd_ M (rf_ M a0 0) = 10 ∧ (kd_ M (rf_ M (rf_ M a0 0) 0) = 1 ∧ (wp_Jx4a65c_size_8abf5 (rf_ M (rf_ M a0 0) 0) M (fun M3 r4 => Nk_ M M3 → ((r4 < (8 : Int32) → (kd_ M3 (rf_ M3 a0 0) = 10 ∧ (((it_ M3 (rf_ M3 a0 0) 7) ≤ 0 → (kd_ M3 (rf_ M3 (rf_ M3 a0 0) 0) = 1 ∧ (∀ q13, q13 ≠ 0 → kd_ M3 q13 = 0 → (∀ M16, M16 = nw_ M3 q13 3 0 → (wp_X1_init q13 M16 (fun M21 => Nk_ M16 M21 → (wp_Jx4a65c_add_9ea2d (rf_ M3 (rf_ M3 a0 0) 0) q13 M21 (fun M28 r29 => Nk_ M21 M28 → bz_ r29 → (kd_ M28 (rf_ M28 a0 0) = 10 ∧ (kd_ M28 (rf_ M28 (rf_ M28 a0 0) 0) = 1 ∧ (wp_Jx4a65c_size_8abf5 (rf_ M28 (rf_ M28 a0 0) 0) M28 (fun M37 r38 => Nk_ M28 M37 → (K M37 (r38 - (1 : Int32))))))))))))))) ∧ (¬ (it_ M3 (rf_ M3 a0 0) 7) ≤ 0 → False)))) ∧ (¬ r4 < (8 : Int32) → False))))))
set_option maxHeartbeats 4000000 in
set_option maxRecDepth 100000 in
theorem mt_X10_addColumn {l : Launch} {D : Dd_} {M : Mm} {a0 : Nat} {K : Mm → Int32 → Prop} (hw : wp_X10_addColumn a0 M K) (sz : Nat) : Met l yX10_addColumn (Cond.code yX10_addColumn cX10_addColumn 1 (some .int) :: tbG_) rmX10_addColumn (cPc_ D M sz [.ref a0]) (va_Qi (fun r M' => K M' r) (cB_ D M sz) (Aw_ M sz)) 4 1405 (Aw_ M sz) := by
  refine ofV (by decide) (Nat.le_of_ble_eq_true rfl) ?_
  intro p e s m below meth c g hr hin hsz
  subst hsz
  obtain ⟨hp0, hw⟩ := hw
  refine r_aload_n g dX10_addColumn_0 rfl 0 rfl ?_
  obtain ⟨hk1, hw⟩ := hw
  refine r_gtR (C := RX10) (T := TX10) (N := 6) g (ci := 11) rfl tc_X10 hp0 0 (by decide) tw_334 (fun _ h => h) rfl (k_ne hk1 (by decide)) dX10_addColumn_1 ?_
  obtain ⟨hk2, hw⟩ := hw
  refine r_gtR (C := RX8) (T := TX8) (N := 11) g (ci := 9) rfl tc_X8 hk1 0 (by decide) tw_164 (fun _ h => h) rfl (k_ne hk2 (by decide)) dX10_addColumn_4 ?_
  refine r_callVi (As := []) g (fun sz => mt_Jx4a65c_size_8abf5 hw sz) tw_357 tw_360 tw_5 tw_358 tw_359 (ci := 0) (T := TJx4a65c) (N := 3) rfl hk2 hy_Jx4a65c_size_8abf5 ⟨rfl, rfl⟩ (Nat.le_of_ble_eq_true rfl) (Nat.le_of_ble_eq_true rfl) (Nat.le_of_ble_eq_true rfl) (Nat.le_of_ble_eq_true rfl) (Nat.le_of_ble_eq_true rfl) rfl dX10_addColumn_7 (fun M3 r4 hK5 hN6 => ?_)
  have hw := hK5 hN6
  have hk7 := Nk_.k hN6 hp0 (by decide)
  have hT8 := Nk_.tr (Nk_.rf _) hN6
  refine r_bipush (v := 8) g dX10_addColumn_10 (by decide) ?_
  refine r_icmp_lt (tgt := 25) g dX10_addColumn_12 (by decide) (fun hc9 => ?_) (fun hc9 => ?_)
  · have hw := hw.1 hc9
    refine r_aload_n g dX10_addColumn_25 rfl 0 rfl ?_
    obtain ⟨hk10, hw⟩ := hw
    refine r_gtR (C := RX10) (T := TX10) (N := 6) g (ci := 11) rfl tc_X10 hk7 0 (by decide) tw_334 (fun _ h => h) rfl (k_ne hk10 (by decide)) dX10_addColumn_26 ?_
    refine r_gt (C := RX8) (T := TX8) (N := 11) g (ci := 9) rfl tc_X8 hk10 7 (by decide) tw_181 (fun _ h => h) rfl dX10_addColumn_29 ?_
    refine r_if_le (tgt := 45) g dX10_addColumn_32 (by decide) (fun hc11 => ?_) (fun hc11 => ?_)
    · have hw := hw.1 hc11
      refine r_aload_n g dX10_addColumn_45 rfl 0 rfl ?_
      refine r_gtR (C := RX10) (T := TX10) (N := 6) g (ci := 11) rfl tc_X10 hk7 0 (by decide) tw_334 (fun _ h => h) rfl (k_ne hk10 (by decide)) dX10_addColumn_46 ?_
      obtain ⟨hk12, hw⟩ := hw
      refine r_gtR (C := RX8) (T := TX8) (N := 11) g (ci := 9) rfl tc_X8 hk10 0 (by decide) tw_164 (fun _ h => h) rfl (k_ne hk12 (by decide)) dX10_addColumn_49 ?_
      refine r_new (ci := 2) (C := RX1) (T := TX1) (N := 5) g rfl tc_X1 tyX1 tyX1_ok tw_430 tw_431 tw_18 td_X1 (Nat.le_of_ble_eq_true rfl) (Nat.le_of_ble_eq_true rfl) dX10_addColumn_52 (fun q13 h14 hq15 => ?_)
      have hw := hw q13 h14 hq15 _ rfl
      have hk17 := Nk_.k (Nk_nw_ (c := 3) (n := 0) hq15) hk7 (by decide)
      have hk18 := Nk_.k (Nk_nw_ (c := 3) (n := 0) hq15) hk12 (by decide)
      have hT19 := Nk_.tr hT8 (Nk_nw_ (c := 3) (n := 0) hq15)
      have hk20 := kd_nq_ M3 q13 3 0
      refine r_dup g dX10_addColumn_55 rfl ?_
      refine r_callNv (As := []) g (fun sz => mt_X1_init hw sz) tx_432 tw_434 tw_18 tw_433 rfl hy_X1_init ⟨rfl, rfl⟩ (Nat.le_of_ble_eq_true rfl) (Nat.le_of_ble_eq_true rfl) (Nat.le_of_ble_eq_true rfl) (Nat.le_of_ble_eq_true rfl) (Nat.le_of_ble_eq_true rfl) rfl dX10_addColumn_56 (fun M21 hK22 hN23 => ?_)
      have hw := hK22 hN23
      have hk24 := Nk_.k hN23 hk17 (by decide)
      have hk25 := Nk_.k hN23 hk20 (by decide)
      have hk26 := Nk_.k hN23 hk18 (by decide)
      have hT27 := Nk_.tr hT19 hN23
      refine r_callVz (As := [.ref q13]) g (fun sz => mt_Jx4a65c_add_9ea2d hw sz) tw_465 tw_468 tw_5 tw_466 tw_467 (ci := 0) (T := TJx4a65c) (N := 3) rfl hk26 hy_Jx4a65c_add_9ea2d ⟨rfl, rfl⟩ (Nat.le_of_ble_eq_true rfl) (Nat.le_of_ble_eq_true rfl) (Nat.le_of_ble_eq_true rfl) (Nat.le_of_ble_eq_true rfl) (Nat.le_of_ble_eq_true rfl) rfl dX10_addColumn_59 (fun M28 r29 hK30 hb32 hN31 => ?_)
      have hw := hK30 hN31 hb32
      have hk33 := Nk_.k hN31 hk24 (by decide)
      have hT34 := Nk_.tr hT27 hN31
      refine r_pop g dX10_addColumn_62 rfl ?_
      refine r_aload_n g dX10_addColumn_63 rfl 0 rfl ?_
      obtain ⟨hk35, hw⟩ := hw
      refine r_gtR (C := RX10) (T := TX10) (N := 6) g (ci := 11) rfl tc_X10 hk33 0 (by decide) tw_334 (fun _ h => h) rfl (k_ne hk35 (by decide)) dX10_addColumn_64 ?_
      obtain ⟨hk36, hw⟩ := hw
      refine r_gtR (C := RX8) (T := TX8) (N := 11) g (ci := 9) rfl tc_X8 hk35 0 (by decide) tw_164 (fun _ h => h) rfl (k_ne hk36 (by decide)) dX10_addColumn_67 ?_
      refine r_callVi (As := []) g (fun sz => mt_Jx4a65c_size_8abf5 hw sz) tw_357 tw_360 tw_5 tw_358 tw_359 (ci := 0) (T := TJx4a65c) (N := 3) rfl hk36 hy_Jx4a65c_size_8abf5 ⟨rfl, rfl⟩ (Nat.le_of_ble_eq_true rfl) (Nat.le_of_ble_eq_true rfl) (Nat.le_of_ble_eq_true rfl) (Nat.le_of_ble_eq_true rfl) (Nat.le_of_ble_eq_true rfl) rfl dX10_addColumn_70 (fun M37 r38 hK39 hN40 => ?_)
      have hw := hK39 hN40
      have hk41 := Nk_.k hN40 hk33 (by decide)
      have hT42 := Nk_.tr hT34 hN40
      refine r_iconst (v := 1) g dX10_addColumn_73 (by decide) ?_
      refine r_isub g dX10_addColumn_74 ?_
      exact r_iret g hr (Nat.le_of_ble_eq_true rfl) (Nat.le_of_ble_eq_true rfl) rfl dX10_addColumn_75 hw
    · have hw := hw.2 hc11
      exact hw.elim
  · have hw := hw.2 hc9
    exact hw.elim
def rmX10_give : Room := { frames := 4, cells := 0, slots := 0, locals := 86 }
theorem hy_X10_give : yX10_give.cls ≠ "java/lang/invoke/MethodHandle" ∧ yX10_give.cls ≠ "java/lang/invoke/VarHandle" ∧ (parseMethodDescriptor yX10_give.desc).map (fun d => d.parameters.length) = some 2 := by decide +kernel
def wp_X10_give (a0 : Nat) (x1 : Int32) (x2 : Int32) (M : Mm) (K : Mm → Int32 → Prop) : Prop := kd_ M a0 = 12 ∧ (wp_X10_needColumn a0 x1 M (fun M1 => Nk_ M M1 → (kd_ M1 (rf_ M1 a0 0) = 10 ∧ (kd_ M1 (rf_ M1 (rf_ M1 a0 0) 0) = 1 ∧ (wp_Jx4a65c_get_915e3 (rf_ M1 (rf_ M1 a0 0) 0) x1 M1 (fun M8 r9 => Nk_ M1 M8 → (kd_ M8 r9 = 3 ∧ (wp_X1_giveNext r9 x2 M8 (fun M16 => Nk_ M8 M16 → (kd_ M16 (rf_ M16 a0 0) = 10 ∧ (wp_X8_givenColumns (rf_ M16 a0 0) M16 (fun M22 r23 => Nk_ M16 M22 → (K M22 r23)))))))))))))
set_option maxHeartbeats 4000000 in
set_option maxRecDepth 100000 in
theorem mt_X10_give {l : Launch} {D : Dd_} {M : Mm} {a0 : Nat} {x1 : Int32} {x2 : Int32} {K : Mm → Int32 → Prop} (hw : wp_X10_give a0 x1 x2 M K) (sz : Nat) : Met l yX10_give (Cond.code yX10_give cX10_give 3 (some .int) :: tbG_) rmX10_give (cPc_ D M sz [.ref a0, .int x1, .int x2]) (va_Qi (fun r M' => K M' r) (cB_ D M sz) (Aw_ M sz)) 0 0 (Aw_ M sz) := by
  refine ofV (by decide) (Nat.le_of_ble_eq_true rfl) ?_
  intro p e s m below meth c g hr hin hsz
  subst hsz
  obtain ⟨hp0, hw⟩ := hw
  refine r_aload_n g dX10_give_0 rfl 0 rfl ?_
  refine r_iload_n g dX10_give_1 rfl 1 rfl ?_
  refine r_callVv (As := [.int x1]) g (fun sz => mt_X10_needColumn hw sz) tw_714 tw_717 tw_1 tw_716 tp_16 (ci := 11) (T := TX10) (N := 6) rfl hp0 hy_X10_needColumn ⟨rfl, rfl⟩ (Nat.le_of_ble_eq_true rfl) (Nat.le_of_ble_eq_true rfl) (Nat.le_of_ble_eq_true rfl) (Nat.le_of_ble_eq_true rfl) (Nat.le_of_ble_eq_true rfl) rfl dX10_give_2 (fun M1 hK2 hN3 => ?_)
  have hw := hK2 hN3
  have hk4 := Nk_.k hN3 hp0 (by decide)
  have hT5 := Nk_.tr (Nk_.rf _) hN3
  refine r_aload_n g dX10_give_5 rfl 0 rfl ?_
  obtain ⟨hk6, hw⟩ := hw
  refine r_gtR (C := RX10) (T := TX10) (N := 6) g (ci := 11) rfl tc_X10 hk4 0 (by decide) tw_334 (fun _ h => h) rfl (k_ne hk6 (by decide)) dX10_give_6 ?_
  obtain ⟨hk7, hw⟩ := hw
  refine r_gtR (C := RX8) (T := TX8) (N := 11) g (ci := 9) rfl tc_X8 hk6 0 (by decide) tw_164 (fun _ h => h) rfl (k_ne hk7 (by decide)) dX10_give_9 ?_
  refine r_iload_n g dX10_give_12 rfl 1 rfl ?_
  refine r_callVr (As := [.int x1]) g (fun sz => mt_Jx4a65c_get_915e3 hw sz) tw_651 tw_543 tw_5 tw_541 tw_542 (ci := 0) (T := TJx4a65c) (N := 3) rfl hk7 hy_Jx4a65c_get_915e3 ⟨rfl, rfl⟩ (Nat.le_of_ble_eq_true rfl) (Nat.le_of_ble_eq_true rfl) (Nat.le_of_ble_eq_true rfl) (Nat.le_of_ble_eq_true rfl) (Nat.le_of_ble_eq_true rfl) rfl dX10_give_13 (fun M8 r9 hK10 h12 hN11 => ?_)
  have hw := hK10 hN11
  have hk13 := Nk_.k hN11 hk4 (by decide)
  have hT14 := Nk_.tr hT5 hN11
  obtain ⟨hk15, hw⟩ := hw
  refine r_cast (C := RX1) (T := TX1) (N := 5) g (ci := 2) rfl tw_430 hk15 dX10_give_16 ?_
  refine r_iload_n g dX10_give_19 rfl 2 rfl ?_
  refine r_callVv (As := [.int x2]) g (fun sz => mt_X1_giveNext hw sz) tw_929 tw_932 tw_18 tw_930 tw_931 (ci := 2) (T := TX1) (N := 5) rfl hk15 hy_X1_giveNext ⟨rfl, rfl⟩ (Nat.le_of_ble_eq_true rfl) (Nat.le_of_ble_eq_true rfl) (Nat.le_of_ble_eq_true rfl) (Nat.le_of_ble_eq_true rfl) (Nat.le_of_ble_eq_true rfl) rfl dX10_give_20 (fun M16 hK17 hN18 => ?_)
  have hw := hK17 hN18
  have hk19 := Nk_.k hN18 hk13 (by decide)
  have hT20 := Nk_.tr hT14 hN18
  refine r_aload_n g dX10_give_23 rfl 0 rfl ?_
  obtain ⟨hk21, hw⟩ := hw
  refine r_gtR (C := RX10) (T := TX10) (N := 6) g (ci := 11) rfl tc_X10 hk19 0 (by decide) tw_334 (fun _ h => h) rfl (k_ne hk21 (by decide)) dX10_give_24 ?_
  refine r_callVi (As := []) g (fun sz => mt_X8_givenColumns hw sz) tw_933 tw_936 tw_2 tw_934 tw_935 (ci := 9) (T := TX8) (N := 11) rfl hk21 hy_X8_givenColumns ⟨rfl, rfl⟩ (Nat.le_of_ble_eq_true rfl) (Nat.le_of_ble_eq_true rfl) (Nat.le_of_ble_eq_true rfl) (Nat.le_of_ble_eq_true rfl) (Nat.le_of_ble_eq_true rfl) rfl dX10_give_27 (fun M22 r23 hK24 hN25 => ?_)
  have hw := hK24 hN25
  have hk26 := Nk_.k hN25 hk19 (by decide)
  have hT27 := Nk_.tr hT20 hN25
  exact r_iret g hr (Nat.le_of_ble_eq_true rfl) (Nat.le_of_ble_eq_true rfl) rfl dX10_give_30 hw
def rmX10_add : Room := { frames := 9, cells := 20, slots := 476, locals := 232 }
theorem hy_X10_add : yX10_add.cls ≠ "java/lang/invoke/MethodHandle" ∧ yX10_add.cls ≠ "java/lang/invoke/VarHandle" ∧ (parseMethodDescriptor yX10_add.desc).map (fun d => d.parameters.length) = some 0 := by decide +kernel
def wp_X10_add (a0 : Nat) (M : Mm) (K : Mm → Int32 → Prop) : Prop := kd_ M a0 = 12 ∧ (kd_ M (rf_ M a0 0) = 10 ∧ (kd_ M (rf_ M (rf_ M a0 0) 0) = 1 ∧ (wp_Jx4a65c_isEmpty_aae02 (rf_ M (rf_ M a0 0) 0) M (fun M3 r4 => Nk_ M M3 → bz_ r4 → ((r4 = 0 → (wp_X10_needRoom a0 M3 (fun M11 => Nk_ M3 M11 → (kd_ M11 (rf_ M11 a0 0) = 10 ∧ (wp_X8_appendGiven (rf_ M11 a0 0) M11 (fun M17 r18 => Nk_ M11 M17 → (kd_ M17 (rf_ M17 a0 0) = 10 ∧ (wp_X8_sealIfFull (rf_ M17 a0 0) M17 (fun M24 => Nk_ M17 M24 → (K M24 r18)))))))))) ∧ (¬ r4 = 0 → False))))))
set_option maxHeartbeats 4000000 in
set_option maxRecDepth 100000 in
theorem mt_X10_add {l : Launch} {D : Dd_} {M : Mm} {a0 : Nat} {K : Mm → Int32 → Prop} (hw : wp_X10_add a0 M K) (sz : Nat) : Met l yX10_add (Cond.code yX10_add cX10_add 2 (some .int) :: tbG_) rmX10_add (cPc_ D M sz [.ref a0]) (va_Qi (fun r M' => K M' r) (cB_ D M sz) (Aw_ M sz)) 20 476 (Aw_ M sz) := by
  refine ofV (by decide) (Nat.le_of_ble_eq_true rfl) ?_
  intro p e s m below meth c g hr hin hsz
  subst hsz
  obtain ⟨hp0, hw⟩ := hw
  refine r_aload_n g dX10_add_0 rfl 0 rfl ?_
  obtain ⟨hk1, hw⟩ := hw
  refine r_gtR (C := RX10) (T := TX10) (N := 6) g (ci := 11) rfl tc_X10 hp0 0 (by decide) tw_334 (fun _ h => h) rfl (k_ne hk1 (by decide)) dX10_add_1 ?_
  obtain ⟨hk2, hw⟩ := hw
  refine r_gtR (C := RX8) (T := TX8) (N := 11) g (ci := 9) rfl tc_X8 hk1 0 (by decide) tw_164 (fun _ h => h) rfl (k_ne hk2 (by decide)) dX10_add_4 ?_
  refine r_callVz (As := []) g (fun sz => mt_Jx4a65c_isEmpty_aae02 hw sz) tw_941 tw_944 tw_5 tw_942 tw_943 (ci := 0) (T := TJx4a65c) (N := 3) rfl hk2 hy_Jx4a65c_isEmpty_aae02 ⟨rfl, rfl⟩ (Nat.le_of_ble_eq_true rfl) (Nat.le_of_ble_eq_true rfl) (Nat.le_of_ble_eq_true rfl) (Nat.le_of_ble_eq_true rfl) (Nat.le_of_ble_eq_true rfl) rfl dX10_add_7 (fun M3 r4 hK5 hb7 hN6 => ?_)
  have hw := hK5 hN6 hb7
  have hk8 := Nk_.k hN6 hp0 (by decide)
  have hT9 := Nk_.tr (Nk_.rf _) hN6
  refine r_if_eq (tgt := 23) g dX10_add_10 (by decide) (fun hc10 => ?_) (fun hc10 => ?_)
  · have hw := hw.1 hc10
    refine r_aload_n g dX10_add_23 rfl 0 rfl ?_
    refine r_callVv (As := []) g (fun sz => mt_X10_needRoom hw sz) tw_720 tw_723 tw_1 tw_722 tp_17 (ci := 11) (T := TX10) (N := 6) rfl hk8 hy_X10_needRoom ⟨rfl, rfl⟩ (Nat.le_of_ble_eq_true rfl) (Nat.le_of_ble_eq_true rfl) (Nat.le_of_ble_eq_true rfl) (Nat.le_of_ble_eq_true rfl) (Nat.le_of_ble_eq_true rfl) rfl dX10_add_24 (fun M11 hK12 hN13 => ?_)
    have hw := hK12 hN13
    have hk14 := Nk_.k hN13 hk8 (by decide)
    have hT15 := Nk_.tr hT9 hN13
    refine r_aload_n g dX10_add_27 rfl 0 rfl ?_
    obtain ⟨hk16, hw⟩ := hw
    refine r_gtR (C := RX10) (T := TX10) (N := 6) g (ci := 11) rfl tc_X10 hk14 0 (by decide) tw_334 (fun _ h => h) rfl (k_ne hk16 (by decide)) dX10_add_28 ?_
    refine r_callVi (As := []) g (fun sz => mt_X8_appendGiven hw sz) tw_946 tw_949 tw_2 tw_947 tw_948 (ci := 9) (T := TX8) (N := 11) rfl hk16 hy_X8_appendGiven ⟨rfl, rfl⟩ (Nat.le_of_ble_eq_true rfl) (Nat.le_of_ble_eq_true rfl) (Nat.le_of_ble_eq_true rfl) (Nat.le_of_ble_eq_true rfl) (Nat.le_of_ble_eq_true rfl) rfl dX10_add_31 (fun M17 r18 hK19 hN20 => ?_)
    have hw := hK19 hN20
    have hk21 := Nk_.k hN20 hk14 (by decide)
    have hT22 := Nk_.tr hT15 hN20
    refine r_istore_n (L' := [(1, .int r18), (0, .ref a0)]) g dX10_add_34 rfl (by decide) rfl ?_
    refine r_aload_n g dX10_add_35 rfl 1 rfl ?_
    obtain ⟨hk23, hw⟩ := hw
    refine r_gtR (C := RX10) (T := TX10) (N := 6) g (ci := 11) rfl tc_X10 hk21 0 (by decide) tw_334 (fun _ h => h) rfl (k_ne hk23 (by decide)) dX10_add_36 ?_
    refine r_callVv (As := []) g (fun sz => mt_X8_sealIfFull hw sz) tw_746 tw_749 tw_2 tw_747 tw_748 (ci := 9) (T := TX8) (N := 11) rfl hk23 hy_X8_sealIfFull ⟨rfl, rfl⟩ (Nat.le_of_ble_eq_true rfl) (Nat.le_of_ble_eq_true rfl) (Nat.le_of_ble_eq_true rfl) (Nat.le_of_ble_eq_true rfl) (Nat.le_of_ble_eq_true rfl) rfl dX10_add_39 (fun M24 hK25 hN26 => ?_)
    have hw := hK25 hN26
    have hk27 := Nk_.k hN26 hk21 (by decide)
    have hT28 := Nk_.tr hT22 hN26
    refine r_iload_n g dX10_add_42 rfl 0 rfl ?_
    exact r_iret g hr (Nat.le_of_ble_eq_true rfl) (Nat.le_of_ble_eq_true rfl) rfl dX10_add_43 hw
  · have hw := hw.2 hc10
    exact hw.elim
def rmX10_setSize : Room := { frames := 9, cells := 20, slots := 476, locals := 232 }
theorem hy_X10_setSize : yX10_setSize.cls ≠ "java/lang/invoke/MethodHandle" ∧ yX10_setSize.cls ≠ "java/lang/invoke/VarHandle" ∧ (parseMethodDescriptor yX10_setSize.desc).map (fun d => d.parameters.length) = some 1 := by decide +kernel
def wp_X10_setSize (a0 : Nat) (x1 : Int32) (M : Mm) (K : Mm → Int32 → Prop) : Prop := kd_ M a0 = 12 ∧ ((x1 < (4 : Int32) → False) ∧ (¬ x1 < (4 : Int32) → ((x1 ≤ (64 : Int32) → (kd_ M (rf_ M a0 0) = 10 ∧ (∀ M7, M7 = sI_ M (rf_ M a0 0) 6 x1 → (wp_X8_sealIfFull (rf_ M a0 0) M7 (fun M8 => Nk_ M7 M8 → (K M8 (it_ M (rf_ M a0 0) 6))))))) ∧ (¬ x1 ≤ (64 : Int32) → False))))
set_option maxHeartbeats 4000000 in
set_option maxRecDepth 100000 in
theorem mt_X10_setSize {l : Launch} {D : Dd_} {M : Mm} {a0 : Nat} {x1 : Int32} {K : Mm → Int32 → Prop} (hw : wp_X10_setSize a0 x1 M K) (sz : Nat) : Met l yX10_setSize (Cond.code yX10_setSize cX10_setSize 3 (some .int) :: tbG_) rmX10_setSize (cPc_ D M sz [.ref a0, .int x1]) (va_Qi (fun r M' => K M' r) (cB_ D M sz) (Aw_ M sz)) 20 476 (Aw_ M sz) := by
  refine ofV (by decide) (Nat.le_of_ble_eq_true rfl) ?_
  intro p e s m below meth c g hr hin hsz
  subst hsz
  obtain ⟨hp0, hw⟩ := hw
  refine r_iload_n g dX10_setSize_0 rfl 1 rfl ?_
  refine r_iconst (v := 4) g dX10_setSize_1 (by decide) ?_
  refine r_icmp_lt (tgt := 11) g dX10_setSize_2 (by decide) (fun hc1 => ?_) (fun hc1 => ?_)
  · have hw := hw.1 hc1
    exact hw.elim
  · have hw := hw.2 hc1
    refine r_iload_n g dX10_setSize_5 rfl 1 rfl ?_
    refine r_bipush (v := 64) g dX10_setSize_6 (by decide) ?_
    refine r_icmp_le (tgt := 21) g dX10_setSize_8 (by decide) (fun hc5 => ?_) (fun hc5 => ?_)
    · have hw := hw.1 hc5
      refine r_aload_n g dX10_setSize_21 rfl 0 rfl ?_
      obtain ⟨hk6, hw⟩ := hw
      refine r_gtR (C := RX10) (T := TX10) (N := 6) g (ci := 11) rfl tc_X10 hp0 0 (by decide) tw_334 (fun _ h => h) rfl (k_ne hk6 (by decide)) dX10_setSize_22 ?_
      refine r_gt (C := RX8) (T := TX8) (N := 11) g (ci := 9) rfl tc_X8 hk6 6 (by decide) tw_180 (fun _ h => h) rfl dX10_setSize_25 ?_
      refine r_istore_n (L' := [(2, .int (it_ M (rf_ M a0 0) 6)), (0, .ref a0), (1, .int x1)]) g dX10_setSize_28 rfl (by decide) rfl ?_
      refine r_aload_n g dX10_setSize_29 rfl 1 rfl ?_
      refine r_gtR (C := RX10) (T := TX10) (N := 6) g (ci := 11) rfl tc_X10 hp0 0 (by decide) tw_334 (fun _ h => h) rfl (k_ne hk6 (by decide)) dX10_setSize_30 ?_
      refine r_iload_n g dX10_setSize_33 rfl 2 rfl ?_
      refine r_ptI (C := RX8) (T := TX8) (N := 11) g (ci := 9) rfl tc_X8 tyX8 tyX8_ok nmX8 hk6 6 (by decide) tw_180 (fun _ h => h) rfl rfl rfl rfl dX10_setSize_34 ?_
      have hw := hw _ rfl
      refine r_aload_n g dX10_setSize_37 rfl 1 rfl ?_
      refine r_gtR (C := RX10) (T := TX10) (N := 6) g (ci := 11) rfl tc_X10 hp0 0 (by decide) tw_334 (fun _ h => h) rfl (k_ne hk6 (by decide)) dX10_setSize_38 ?_
      refine r_callVv (As := []) g (fun sz => mt_X8_sealIfFull hw sz) tw_746 tw_749 tw_2 tw_747 tw_748 (ci := 9) (T := TX8) (N := 11) rfl hk6 hy_X8_sealIfFull ⟨rfl, rfl⟩ (Nat.le_of_ble_eq_true rfl) (Nat.le_of_ble_eq_true rfl) (Nat.le_of_ble_eq_true rfl) (Nat.le_of_ble_eq_true rfl) (Nat.le_of_ble_eq_true rfl) rfl dX10_setSize_41 (fun M8 hK9 hN10 => ?_)
      have hw := hK9 hN10
      have hk11 := Nk_.k hN10 hp0 (by decide)
      have hT12 := Nk_.tr (Nk_.rf _) hN10
      refine r_iload_n g dX10_setSize_44 rfl 0 rfl ?_
      exact r_iret g hr (Nat.le_of_ble_eq_true rfl) (Nat.le_of_ble_eq_true rfl) rfl dX10_setSize_45 hw
    · have hw := hw.2 hc5
      exact hw.elim
def rmX10_index : Room := { frames := 3, cells := 0, slots := 0, locals := 64 }
theorem hy_X10_index : yX10_index.cls ≠ "java/lang/invoke/MethodHandle" ∧ yX10_index.cls ≠ "java/lang/invoke/VarHandle" ∧ (parseMethodDescriptor yX10_index.desc).map (fun d => d.parameters.length) = some 1 := by decide +kernel
def wp_X10_index (a0 : Nat) (x1 : Int32) (M : Mm) (K : Mm → Int32 → Prop) : Prop := kd_ M a0 = 12 ∧ (wp_X10_needColumn a0 x1 M (fun M1 => Nk_ M M1 → (kd_ M1 (rf_ M1 a0 0) = 10 ∧ (kd_ M1 (rf_ M1 (rf_ M1 a0 0) 0) = 1 ∧ (wp_Jx4a65c_get_915e3 (rf_ M1 (rf_ M1 a0 0) 0) x1 M1 (fun M8 r9 => Nk_ M1 M8 → (kd_ M8 r9 = 3 ∧ (bz_ (it_ M8 r9 2) → (((it_ M8 r9 2) = 0 → (∀ M20, M20 = sI_ M8 r9 2 (1 : Int32) → (bz_ (it_ M20 r9 2) → (K M20 (it_ M20 r9 2))))) ∧ (¬ (it_ M8 r9 2) = 0 → (∀ M18, M18 = sI_ M8 r9 2 (0 : Int32) → (bz_ (it_ M18 r9 2) → (K M18 (it_ M18 r9 2))))))))))))))
set_option maxHeartbeats 4000000 in
set_option maxRecDepth 100000 in
theorem mt_X10_index {l : Launch} {D : Dd_} {M : Mm} {a0 : Nat} {x1 : Int32} {K : Mm → Int32 → Prop} (hw : wp_X10_index a0 x1 M K) (sz : Nat) : Met l yX10_index (Cond.code yX10_index cX10_index 3 (some .boolean) :: tbG_) rmX10_index (cPc_ D M sz [.ref a0, .int x1]) (va_Qi (fun r M' => K M' r ∧ bz_ r) (cB_ D M sz) (Aw_ M sz)) 0 0 (Aw_ M sz) := by
  refine ofV (by decide) (Nat.le_of_ble_eq_true rfl) ?_
  intro p e s m below meth c g hr hin hsz
  subst hsz
  obtain ⟨hp0, hw⟩ := hw
  refine r_aload_n g dX10_index_0 rfl 0 rfl ?_
  refine r_iload_n g dX10_index_1 rfl 1 rfl ?_
  refine r_callVv (As := [.int x1]) g (fun sz => mt_X10_needColumn hw sz) tw_714 tw_717 tw_1 tw_716 tp_16 (ci := 11) (T := TX10) (N := 6) rfl hp0 hy_X10_needColumn ⟨rfl, rfl⟩ (Nat.le_of_ble_eq_true rfl) (Nat.le_of_ble_eq_true rfl) (Nat.le_of_ble_eq_true rfl) (Nat.le_of_ble_eq_true rfl) (Nat.le_of_ble_eq_true rfl) rfl dX10_index_2 (fun M1 hK2 hN3 => ?_)
  have hw := hK2 hN3
  have hk4 := Nk_.k hN3 hp0 (by decide)
  have hT5 := Nk_.tr (Nk_.rf _) hN3
  refine r_aload_n g dX10_index_5 rfl 0 rfl ?_
  obtain ⟨hk6, hw⟩ := hw
  refine r_gtR (C := RX10) (T := TX10) (N := 6) g (ci := 11) rfl tc_X10 hk4 0 (by decide) tw_334 (fun _ h => h) rfl (k_ne hk6 (by decide)) dX10_index_6 ?_
  obtain ⟨hk7, hw⟩ := hw
  refine r_gtR (C := RX8) (T := TX8) (N := 11) g (ci := 9) rfl tc_X8 hk6 0 (by decide) tw_164 (fun _ h => h) rfl (k_ne hk7 (by decide)) dX10_index_9 ?_
  refine r_iload_n g dX10_index_12 rfl 1 rfl ?_
  refine r_callVr (As := [.int x1]) g (fun sz => mt_Jx4a65c_get_915e3 hw sz) tw_651 tw_543 tw_5 tw_541 tw_542 (ci := 0) (T := TJx4a65c) (N := 3) rfl hk7 hy_Jx4a65c_get_915e3 ⟨rfl, rfl⟩ (Nat.le_of_ble_eq_true rfl) (Nat.le_of_ble_eq_true rfl) (Nat.le_of_ble_eq_true rfl) (Nat.le_of_ble_eq_true rfl) (Nat.le_of_ble_eq_true rfl) rfl dX10_index_13 (fun M8 r9 hK10 h12 hN11 => ?_)
  have hw := hK10 hN11
  have hk13 := Nk_.k hN11 hk4 (by decide)
  have hT14 := Nk_.tr hT5 hN11
  obtain ⟨hk15, hw⟩ := hw
  refine r_cast (C := RX1) (T := TX1) (N := 5) g (ci := 2) rfl tw_430 hk15 dX10_index_16 ?_
  refine r_astore_n (L' := [(2, .ref r9), (0, .ref a0), (1, .int x1)]) g dX10_index_19 rfl (by decide) rfl ?_
  refine r_aload_n g dX10_index_20 rfl 0 rfl ?_
  refine r_aload_n g dX10_index_21 rfl 0 rfl ?_
  refine r_gtZ (C := RX1) (T := TX1) (N := 5) g (ci := 2) rfl tc_X1 hk15 2 (by decide) tw_449 (fun _ h => h) rfl dX10_index_22 (fun hb16 => ?_)
  have hw := hw hb16
  refine r_if_ne (tgt := 32) g dX10_index_25 (by decide) (fun hc17 => ?_) (fun hc17 => ?_)
  · have hw := hw.2 hc17
    refine r_iconst (v := 0) g dX10_index_32 (by decide) ?_
    refine r_ptZ (C := RX1) (T := TX1) (N := 5) g (ci := 2) rfl tc_X1 tyX1 tyX1_ok nmX1 hk15 2 (by decide) tw_449 (fun _ h => h) rfl rfl (Or.inl rfl) (bz_n (Or.inl rfl)) (bz_f (Or.inl rfl)) dX10_index_33 ?_
    have hw := hw _ rfl
    refine r_aload_n g dX10_index_36 rfl 0 rfl ?_
    refine r_gtZ (C := RX1) (T := TX1) (N := 5) g (ci := 2) rfl tc_X1 hk15 2 (by decide) tw_449 (fun _ h => h) rfl dX10_index_37 (fun hb19 => ?_)
    have hw := hw hb19
    exact r_zret g hr (Nat.le_of_ble_eq_true rfl) (Nat.le_of_ble_eq_true rfl) rfl hb19 dX10_index_40 hw
  · have hw := hw.1 hc17
    refine r_iconst (v := 1) g dX10_index_28 (by decide) ?_
    refine r_goto (tgt := 33) g dX10_index_29 (by decide) ?_
    refine r_ptZ (C := RX1) (T := TX1) (N := 5) g (ci := 2) rfl tc_X1 tyX1 tyX1_ok nmX1 hk15 2 (by decide) tw_449 (fun _ h => h) rfl rfl (Or.inr rfl) (bz_n (Or.inr rfl)) (bz_f (Or.inr rfl)) dX10_index_33 ?_
    have hw := hw _ rfl
    refine r_aload_n g dX10_index_36 rfl 0 rfl ?_
    refine r_gtZ (C := RX1) (T := TX1) (N := 5) g (ci := 2) rfl tc_X1 hk15 2 (by decide) tw_449 (fun _ h => h) rfl dX10_index_37 (fun hb21 => ?_)
    have hw := hw hb21
    exact r_zret g hr (Nat.le_of_ble_eq_true rfl) (Nat.le_of_ble_eq_true rfl) rfl hb21 dX10_index_40 hw
def rmX10_rows : Room := { frames := 0, cells := 0, slots := 0, locals := 0 }
theorem hy_X10_rows : yX10_rows.cls ≠ "java/lang/invoke/MethodHandle" ∧ yX10_rows.cls ≠ "java/lang/invoke/VarHandle" ∧ (parseMethodDescriptor yX10_rows.desc).map (fun d => d.parameters.length) = some 0 := by decide +kernel
def wp_X10_rows (a0 : Nat) (M : Mm) (K : Mm → Int32 → Prop) : Prop := kd_ M a0 = 12 ∧ (kd_ M (rf_ M a0 0) = 10 ∧ (K M (it_ M (rf_ M a0 0) 7)))
set_option maxHeartbeats 4000000 in
set_option maxRecDepth 100000 in
theorem mt_X10_rows {l : Launch} {D : Dd_} {M : Mm} {a0 : Nat} {K : Mm → Int32 → Prop} (hw : wp_X10_rows a0 M K) (sz : Nat) : Met l yX10_rows (Cond.code yX10_rows cX10_rows 1 (some .int) :: tbG_) rmX10_rows (cPc_ D M sz [.ref a0]) (va_Qi (fun r M' => K M' r) (cB_ D M sz) (Aw_ M sz)) 0 0 (Aw_ M sz) := by
  refine ofV (by decide) (Nat.le_of_ble_eq_true rfl) ?_
  intro p e s m below meth c g hr hin hsz
  subst hsz
  obtain ⟨hp0, hw⟩ := hw
  refine r_aload_n g dX10_rows_0 rfl 0 rfl ?_
  obtain ⟨hk1, hw⟩ := hw
  refine r_gtR (C := RX10) (T := TX10) (N := 6) g (ci := 11) rfl tc_X10 hp0 0 (by decide) tw_334 (fun _ h => h) rfl (k_ne hk1 (by decide)) dX10_rows_1 ?_
  refine r_gt (C := RX8) (T := TX8) (N := 11) g (ci := 9) rfl tc_X8 hk1 7 (by decide) tw_181 (fun _ h => h) rfl dX10_rows_4 ?_
  exact r_iret g hr (Nat.le_of_ble_eq_true rfl) (Nat.le_of_ble_eq_true rfl) rfl dX10_rows_7 hw
def rmX10_alive : Room := { frames := 0, cells := 0, slots := 0, locals := 0 }
theorem hy_X10_alive : yX10_alive.cls ≠ "java/lang/invoke/MethodHandle" ∧ yX10_alive.cls ≠ "java/lang/invoke/VarHandle" ∧ (parseMethodDescriptor yX10_alive.desc).map (fun d => d.parameters.length) = some 0 := by decide +kernel
def wp_X10_alive (a0 : Nat) (M : Mm) (K : Mm → Int32 → Prop) : Prop := kd_ M a0 = 12 ∧ (kd_ M (rf_ M a0 0) = 10 ∧ (K M (it_ M (rf_ M a0 0) 8)))
set_option maxHeartbeats 4000000 in
set_option maxRecDepth 100000 in
theorem mt_X10_alive {l : Launch} {D : Dd_} {M : Mm} {a0 : Nat} {K : Mm → Int32 → Prop} (hw : wp_X10_alive a0 M K) (sz : Nat) : Met l yX10_alive (Cond.code yX10_alive cX10_alive 1 (some .int) :: tbG_) rmX10_alive (cPc_ D M sz [.ref a0]) (va_Qi (fun r M' => K M' r) (cB_ D M sz) (Aw_ M sz)) 0 0 (Aw_ M sz) := by
  refine ofV (by decide) (Nat.le_of_ble_eq_true rfl) ?_
  intro p e s m below meth c g hr hin hsz
  subst hsz
  obtain ⟨hp0, hw⟩ := hw
  refine r_aload_n g dX10_alive_0 rfl 0 rfl ?_
  obtain ⟨hk1, hw⟩ := hw
  refine r_gtR (C := RX10) (T := TX10) (N := 6) g (ci := 11) rfl tc_X10 hp0 0 (by decide) tw_334 (fun _ h => h) rfl (k_ne hk1 (by decide)) dX10_alive_1 ?_
  refine r_gt (C := RX8) (T := TX8) (N := 11) g (ci := 9) rfl tc_X8 hk1 8 (by decide) tw_184 (fun _ h => h) rfl dX10_alive_4 ?_
  exact r_iret g hr (Nat.le_of_ble_eq_true rfl) (Nat.le_of_ble_eq_true rfl) rfl dX10_alive_7 hw
def rmX10_frames : Room := { frames := 1, cells := 0, slots := 0, locals := 20 }
theorem hy_X10_frames : yX10_frames.cls ≠ "java/lang/invoke/MethodHandle" ∧ yX10_frames.cls ≠ "java/lang/invoke/VarHandle" ∧ (parseMethodDescriptor yX10_frames.desc).map (fun d => d.parameters.length) = some 0 := by decide +kernel
def wp_X10_frames (a0 : Nat) (M : Mm) (K : Mm → Int32 → Prop) : Prop := kd_ M a0 = 12 ∧ (kd_ M (rf_ M a0 0) = 10 ∧ (kd_ M (rf_ M (rf_ M a0 0) 1) = 1 ∧ (wp_Jx4a65c_size_8abf5 (rf_ M (rf_ M a0 0) 1) M (fun M3 r4 => Nk_ M M3 → (K M3 r4)))))
set_option maxHeartbeats 4000000 in
set_option maxRecDepth 100000 in
theorem mt_X10_frames {l : Launch} {D : Dd_} {M : Mm} {a0 : Nat} {K : Mm → Int32 → Prop} (hw : wp_X10_frames a0 M K) (sz : Nat) : Met l yX10_frames (Cond.code yX10_frames cX10_frames 1 (some .int) :: tbG_) rmX10_frames (cPc_ D M sz [.ref a0]) (va_Qi (fun r M' => K M' r) (cB_ D M sz) (Aw_ M sz)) 0 0 (Aw_ M sz) := by
  refine ofV (by decide) (Nat.le_of_ble_eq_true rfl) ?_
  intro p e s m below meth c g hr hin hsz
  subst hsz
  obtain ⟨hp0, hw⟩ := hw
  refine r_aload_n g dX10_frames_0 rfl 0 rfl ?_
  obtain ⟨hk1, hw⟩ := hw
  refine r_gtR (C := RX10) (T := TX10) (N := 6) g (ci := 11) rfl tc_X10 hp0 0 (by decide) tw_334 (fun _ h => h) rfl (k_ne hk1 (by decide)) dX10_frames_1 ?_
  obtain ⟨hk2, hw⟩ := hw
  refine r_gtR (C := RX8) (T := TX8) (N := 11) g (ci := 9) rfl tc_X8 hk1 1 (by decide) tw_168 (fun _ h => h) rfl (k_ne hk2 (by decide)) dX10_frames_4 ?_
  refine r_callVi (As := []) g (fun sz => mt_Jx4a65c_size_8abf5 hw sz) tw_357 tw_360 tw_5 tw_358 tw_359 (ci := 0) (T := TJx4a65c) (N := 3) rfl hk2 hy_Jx4a65c_size_8abf5 ⟨rfl, rfl⟩ (Nat.le_of_ble_eq_true rfl) (Nat.le_of_ble_eq_true rfl) (Nat.le_of_ble_eq_true rfl) (Nat.le_of_ble_eq_true rfl) (Nat.le_of_ble_eq_true rfl) rfl dX10_frames_7 (fun M3 r4 hK5 hN6 => ?_)
  have hw := hK5 hN6
  have hk7 := Nk_.k hN6 hp0 (by decide)
  have hT8 := Nk_.tr (Nk_.rf _) hN6
  exact r_iret g hr (Nat.le_of_ble_eq_true rfl) (Nat.le_of_ble_eq_true rfl) rfl dX10_frames_10 hw
def rmX10_isAlive : Room := { frames := 1, cells := 0, slots := 0, locals := 21 }
theorem hy_X10_isAlive : yX10_isAlive.cls ≠ "java/lang/invoke/MethodHandle" ∧ yX10_isAlive.cls ≠ "java/lang/invoke/VarHandle" ∧ (parseMethodDescriptor yX10_isAlive.desc).map (fun d => d.parameters.length) = some 1 := by decide +kernel
def wp_X10_isAlive (a0 : Nat) (x1 : Int32) (M : Mm) (K : Mm → Int32 → Prop) : Prop := kd_ M a0 = 12 ∧ (wp_X10_needRow a0 x1 M (fun M1 => Nk_ M M1 → (kd_ M1 (rf_ M1 a0 0) = 10 ∧ (kd_ M1 (rf_ M1 (rf_ M1 a0 0) 2) = 21 ∧ (vp_in x1 (ln_ M1 (rf_ M1 (rf_ M1 a0 0) 2)) ∧ (bz_ (it_ M1 (rf_ M1 (rf_ M1 a0 0) 2) (ix_ x1)) → (K M1 (it_ M1 (rf_ M1 (rf_ M1 a0 0) 2) (ix_ x1)))))))))
set_option maxHeartbeats 4000000 in
set_option maxRecDepth 100000 in
theorem mt_X10_isAlive {l : Launch} {D : Dd_} {M : Mm} {a0 : Nat} {x1 : Int32} {K : Mm → Int32 → Prop} (hw : wp_X10_isAlive a0 x1 M K) (sz : Nat) : Met l yX10_isAlive (Cond.code yX10_isAlive cX10_isAlive 2 (some .boolean) :: tbG_) rmX10_isAlive (cPc_ D M sz [.ref a0, .int x1]) (va_Qi (fun r M' => K M' r ∧ bz_ r) (cB_ D M sz) (Aw_ M sz)) 0 0 (Aw_ M sz) := by
  refine ofV (by decide) (Nat.le_of_ble_eq_true rfl) ?_
  intro p e s m below meth c g hr hin hsz
  subst hsz
  obtain ⟨hp0, hw⟩ := hw
  refine r_aload_n g dX10_isAlive_0 rfl 0 rfl ?_
  refine r_iload_n g dX10_isAlive_1 rfl 1 rfl ?_
  refine r_callVv (As := [.int x1]) g (fun sz => mt_X10_needRow hw sz) tw_686 tw_689 tw_1 tw_688 tp_15 (ci := 11) (T := TX10) (N := 6) rfl hp0 hy_X10_needRow ⟨rfl, rfl⟩ (Nat.le_of_ble_eq_true rfl) (Nat.le_of_ble_eq_true rfl) (Nat.le_of_ble_eq_true rfl) (Nat.le_of_ble_eq_true rfl) (Nat.le_of_ble_eq_true rfl) rfl dX10_isAlive_2 (fun M1 hK2 hN3 => ?_)
  have hw := hK2 hN3
  have hk4 := Nk_.k hN3 hp0 (by decide)
  have hT5 := Nk_.tr (Nk_.rf _) hN3
  refine r_aload_n g dX10_isAlive_5 rfl 0 rfl ?_
  obtain ⟨hk6, hw⟩ := hw
  refine r_gtR (C := RX10) (T := TX10) (N := 6) g (ci := 11) rfl tc_X10 hk4 0 (by decide) tw_334 (fun _ h => h) rfl (k_ne hk6 (by decide)) dX10_isAlive_6 ?_
  obtain ⟨hk7, hw⟩ := hw
  refine r_gtR (C := RX8) (T := TX8) (N := 11) g (ci := 9) rfl tc_X8 hk6 2 (by decide) tw_170 (fun _ h => h) rfl (k_ne hk7 (by decide)) dX10_isAlive_9 ?_
  refine r_iload_n g dX10_isAlive_12 rfl 1 rfl ?_
  obtain ⟨hi8, hw⟩ := hw
  refine r_zald g hk7 hi8 dX10_isAlive_13 (fun hb9 => ?_)
  have hw := hw hb9
  exact r_zret g hr (Nat.le_of_ble_eq_true rfl) (Nat.le_of_ble_eq_true rfl) rfl hb9 dX10_isAlive_14 hw
def rmX10_isNull : Room := { frames := 3, cells := 0, slots := 0, locals := 64 }
theorem hy_X10_isNull : yX10_isNull.cls ≠ "java/lang/invoke/MethodHandle" ∧ yX10_isNull.cls ≠ "java/lang/invoke/VarHandle" ∧ (parseMethodDescriptor yX10_isNull.desc).map (fun d => d.parameters.length) = some 2 := by decide +kernel
def wp_X10_isNull (a0 : Nat) (x1 : Int32) (x2 : Int32) (M : Mm) (K : Mm → Int32 → Prop) : Prop := kd_ M a0 = 12 ∧ (wp_X10_needRow a0 x1 M (fun M1 => Nk_ M M1 → (wp_X10_needColumn a0 x2 M1 (fun M6 => Nk_ M1 M6 → (kd_ M6 (rf_ M6 a0 0) = 10 ∧ (kd_ M6 (rf_ M6 (rf_ M6 a0 0) 0) = 1 ∧ (wp_Jx4a65c_get_915e3 (rf_ M6 (rf_ M6 a0 0) 0) x2 M6 (fun M13 r14 => Nk_ M6 M13 → (kd_ M13 r14 = 3 ∧ (kd_ M13 (rf_ M13 r14 1) = 21 ∧ (vp_in x1 (ln_ M13 (rf_ M13 r14 1)) ∧ (bz_ (it_ M13 (rf_ M13 r14 1) (ix_ x1)) → (K M13 (it_ M13 (rf_ M13 r14 1) (ix_ x1)))))))))))))))
set_option maxHeartbeats 4000000 in
set_option maxRecDepth 100000 in
theorem mt_X10_isNull {l : Launch} {D : Dd_} {M : Mm} {a0 : Nat} {x1 : Int32} {x2 : Int32} {K : Mm → Int32 → Prop} (hw : wp_X10_isNull a0 x1 x2 M K) (sz : Nat) : Met l yX10_isNull (Cond.code yX10_isNull cX10_isNull 3 (some .boolean) :: tbG_) rmX10_isNull (cPc_ D M sz [.ref a0, .int x1, .int x2]) (va_Qi (fun r M' => K M' r ∧ bz_ r) (cB_ D M sz) (Aw_ M sz)) 0 0 (Aw_ M sz) := by
  refine ofV (by decide) (Nat.le_of_ble_eq_true rfl) ?_
  intro p e s m below meth c g hr hin hsz
  subst hsz
  obtain ⟨hp0, hw⟩ := hw
  refine r_aload_n g dX10_isNull_0 rfl 0 rfl ?_
  refine r_iload_n g dX10_isNull_1 rfl 1 rfl ?_
  refine r_callVv (As := [.int x1]) g (fun sz => mt_X10_needRow hw sz) tw_686 tw_689 tw_1 tw_688 tp_15 (ci := 11) (T := TX10) (N := 6) rfl hp0 hy_X10_needRow ⟨rfl, rfl⟩ (Nat.le_of_ble_eq_true rfl) (Nat.le_of_ble_eq_true rfl) (Nat.le_of_ble_eq_true rfl) (Nat.le_of_ble_eq_true rfl) (Nat.le_of_ble_eq_true rfl) rfl dX10_isNull_2 (fun M1 hK2 hN3 => ?_)
  have hw := hK2 hN3
  have hk4 := Nk_.k hN3 hp0 (by decide)
  have hT5 := Nk_.tr (Nk_.rf _) hN3
  refine r_aload_n g dX10_isNull_5 rfl 0 rfl ?_
  refine r_iload_n g dX10_isNull_6 rfl 2 rfl ?_
  refine r_callVv (As := [.int x2]) g (fun sz => mt_X10_needColumn hw sz) tw_714 tw_717 tw_1 tw_716 tp_16 (ci := 11) (T := TX10) (N := 6) rfl hk4 hy_X10_needColumn ⟨rfl, rfl⟩ (Nat.le_of_ble_eq_true rfl) (Nat.le_of_ble_eq_true rfl) (Nat.le_of_ble_eq_true rfl) (Nat.le_of_ble_eq_true rfl) (Nat.le_of_ble_eq_true rfl) rfl dX10_isNull_7 (fun M6 hK7 hN8 => ?_)
  have hw := hK7 hN8
  have hk9 := Nk_.k hN8 hk4 (by decide)
  have hT10 := Nk_.tr hT5 hN8
  refine r_aload_n g dX10_isNull_10 rfl 0 rfl ?_
  obtain ⟨hk11, hw⟩ := hw
  refine r_gtR (C := RX10) (T := TX10) (N := 6) g (ci := 11) rfl tc_X10 hk9 0 (by decide) tw_334 (fun _ h => h) rfl (k_ne hk11 (by decide)) dX10_isNull_11 ?_
  obtain ⟨hk12, hw⟩ := hw
  refine r_gtR (C := RX8) (T := TX8) (N := 11) g (ci := 9) rfl tc_X8 hk11 0 (by decide) tw_164 (fun _ h => h) rfl (k_ne hk12 (by decide)) dX10_isNull_14 ?_
  refine r_iload_n g dX10_isNull_17 rfl 2 rfl ?_
  refine r_callVr (As := [.int x2]) g (fun sz => mt_Jx4a65c_get_915e3 hw sz) tw_651 tw_543 tw_5 tw_541 tw_542 (ci := 0) (T := TJx4a65c) (N := 3) rfl hk12 hy_Jx4a65c_get_915e3 ⟨rfl, rfl⟩ (Nat.le_of_ble_eq_true rfl) (Nat.le_of_ble_eq_true rfl) (Nat.le_of_ble_eq_true rfl) (Nat.le_of_ble_eq_true rfl) (Nat.le_of_ble_eq_true rfl) rfl dX10_isNull_18 (fun M13 r14 hK15 h17 hN16 => ?_)
  have hw := hK15 hN16
  have hk18 := Nk_.k hN16 hk9 (by decide)
  have hT19 := Nk_.tr hT10 hN16
  obtain ⟨hk20, hw⟩ := hw
  refine r_cast (C := RX1) (T := TX1) (N := 5) g (ci := 2) rfl tw_430 hk20 dX10_isNull_21 ?_
  obtain ⟨hk21, hw⟩ := hw
  refine r_gtR (C := RX1) (T := TX1) (N := 5) g (ci := 2) rfl tc_X1 hk20 1 (by decide) tw_447 (fun _ h => h) rfl (k_ne hk21 (by decide)) dX10_isNull_24 ?_
  refine r_iload_n g dX10_isNull_27 rfl 1 rfl ?_
  obtain ⟨hi22, hw⟩ := hw
  refine r_zald g hk21 hi22 dX10_isNull_28 (fun hb23 => ?_)
  have hw := hw hb23
  exact r_zret g hr (Nat.le_of_ble_eq_true rfl) (Nat.le_of_ble_eq_true rfl) rfl hb23 dX10_isNull_29 hw
def rmX10_valueOf : Room := { frames := 3, cells := 0, slots := 0, locals := 64 }
theorem hy_X10_valueOf : yX10_valueOf.cls ≠ "java/lang/invoke/MethodHandle" ∧ yX10_valueOf.cls ≠ "java/lang/invoke/VarHandle" ∧ (parseMethodDescriptor yX10_valueOf.desc).map (fun d => d.parameters.length) = some 2 := by decide +kernel
def wp_X10_valueOf (a0 : Nat) (x1 : Int32) (x2 : Int32) (M : Mm) (K : Mm → Int32 → Prop) : Prop := kd_ M a0 = 12 ∧ (wp_X10_needRow a0 x1 M (fun M1 => Nk_ M M1 → (wp_X10_needColumn a0 x2 M1 (fun M6 => Nk_ M1 M6 → (kd_ M6 (rf_ M6 a0 0) = 10 ∧ (kd_ M6 (rf_ M6 (rf_ M6 a0 0) 0) = 1 ∧ (wp_Jx4a65c_get_915e3 (rf_ M6 (rf_ M6 a0 0) 0) x2 M6 (fun M13 r14 => Nk_ M6 M13 → (kd_ M13 r14 = 3 ∧ (kd_ M13 (rf_ M13 r14 0) = 20 ∧ (vp_in x1 (ln_ M13 (rf_ M13 r14 0)) ∧ (K M13 (it_ M13 (rf_ M13 r14 0) (ix_ x1))))))))))))))
set_option maxHeartbeats 4000000 in
set_option maxRecDepth 100000 in
theorem mt_X10_valueOf {l : Launch} {D : Dd_} {M : Mm} {a0 : Nat} {x1 : Int32} {x2 : Int32} {K : Mm → Int32 → Prop} (hw : wp_X10_valueOf a0 x1 x2 M K) (sz : Nat) : Met l yX10_valueOf (Cond.code yX10_valueOf cX10_valueOf 3 (some .int) :: tbG_) rmX10_valueOf (cPc_ D M sz [.ref a0, .int x1, .int x2]) (va_Qi (fun r M' => K M' r) (cB_ D M sz) (Aw_ M sz)) 0 0 (Aw_ M sz) := by
  refine ofV (by decide) (Nat.le_of_ble_eq_true rfl) ?_
  intro p e s m below meth c g hr hin hsz
  subst hsz
  obtain ⟨hp0, hw⟩ := hw
  refine r_aload_n g dX10_valueOf_0 rfl 0 rfl ?_
  refine r_iload_n g dX10_valueOf_1 rfl 1 rfl ?_
  refine r_callVv (As := [.int x1]) g (fun sz => mt_X10_needRow hw sz) tw_686 tw_689 tw_1 tw_688 tp_15 (ci := 11) (T := TX10) (N := 6) rfl hp0 hy_X10_needRow ⟨rfl, rfl⟩ (Nat.le_of_ble_eq_true rfl) (Nat.le_of_ble_eq_true rfl) (Nat.le_of_ble_eq_true rfl) (Nat.le_of_ble_eq_true rfl) (Nat.le_of_ble_eq_true rfl) rfl dX10_valueOf_2 (fun M1 hK2 hN3 => ?_)
  have hw := hK2 hN3
  have hk4 := Nk_.k hN3 hp0 (by decide)
  have hT5 := Nk_.tr (Nk_.rf _) hN3
  refine r_aload_n g dX10_valueOf_5 rfl 0 rfl ?_
  refine r_iload_n g dX10_valueOf_6 rfl 2 rfl ?_
  refine r_callVv (As := [.int x2]) g (fun sz => mt_X10_needColumn hw sz) tw_714 tw_717 tw_1 tw_716 tp_16 (ci := 11) (T := TX10) (N := 6) rfl hk4 hy_X10_needColumn ⟨rfl, rfl⟩ (Nat.le_of_ble_eq_true rfl) (Nat.le_of_ble_eq_true rfl) (Nat.le_of_ble_eq_true rfl) (Nat.le_of_ble_eq_true rfl) (Nat.le_of_ble_eq_true rfl) rfl dX10_valueOf_7 (fun M6 hK7 hN8 => ?_)
  have hw := hK7 hN8
  have hk9 := Nk_.k hN8 hk4 (by decide)
  have hT10 := Nk_.tr hT5 hN8
  refine r_aload_n g dX10_valueOf_10 rfl 0 rfl ?_
  obtain ⟨hk11, hw⟩ := hw
  refine r_gtR (C := RX10) (T := TX10) (N := 6) g (ci := 11) rfl tc_X10 hk9 0 (by decide) tw_334 (fun _ h => h) rfl (k_ne hk11 (by decide)) dX10_valueOf_11 ?_
  obtain ⟨hk12, hw⟩ := hw
  refine r_gtR (C := RX8) (T := TX8) (N := 11) g (ci := 9) rfl tc_X8 hk11 0 (by decide) tw_164 (fun _ h => h) rfl (k_ne hk12 (by decide)) dX10_valueOf_14 ?_
  refine r_iload_n g dX10_valueOf_17 rfl 2 rfl ?_
  refine r_callVr (As := [.int x2]) g (fun sz => mt_Jx4a65c_get_915e3 hw sz) tw_651 tw_543 tw_5 tw_541 tw_542 (ci := 0) (T := TJx4a65c) (N := 3) rfl hk12 hy_Jx4a65c_get_915e3 ⟨rfl, rfl⟩ (Nat.le_of_ble_eq_true rfl) (Nat.le_of_ble_eq_true rfl) (Nat.le_of_ble_eq_true rfl) (Nat.le_of_ble_eq_true rfl) (Nat.le_of_ble_eq_true rfl) rfl dX10_valueOf_18 (fun M13 r14 hK15 h17 hN16 => ?_)
  have hw := hK15 hN16
  have hk18 := Nk_.k hN16 hk9 (by decide)
  have hT19 := Nk_.tr hT10 hN16
  obtain ⟨hk20, hw⟩ := hw
  refine r_cast (C := RX1) (T := TX1) (N := 5) g (ci := 2) rfl tw_430 hk20 dX10_valueOf_21 ?_
  obtain ⟨hk21, hw⟩ := hw
  refine r_gtR (C := RX1) (T := TX1) (N := 5) g (ci := 2) rfl tc_X1 hk20 0 (by decide) tw_441 (fun _ h => h) rfl (k_ne hk21 (by decide)) dX10_valueOf_24 ?_
  refine r_iload_n g dX10_valueOf_27 rfl 1 rfl ?_
  obtain ⟨hi22, hw⟩ := hw
  refine r_iald g (Or.inl hk21) hi22 dX10_valueOf_28 ?_
  exact r_iret g hr (Nat.le_of_ble_eq_true rfl) (Nat.le_of_ble_eq_true rfl) rfl dX10_valueOf_29 hw
def rmX10_frameOf : Room := { frames := 1, cells := 0, slots := 0, locals := 21 }
theorem hy_X10_frameOf : yX10_frameOf.cls ≠ "java/lang/invoke/MethodHandle" ∧ yX10_frameOf.cls ≠ "java/lang/invoke/VarHandle" ∧ (parseMethodDescriptor yX10_frameOf.desc).map (fun d => d.parameters.length) = some 1 := by decide +kernel
def wp_X10_frameOf (a0 : Nat) (x1 : Int32) (M : Mm) (K : Mm → Int32 → Prop) : Prop := kd_ M a0 = 12 ∧ (wp_X10_needRow a0 x1 M (fun M1 => Nk_ M M1 → (kd_ M1 (rf_ M1 a0 0) = 10 ∧ (kd_ M1 (rf_ M1 (rf_ M1 a0 0) 3) = 20 ∧ (vp_in x1 (ln_ M1 (rf_ M1 (rf_ M1 a0 0) 3)) ∧ (K M1 (it_ M1 (rf_ M1 (rf_ M1 a0 0) 3) (ix_ x1))))))))
set_option maxHeartbeats 4000000 in
set_option maxRecDepth 100000 in
theorem mt_X10_frameOf {l : Launch} {D : Dd_} {M : Mm} {a0 : Nat} {x1 : Int32} {K : Mm → Int32 → Prop} (hw : wp_X10_frameOf a0 x1 M K) (sz : Nat) : Met l yX10_frameOf (Cond.code yX10_frameOf cX10_frameOf 2 (some .int) :: tbG_) rmX10_frameOf (cPc_ D M sz [.ref a0, .int x1]) (va_Qi (fun r M' => K M' r) (cB_ D M sz) (Aw_ M sz)) 0 0 (Aw_ M sz) := by
  refine ofV (by decide) (Nat.le_of_ble_eq_true rfl) ?_
  intro p e s m below meth c g hr hin hsz
  subst hsz
  obtain ⟨hp0, hw⟩ := hw
  refine r_aload_n g dX10_frameOf_0 rfl 0 rfl ?_
  refine r_iload_n g dX10_frameOf_1 rfl 1 rfl ?_
  refine r_callVv (As := [.int x1]) g (fun sz => mt_X10_needRow hw sz) tw_686 tw_689 tw_1 tw_688 tp_15 (ci := 11) (T := TX10) (N := 6) rfl hp0 hy_X10_needRow ⟨rfl, rfl⟩ (Nat.le_of_ble_eq_true rfl) (Nat.le_of_ble_eq_true rfl) (Nat.le_of_ble_eq_true rfl) (Nat.le_of_ble_eq_true rfl) (Nat.le_of_ble_eq_true rfl) rfl dX10_frameOf_2 (fun M1 hK2 hN3 => ?_)
  have hw := hK2 hN3
  have hk4 := Nk_.k hN3 hp0 (by decide)
  have hT5 := Nk_.tr (Nk_.rf _) hN3
  refine r_aload_n g dX10_frameOf_5 rfl 0 rfl ?_
  obtain ⟨hk6, hw⟩ := hw
  refine r_gtR (C := RX10) (T := TX10) (N := 6) g (ci := 11) rfl tc_X10 hk4 0 (by decide) tw_334 (fun _ h => h) rfl (k_ne hk6 (by decide)) dX10_frameOf_6 ?_
  obtain ⟨hk7, hw⟩ := hw
  refine r_gtR (C := RX8) (T := TX8) (N := 11) g (ci := 9) rfl tc_X8 hk6 3 (by decide) tw_173 (fun _ h => h) rfl (k_ne hk7 (by decide)) dX10_frameOf_9 ?_
  refine r_iload_n g dX10_frameOf_12 rfl 1 rfl ?_
  obtain ⟨hi8, hw⟩ := hw
  refine r_iald g (Or.inl hk7) hi8 dX10_frameOf_13 ?_
  exact r_iret g hr (Nat.le_of_ble_eq_true rfl) (Nat.le_of_ble_eq_true rfl) rfl dX10_frameOf_14 hw
def rmX10_rowsIn : Room := { frames := 3, cells := 0, slots := 0, locals := 64 }
theorem hy_X10_rowsIn : yX10_rowsIn.cls ≠ "java/lang/invoke/MethodHandle" ∧ yX10_rowsIn.cls ≠ "java/lang/invoke/VarHandle" ∧ (parseMethodDescriptor yX10_rowsIn.desc).map (fun d => d.parameters.length) = some 1 := by decide +kernel
def wp_X10_rowsIn (a0 : Nat) (x1 : Int32) (M : Mm) (K : Mm → Int32 → Prop) : Prop := kd_ M a0 = 12 ∧ (wp_X10_needFrame a0 x1 M (fun M1 => Nk_ M M1 → (kd_ M1 (rf_ M1 a0 0) = 10 ∧ (kd_ M1 (rf_ M1 (rf_ M1 a0 0) 1) = 1 ∧ (wp_Jx4a65c_get_915e3 (rf_ M1 (rf_ M1 a0 0) 1) x1 M1 (fun M8 r9 => Nk_ M1 M8 → (kd_ M8 r9 = 2 ∧ (K M8 (it_ M8 r9 2)))))))))
set_option maxHeartbeats 4000000 in
set_option maxRecDepth 100000 in
theorem mt_X10_rowsIn {l : Launch} {D : Dd_} {M : Mm} {a0 : Nat} {x1 : Int32} {K : Mm → Int32 → Prop} (hw : wp_X10_rowsIn a0 x1 M K) (sz : Nat) : Met l yX10_rowsIn (Cond.code yX10_rowsIn cX10_rowsIn 2 (some .int) :: tbG_) rmX10_rowsIn (cPc_ D M sz [.ref a0, .int x1]) (va_Qi (fun r M' => K M' r) (cB_ D M sz) (Aw_ M sz)) 0 0 (Aw_ M sz) := by
  refine ofV (by decide) (Nat.le_of_ble_eq_true rfl) ?_
  intro p e s m below meth c g hr hin hsz
  subst hsz
  obtain ⟨hp0, hw⟩ := hw
  refine r_aload_n g dX10_rowsIn_0 rfl 0 rfl ?_
  refine r_iload_n g dX10_rowsIn_1 rfl 1 rfl ?_
  refine r_callVv (As := [.int x1]) g (fun sz => mt_X10_needFrame hw sz) tw_846 tw_849 tw_1 tw_848 tp_25 (ci := 11) (T := TX10) (N := 6) rfl hp0 hy_X10_needFrame ⟨rfl, rfl⟩ (Nat.le_of_ble_eq_true rfl) (Nat.le_of_ble_eq_true rfl) (Nat.le_of_ble_eq_true rfl) (Nat.le_of_ble_eq_true rfl) (Nat.le_of_ble_eq_true rfl) rfl dX10_rowsIn_2 (fun M1 hK2 hN3 => ?_)
  have hw := hK2 hN3
  have hk4 := Nk_.k hN3 hp0 (by decide)
  have hT5 := Nk_.tr (Nk_.rf _) hN3
  refine r_aload_n g dX10_rowsIn_5 rfl 0 rfl ?_
  obtain ⟨hk6, hw⟩ := hw
  refine r_gtR (C := RX10) (T := TX10) (N := 6) g (ci := 11) rfl tc_X10 hk4 0 (by decide) tw_334 (fun _ h => h) rfl (k_ne hk6 (by decide)) dX10_rowsIn_6 ?_
  obtain ⟨hk7, hw⟩ := hw
  refine r_gtR (C := RX8) (T := TX8) (N := 11) g (ci := 9) rfl tc_X8 hk6 1 (by decide) tw_168 (fun _ h => h) rfl (k_ne hk7 (by decide)) dX10_rowsIn_9 ?_
  refine r_iload_n g dX10_rowsIn_12 rfl 1 rfl ?_
  refine r_callVr (As := [.int x1]) g (fun sz => mt_Jx4a65c_get_915e3 hw sz) tw_651 tw_543 tw_5 tw_541 tw_542 (ci := 0) (T := TJx4a65c) (N := 3) rfl hk7 hy_Jx4a65c_get_915e3 ⟨rfl, rfl⟩ (Nat.le_of_ble_eq_true rfl) (Nat.le_of_ble_eq_true rfl) (Nat.le_of_ble_eq_true rfl) (Nat.le_of_ble_eq_true rfl) (Nat.le_of_ble_eq_true rfl) rfl dX10_rowsIn_13 (fun M8 r9 hK10 h12 hN11 => ?_)
  have hw := hK10 hN11
  have hk13 := Nk_.k hN11 hk4 (by decide)
  have hT14 := Nk_.tr hT5 hN11
  obtain ⟨hk15, hw⟩ := hw
  refine r_cast (C := RX0) (T := TX0) (N := 4) g (ci := 1) rfl tw_656 hk15 dX10_rowsIn_16 ?_
  refine r_gt (C := RX0) (T := TX0) (N := 4) g (ci := 1) rfl tc_X0 hk15 2 (by decide) tw_150 (fun _ h => h) rfl dX10_rowsIn_19 ?_
  exact r_iret g hr (Nat.le_of_ble_eq_true rfl) (Nat.le_of_ble_eq_true rfl) rfl dX10_rowsIn_22 hw
def rmX10_rowAt : Room := { frames := 3, cells := 0, slots := 0, locals := 64 }
theorem hy_X10_rowAt : yX10_rowAt.cls ≠ "java/lang/invoke/MethodHandle" ∧ yX10_rowAt.cls ≠ "java/lang/invoke/VarHandle" ∧ (parseMethodDescriptor yX10_rowAt.desc).map (fun d => d.parameters.length) = some 2 := by decide +kernel
def wp_X10_rowAt (a0 : Nat) (x1 : Int32) (x2 : Int32) (M : Mm) (K : Mm → Int32 → Prop) : Prop := kd_ M a0 = 12 ∧ (wp_X10_needFrame a0 x1 M (fun M1 => Nk_ M M1 → (kd_ M1 (rf_ M1 a0 0) = 10 ∧ (kd_ M1 (rf_ M1 (rf_ M1 a0 0) 1) = 1 ∧ (wp_Jx4a65c_get_915e3 (rf_ M1 (rf_ M1 a0 0) 1) x1 M1 (fun M8 r9 => Nk_ M1 M8 → (kd_ M8 r9 = 2 ∧ ((x2 < 0 → False) ∧ (¬ x2 < 0 → ((x2 < (it_ M8 r9 2) → (kd_ M8 (rf_ M8 r9 0) = 20 ∧ (vp_in x2 (ln_ M8 (rf_ M8 r9 0)) ∧ (K M8 (it_ M8 (rf_ M8 r9 0) (ix_ x2)))))) ∧ (¬ x2 < (it_ M8 r9 2) → False)))))))))))
set_option maxHeartbeats 4000000 in
set_option maxRecDepth 100000 in
theorem mt_X10_rowAt {l : Launch} {D : Dd_} {M : Mm} {a0 : Nat} {x1 : Int32} {x2 : Int32} {K : Mm → Int32 → Prop} (hw : wp_X10_rowAt a0 x1 x2 M K) (sz : Nat) : Met l yX10_rowAt (Cond.code yX10_rowAt cX10_rowAt 4 (some .int) :: tbG_) rmX10_rowAt (cPc_ D M sz [.ref a0, .int x1, .int x2]) (va_Qi (fun r M' => K M' r) (cB_ D M sz) (Aw_ M sz)) 0 0 (Aw_ M sz) := by
  refine ofV (by decide) (Nat.le_of_ble_eq_true rfl) ?_
  intro p e s m below meth c g hr hin hsz
  subst hsz
  obtain ⟨hp0, hw⟩ := hw
  refine r_aload_n g dX10_rowAt_0 rfl 0 rfl ?_
  refine r_iload_n g dX10_rowAt_1 rfl 1 rfl ?_
  refine r_callVv (As := [.int x1]) g (fun sz => mt_X10_needFrame hw sz) tw_846 tw_849 tw_1 tw_848 tp_25 (ci := 11) (T := TX10) (N := 6) rfl hp0 hy_X10_needFrame ⟨rfl, rfl⟩ (Nat.le_of_ble_eq_true rfl) (Nat.le_of_ble_eq_true rfl) (Nat.le_of_ble_eq_true rfl) (Nat.le_of_ble_eq_true rfl) (Nat.le_of_ble_eq_true rfl) rfl dX10_rowAt_2 (fun M1 hK2 hN3 => ?_)
  have hw := hK2 hN3
  have hk4 := Nk_.k hN3 hp0 (by decide)
  have hT5 := Nk_.tr (Nk_.rf _) hN3
  refine r_aload_n g dX10_rowAt_5 rfl 0 rfl ?_
  obtain ⟨hk6, hw⟩ := hw
  refine r_gtR (C := RX10) (T := TX10) (N := 6) g (ci := 11) rfl tc_X10 hk4 0 (by decide) tw_334 (fun _ h => h) rfl (k_ne hk6 (by decide)) dX10_rowAt_6 ?_
  obtain ⟨hk7, hw⟩ := hw
  refine r_gtR (C := RX8) (T := TX8) (N := 11) g (ci := 9) rfl tc_X8 hk6 1 (by decide) tw_168 (fun _ h => h) rfl (k_ne hk7 (by decide)) dX10_rowAt_9 ?_
  refine r_iload_n g dX10_rowAt_12 rfl 1 rfl ?_
  refine r_callVr (As := [.int x1]) g (fun sz => mt_Jx4a65c_get_915e3 hw sz) tw_651 tw_543 tw_5 tw_541 tw_542 (ci := 0) (T := TJx4a65c) (N := 3) rfl hk7 hy_Jx4a65c_get_915e3 ⟨rfl, rfl⟩ (Nat.le_of_ble_eq_true rfl) (Nat.le_of_ble_eq_true rfl) (Nat.le_of_ble_eq_true rfl) (Nat.le_of_ble_eq_true rfl) (Nat.le_of_ble_eq_true rfl) rfl dX10_rowAt_13 (fun M8 r9 hK10 h12 hN11 => ?_)
  have hw := hK10 hN11
  have hk13 := Nk_.k hN11 hk4 (by decide)
  have hT14 := Nk_.tr hT5 hN11
  obtain ⟨hk15, hw⟩ := hw
  refine r_cast (C := RX0) (T := TX0) (N := 4) g (ci := 1) rfl tw_656 hk15 dX10_rowAt_16 ?_
  refine r_astore_n (L' := [(3, .ref r9), (0, .ref a0), (1, .int x1), (2, .int x2)]) g dX10_rowAt_19 rfl (by decide) rfl ?_
  refine r_iload_n g dX10_rowAt_20 rfl 3 rfl ?_
  refine r_if_lt (tgt := 32) g dX10_rowAt_21 (by decide) (fun hc16 => ?_) (fun hc16 => ?_)
  · have hw := hw.1 hc16
    exact hw.elim
  · have hw := hw.2 hc16
    refine r_iload_n g dX10_rowAt_24 rfl 3 rfl ?_
    refine r_aload_n g dX10_rowAt_25 rfl 0 rfl ?_
    refine r_gt (C := RX0) (T := TX0) (N := 4) g (ci := 1) rfl tc_X0 hk15 2 (by decide) tw_150 (fun _ h => h) rfl dX10_rowAt_26 ?_
    refine r_icmp_lt (tgt := 42) g dX10_rowAt_29 (by decide) (fun hc20 => ?_) (fun hc20 => ?_)
    · have hw := hw.1 hc20
      refine r_aload_n g dX10_rowAt_42 rfl 0 rfl ?_
      obtain ⟨hk21, hw⟩ := hw
      refine r_gtR (C := RX0) (T := TX0) (N := 4) g (ci := 1) rfl tc_X0 hk15 0 (by decide) tw_142 (fun _ h => h) rfl (k_ne hk21 (by decide)) dX10_rowAt_43 ?_
      refine r_iload_n g dX10_rowAt_46 rfl 3 rfl ?_
      obtain ⟨hi22, hw⟩ := hw
      refine r_iald g (Or.inl hk21) hi22 dX10_rowAt_47 ?_
      exact r_iret g hr (Nat.le_of_ble_eq_true rfl) (Nat.le_of_ble_eq_true rfl) rfl dX10_rowAt_48 hw
    · have hw := hw.2 hc20
      exact hw.elim
def rmX10_formOf : Room := { frames := 4, cells := 0, slots := 0, locals := 86 }
theorem hy_X10_formOf : yX10_formOf.cls ≠ "java/lang/invoke/MethodHandle" ∧ yX10_formOf.cls ≠ "java/lang/invoke/VarHandle" ∧ (parseMethodDescriptor yX10_formOf.desc).map (fun d => d.parameters.length) = some 2 := by decide +kernel
def wp_X10_formOf (a0 : Nat) (x1 : Int32) (x2 : Int32) (M : Mm) (K : Mm → Int32 → Prop) : Prop := kd_ M a0 = 12 ∧ (wp_X10_zoneOf a0 x1 x2 M (fun M1 r2 => Nk_ M M1 → (kd_ M1 r2 = 11 ∧ (K M1 (it_ M1 r2 6)))))
set_option maxHeartbeats 4000000 in
set_option maxRecDepth 100000 in
theorem mt_X10_formOf {l : Launch} {D : Dd_} {M : Mm} {a0 : Nat} {x1 : Int32} {x2 : Int32} {K : Mm → Int32 → Prop} (hw : wp_X10_formOf a0 x1 x2 M K) (sz : Nat) : Met l yX10_formOf (Cond.code yX10_formOf cX10_formOf 3 (some .int) :: tbG_) rmX10_formOf (cPc_ D M sz [.ref a0, .int x1, .int x2]) (va_Qi (fun r M' => K M' r) (cB_ D M sz) (Aw_ M sz)) 0 0 (Aw_ M sz) := by
  refine ofV (by decide) (Nat.le_of_ble_eq_true rfl) ?_
  intro p e s m below meth c g hr hin hsz
  subst hsz
  obtain ⟨hp0, hw⟩ := hw
  refine r_aload_n g dX10_formOf_0 rfl 0 rfl ?_
  refine r_iload_n g dX10_formOf_1 rfl 1 rfl ?_
  refine r_iload_n g dX10_formOf_2 rfl 2 rfl ?_
  refine r_callVr (As := [.int x1, .int x2]) g (fun sz => mt_X10_zoneOf hw sz) tw_977 tw_980 tw_1 tw_979 tp_28 (ci := 11) (T := TX10) (N := 6) rfl hp0 hy_X10_zoneOf ⟨rfl, rfl⟩ (Nat.le_of_ble_eq_true rfl) (Nat.le_of_ble_eq_true rfl) (Nat.le_of_ble_eq_true rfl) (Nat.le_of_ble_eq_true rfl) (Nat.le_of_ble_eq_true rfl) rfl dX10_formOf_3 (fun M1 r2 hK3 h5 hN4 => ?_)
  have hw := hK3 hN4
  have hk6 := Nk_.k hN4 hp0 (by decide)
  have hT7 := Nk_.tr (Nk_.rf _) hN4
  obtain ⟨hk8, hw⟩ := hw
  refine r_gt (C := RX9) (T := TX9) (N := 9) g (ci := 10) rfl tc_X9 hk8 6 (by decide) tw_117 (fun _ h => h) rfl dX10_formOf_6 ?_
  exact r_iret g hr (Nat.le_of_ble_eq_true rfl) (Nat.le_of_ble_eq_true rfl) rfl dX10_formOf_9 hw
def rmX10_bytesAs : Room := { frames := 4, cells := 0, slots := 0, locals := 86 }
theorem hy_X10_bytesAs : yX10_bytesAs.cls ≠ "java/lang/invoke/MethodHandle" ∧ yX10_bytesAs.cls ≠ "java/lang/invoke/VarHandle" ∧ (parseMethodDescriptor yX10_bytesAs.desc).map (fun d => d.parameters.length) = some 3 := by decide +kernel
def wp_X10_bytesAs (a0 : Nat) (x1 : Int32) (x2 : Int32) (x3 : Int32) (M : Mm) (K : Mm → Int32 → Prop) : Prop := kd_ M a0 = 12 ∧ (wp_X10_zoneOf a0 x1 x2 M (fun M1 r2 => Nk_ M M1 → (kd_ M1 r2 = 11 ∧ ((x3 < 0 → False) ∧ (¬ x3 < 0 → ((x3 < (5 : Int32) → (wp_X9_bytesIn r2 x3 M1 (fun M14 r15 => Nk_ M1 M14 → (K M14 r15)))) ∧ (¬ x3 < (5 : Int32) → False)))))))
set_option maxHeartbeats 4000000 in
set_option maxRecDepth 100000 in
theorem mt_X10_bytesAs {l : Launch} {D : Dd_} {M : Mm} {a0 : Nat} {x1 : Int32} {x2 : Int32} {x3 : Int32} {K : Mm → Int32 → Prop} (hw : wp_X10_bytesAs a0 x1 x2 x3 M K) (sz : Nat) : Met l yX10_bytesAs (Cond.code yX10_bytesAs cX10_bytesAs 5 (some .int) :: tbG_) rmX10_bytesAs (cPc_ D M sz [.ref a0, .int x1, .int x2, .int x3]) (va_Qi (fun r M' => K M' r) (cB_ D M sz) (Aw_ M sz)) 0 0 (Aw_ M sz) := by
  refine ofV (by decide) (Nat.le_of_ble_eq_true rfl) ?_
  intro p e s m below meth c g hr hin hsz
  subst hsz
  obtain ⟨hp0, hw⟩ := hw
  refine r_aload_n g dX10_bytesAs_0 rfl 0 rfl ?_
  refine r_iload_n g dX10_bytesAs_1 rfl 1 rfl ?_
  refine r_iload_n g dX10_bytesAs_2 rfl 2 rfl ?_
  refine r_callVr (As := [.int x1, .int x2]) g (fun sz => mt_X10_zoneOf hw sz) tw_977 tw_980 tw_1 tw_979 tp_28 (ci := 11) (T := TX10) (N := 6) rfl hp0 hy_X10_zoneOf ⟨rfl, rfl⟩ (Nat.le_of_ble_eq_true rfl) (Nat.le_of_ble_eq_true rfl) (Nat.le_of_ble_eq_true rfl) (Nat.le_of_ble_eq_true rfl) (Nat.le_of_ble_eq_true rfl) rfl dX10_bytesAs_3 (fun M1 r2 hK3 h5 hN4 => ?_)
  have hw := hK3 hN4
  have hk6 := Nk_.k hN4 hp0 (by decide)
  have hT7 := Nk_.tr (Nk_.rf _) hN4
  obtain ⟨hk8, hw⟩ := hw
  refine r_astore (L' := [(4, .ref r2), (0, .ref a0), (1, .int x1), (2, .int x2), (3, .int x3)]) g dX10_bytesAs_6 (by decide) rfl ?_
  refine r_iload_n g dX10_bytesAs_8 rfl 4 rfl ?_
  refine r_if_lt (tgt := 17) g dX10_bytesAs_9 (by decide) (fun hc9 => ?_) (fun hc9 => ?_)
  · have hw := hw.1 hc9
    exact hw.elim
  · have hw := hw.2 hc9
    refine r_iload_n g dX10_bytesAs_12 rfl 4 rfl ?_
    refine r_iconst (v := 5) g dX10_bytesAs_13 (by decide) ?_
    refine r_icmp_lt (tgt := 27) g dX10_bytesAs_14 (by decide) (fun hc13 => ?_) (fun hc13 => ?_)
    · have hw := hw.1 hc13
      refine r_aload g dX10_bytesAs_27 0 rfl ?_
      refine r_iload_n g dX10_bytesAs_29 rfl 4 rfl ?_
      refine r_callVi (As := [.int x3]) g (fun sz => mt_X9_bytesIn hw sz) tw_1003 tw_802 tw_8 tw_800 tw_801 (ci := 10) (T := TX9) (N := 9) rfl hk8 hy_X9_bytesIn ⟨rfl, rfl⟩ (Nat.le_of_ble_eq_true rfl) (Nat.le_of_ble_eq_true rfl) (Nat.le_of_ble_eq_true rfl) (Nat.le_of_ble_eq_true rfl) (Nat.le_of_ble_eq_true rfl) rfl dX10_bytesAs_30 (fun M14 r15 hK16 hN17 => ?_)
      have hw := hK16 hN17
      have hk18 := Nk_.k hN17 hk6 (by decide)
      have hT19 := Nk_.tr hT7 hN17
      exact r_iret g hr (Nat.le_of_ble_eq_true rfl) (Nat.le_of_ble_eq_true rfl) rfl dX10_bytesAs_33 hw
    · have hw := hw.2 hc13
      exact hw.elim
def rmX10_bytes : Room := { frames := 3, cells := 0, slots := 0, locals := 64 }
theorem hy_X10_bytes : yX10_bytes.cls ≠ "java/lang/invoke/MethodHandle" ∧ yX10_bytes.cls ≠ "java/lang/invoke/VarHandle" ∧ (parseMethodDescriptor yX10_bytes.desc).map (fun d => d.parameters.length) = some 1 := by decide +kernel
def wp_X10_bytes (a0 : Nat) (x1 : Int32) (M : Mm) (K : Mm → Int32 → Prop) : Prop := kd_ M a0 = 12 ∧ (wp_X10_needFrame a0 x1 M (fun M1 => Nk_ M M1 → (kd_ M1 (rf_ M1 a0 0) = 10 ∧ (kd_ M1 (rf_ M1 (rf_ M1 a0 0) 1) = 1 ∧ (wp_Jx4a65c_get_915e3 (rf_ M1 (rf_ M1 a0 0) 1) x1 M1 (fun M8 r9 => Nk_ M1 M8 → (kd_ M8 r9 = 2 ∧ (K M8 (it_ M8 r9 3)))))))))
set_option maxHeartbeats 4000000 in
set_option maxRecDepth 100000 in
theorem mt_X10_bytes {l : Launch} {D : Dd_} {M : Mm} {a0 : Nat} {x1 : Int32} {K : Mm → Int32 → Prop} (hw : wp_X10_bytes a0 x1 M K) (sz : Nat) : Met l yX10_bytes (Cond.code yX10_bytes cX10_bytes 2 (some .int) :: tbG_) rmX10_bytes (cPc_ D M sz [.ref a0, .int x1]) (va_Qi (fun r M' => K M' r) (cB_ D M sz) (Aw_ M sz)) 0 0 (Aw_ M sz) := by
  refine ofV (by decide) (Nat.le_of_ble_eq_true rfl) ?_
  intro p e s m below meth c g hr hin hsz
  subst hsz
  obtain ⟨hp0, hw⟩ := hw
  refine r_aload_n g dX10_bytes_0 rfl 0 rfl ?_
  refine r_iload_n g dX10_bytes_1 rfl 1 rfl ?_
  refine r_callVv (As := [.int x1]) g (fun sz => mt_X10_needFrame hw sz) tw_846 tw_849 tw_1 tw_848 tp_25 (ci := 11) (T := TX10) (N := 6) rfl hp0 hy_X10_needFrame ⟨rfl, rfl⟩ (Nat.le_of_ble_eq_true rfl) (Nat.le_of_ble_eq_true rfl) (Nat.le_of_ble_eq_true rfl) (Nat.le_of_ble_eq_true rfl) (Nat.le_of_ble_eq_true rfl) rfl dX10_bytes_2 (fun M1 hK2 hN3 => ?_)
  have hw := hK2 hN3
  have hk4 := Nk_.k hN3 hp0 (by decide)
  have hT5 := Nk_.tr (Nk_.rf _) hN3
  refine r_aload_n g dX10_bytes_5 rfl 0 rfl ?_
  obtain ⟨hk6, hw⟩ := hw
  refine r_gtR (C := RX10) (T := TX10) (N := 6) g (ci := 11) rfl tc_X10 hk4 0 (by decide) tw_334 (fun _ h => h) rfl (k_ne hk6 (by decide)) dX10_bytes_6 ?_
  obtain ⟨hk7, hw⟩ := hw
  refine r_gtR (C := RX8) (T := TX8) (N := 11) g (ci := 9) rfl tc_X8 hk6 1 (by decide) tw_168 (fun _ h => h) rfl (k_ne hk7 (by decide)) dX10_bytes_9 ?_
  refine r_iload_n g dX10_bytes_12 rfl 1 rfl ?_
  refine r_callVr (As := [.int x1]) g (fun sz => mt_Jx4a65c_get_915e3 hw sz) tw_651 tw_543 tw_5 tw_541 tw_542 (ci := 0) (T := TJx4a65c) (N := 3) rfl hk7 hy_Jx4a65c_get_915e3 ⟨rfl, rfl⟩ (Nat.le_of_ble_eq_true rfl) (Nat.le_of_ble_eq_true rfl) (Nat.le_of_ble_eq_true rfl) (Nat.le_of_ble_eq_true rfl) (Nat.le_of_ble_eq_true rfl) rfl dX10_bytes_13 (fun M8 r9 hK10 h12 hN11 => ?_)
  have hw := hK10 hN11
  have hk13 := Nk_.k hN11 hk4 (by decide)
  have hT14 := Nk_.tr hT5 hN11
  obtain ⟨hk15, hw⟩ := hw
  refine r_cast (C := RX0) (T := TX0) (N := 4) g (ci := 1) rfl tw_656 hk15 dX10_bytes_16 ?_
  refine r_gt (C := RX0) (T := TX0) (N := 4) g (ci := 1) rfl tc_X0 hk15 3 (by decide) tw_153 (fun _ h => h) rfl dX10_bytes_19 ?_
  exact r_iret g hr (Nat.le_of_ble_eq_true rfl) (Nat.le_of_ble_eq_true rfl) rfl dX10_bytes_22 hw
def rmX10_bitmapBytes : Room := { frames := 4, cells := 0, slots := 0, locals := 87 }
theorem hy_X10_bitmapBytes : yX10_bitmapBytes.cls ≠ "java/lang/invoke/MethodHandle" ∧ yX10_bitmapBytes.cls ≠ "java/lang/invoke/VarHandle" ∧ (parseMethodDescriptor yX10_bitmapBytes.desc).map (fun d => d.parameters.length) = some 0 := by decide +kernel
def wp_X10_bitmapBytes (a0 : Nat) (M : Mm) (K : Mm → Int32 → Prop) : Prop := kd_ M a0 = 12 ∧ (kd_ M (rf_ M a0 0) = 10 ∧ (wp_X8_bytesOfBitmaps (rf_ M a0 0) M (fun M2 r3 => Nk_ M M2 → (K M2 r3))))
set_option maxHeartbeats 4000000 in
set_option maxRecDepth 100000 in
theorem mt_X10_bitmapBytes {l : Launch} {D : Dd_} {M : Mm} {a0 : Nat} {K : Mm → Int32 → Prop} (hw : wp_X10_bitmapBytes a0 M K) (sz : Nat) : Met l yX10_bitmapBytes (Cond.code yX10_bitmapBytes cX10_bitmapBytes 1 (some .int) :: tbG_) rmX10_bitmapBytes (cPc_ D M sz [.ref a0]) (va_Qi (fun r M' => K M' r) (cB_ D M sz) (Aw_ M sz)) 0 0 (Aw_ M sz) := by
  refine ofV (by decide) (Nat.le_of_ble_eq_true rfl) ?_
  intro p e s m below meth c g hr hin hsz
  subst hsz
  obtain ⟨hp0, hw⟩ := hw
  refine r_aload_n g dX10_bitmapBytes_0 rfl 0 rfl ?_
  obtain ⟨hk1, hw⟩ := hw
  refine r_gtR (C := RX10) (T := TX10) (N := 6) g (ci := 11) rfl tc_X10 hp0 0 (by decide) tw_334 (fun _ h => h) rfl (k_ne hk1 (by decide)) dX10_bitmapBytes_1 ?_
  refine r_callVi (As := []) g (fun sz => mt_X8_bytesOfBitmaps hw sz) tw_632 tw_635 tw_2 tw_633 tw_634 (ci := 9) (T := TX8) (N := 11) rfl hk1 hy_X8_bytesOfBitmaps ⟨rfl, rfl⟩ (Nat.le_of_ble_eq_true rfl) (Nat.le_of_ble_eq_true rfl) (Nat.le_of_ble_eq_true rfl) (Nat.le_of_ble_eq_true rfl) (Nat.le_of_ble_eq_true rfl) rfl dX10_bitmapBytes_4 (fun M2 r3 hK4 hN5 => ?_)
  have hw := hK4 hN5
  have hk6 := Nk_.k hN5 hp0 (by decide)
  have hT7 := Nk_.tr (Nk_.rf _) hN5
  exact r_iret g hr (Nat.le_of_ble_eq_true rfl) (Nat.le_of_ble_eq_true rfl) rfl dX10_bitmapBytes_7 hw
def rmX10_nulls : Room := { frames := 4, cells := 0, slots := 0, locals := 86 }
theorem hy_X10_nulls : yX10_nulls.cls ≠ "java/lang/invoke/MethodHandle" ∧ yX10_nulls.cls ≠ "java/lang/invoke/VarHandle" ∧ (parseMethodDescriptor yX10_nulls.desc).map (fun d => d.parameters.length) = some 2 := by decide +kernel
def wp_X10_nulls (a0 : Nat) (x1 : Int32) (x2 : Int32) (M : Mm) (K : Mm → Int32 → Prop) : Prop := kd_ M a0 = 12 ∧ (wp_X10_zoneOf a0 x1 x2 M (fun M1 r2 => Nk_ M M1 → (kd_ M1 r2 = 11 ∧ (K M1 (it_ M1 r2 1)))))
set_option maxHeartbeats 4000000 in
set_option maxRecDepth 100000 in
theorem mt_X10_nulls {l : Launch} {D : Dd_} {M : Mm} {a0 : Nat} {x1 : Int32} {x2 : Int32} {K : Mm → Int32 → Prop} (hw : wp_X10_nulls a0 x1 x2 M K) (sz : Nat) : Met l yX10_nulls (Cond.code yX10_nulls cX10_nulls 3 (some .int) :: tbG_) rmX10_nulls (cPc_ D M sz [.ref a0, .int x1, .int x2]) (va_Qi (fun r M' => K M' r) (cB_ D M sz) (Aw_ M sz)) 0 0 (Aw_ M sz) := by
  refine ofV (by decide) (Nat.le_of_ble_eq_true rfl) ?_
  intro p e s m below meth c g hr hin hsz
  subst hsz
  obtain ⟨hp0, hw⟩ := hw
  refine r_aload_n g dX10_nulls_0 rfl 0 rfl ?_
  refine r_iload_n g dX10_nulls_1 rfl 1 rfl ?_
  refine r_iload_n g dX10_nulls_2 rfl 2 rfl ?_
  refine r_callVr (As := [.int x1, .int x2]) g (fun sz => mt_X10_zoneOf hw sz) tw_977 tw_980 tw_1 tw_979 tp_28 (ci := 11) (T := TX10) (N := 6) rfl hp0 hy_X10_zoneOf ⟨rfl, rfl⟩ (Nat.le_of_ble_eq_true rfl) (Nat.le_of_ble_eq_true rfl) (Nat.le_of_ble_eq_true rfl) (Nat.le_of_ble_eq_true rfl) (Nat.le_of_ble_eq_true rfl) rfl dX10_nulls_3 (fun M1 r2 hK3 h5 hN4 => ?_)
  have hw := hK3 hN4
  have hk6 := Nk_.k hN4 hp0 (by decide)
  have hT7 := Nk_.tr (Nk_.rf _) hN4
  obtain ⟨hk8, hw⟩ := hw
  refine r_gt (C := RX9) (T := TX9) (N := 9) g (ci := 10) rfl tc_X9 hk8 1 (by decide) tw_100 (fun _ h => h) rfl dX10_nulls_6 ?_
  exact r_iret g hr (Nat.le_of_ble_eq_true rfl) (Nat.le_of_ble_eq_true rfl) rfl dX10_nulls_9 hw
def rmX10_distinct : Room := { frames := 4, cells := 0, slots := 0, locals := 86 }
theorem hy_X10_distinct : yX10_distinct.cls ≠ "java/lang/invoke/MethodHandle" ∧ yX10_distinct.cls ≠ "java/lang/invoke/VarHandle" ∧ (parseMethodDescriptor yX10_distinct.desc).map (fun d => d.parameters.length) = some 2 := by decide +kernel
def wp_X10_distinct (a0 : Nat) (x1 : Int32) (x2 : Int32) (M : Mm) (K : Mm → Int32 → Prop) : Prop := kd_ M a0 = 12 ∧ (wp_X10_zoneOf a0 x1 x2 M (fun M1 r2 => Nk_ M M1 → (kd_ M1 r2 = 11 ∧ (K M1 (it_ M1 r2 2)))))
set_option maxHeartbeats 4000000 in
set_option maxRecDepth 100000 in
theorem mt_X10_distinct {l : Launch} {D : Dd_} {M : Mm} {a0 : Nat} {x1 : Int32} {x2 : Int32} {K : Mm → Int32 → Prop} (hw : wp_X10_distinct a0 x1 x2 M K) (sz : Nat) : Met l yX10_distinct (Cond.code yX10_distinct cX10_distinct 3 (some .int) :: tbG_) rmX10_distinct (cPc_ D M sz [.ref a0, .int x1, .int x2]) (va_Qi (fun r M' => K M' r) (cB_ D M sz) (Aw_ M sz)) 0 0 (Aw_ M sz) := by
  refine ofV (by decide) (Nat.le_of_ble_eq_true rfl) ?_
  intro p e s m below meth c g hr hin hsz
  subst hsz
  obtain ⟨hp0, hw⟩ := hw
  refine r_aload_n g dX10_distinct_0 rfl 0 rfl ?_
  refine r_iload_n g dX10_distinct_1 rfl 1 rfl ?_
  refine r_iload_n g dX10_distinct_2 rfl 2 rfl ?_
  refine r_callVr (As := [.int x1, .int x2]) g (fun sz => mt_X10_zoneOf hw sz) tw_977 tw_980 tw_1 tw_979 tp_28 (ci := 11) (T := TX10) (N := 6) rfl hp0 hy_X10_zoneOf ⟨rfl, rfl⟩ (Nat.le_of_ble_eq_true rfl) (Nat.le_of_ble_eq_true rfl) (Nat.le_of_ble_eq_true rfl) (Nat.le_of_ble_eq_true rfl) (Nat.le_of_ble_eq_true rfl) rfl dX10_distinct_3 (fun M1 r2 hK3 h5 hN4 => ?_)
  have hw := hK3 hN4
  have hk6 := Nk_.k hN4 hp0 (by decide)
  have hT7 := Nk_.tr (Nk_.rf _) hN4
  obtain ⟨hk8, hw⟩ := hw
  refine r_gt (C := RX9) (T := TX9) (N := 9) g (ci := 10) rfl tc_X9 hk8 2 (by decide) tw_104 (fun _ h => h) rfl dX10_distinct_6 ?_
  exact r_iret g hr (Nat.le_of_ble_eq_true rfl) (Nat.le_of_ble_eq_true rfl) rfl dX10_distinct_9 hw
def rmX10_runs : Room := { frames := 4, cells := 0, slots := 0, locals := 86 }
theorem hy_X10_runs : yX10_runs.cls ≠ "java/lang/invoke/MethodHandle" ∧ yX10_runs.cls ≠ "java/lang/invoke/VarHandle" ∧ (parseMethodDescriptor yX10_runs.desc).map (fun d => d.parameters.length) = some 2 := by decide +kernel
def wp_X10_runs (a0 : Nat) (x1 : Int32) (x2 : Int32) (M : Mm) (K : Mm → Int32 → Prop) : Prop := kd_ M a0 = 12 ∧ (wp_X10_zoneOf a0 x1 x2 M (fun M1 r2 => Nk_ M M1 → (kd_ M1 r2 = 11 ∧ (K M1 (it_ M1 r2 3)))))
set_option maxHeartbeats 4000000 in
set_option maxRecDepth 100000 in
theorem mt_X10_runs {l : Launch} {D : Dd_} {M : Mm} {a0 : Nat} {x1 : Int32} {x2 : Int32} {K : Mm → Int32 → Prop} (hw : wp_X10_runs a0 x1 x2 M K) (sz : Nat) : Met l yX10_runs (Cond.code yX10_runs cX10_runs 3 (some .int) :: tbG_) rmX10_runs (cPc_ D M sz [.ref a0, .int x1, .int x2]) (va_Qi (fun r M' => K M' r) (cB_ D M sz) (Aw_ M sz)) 0 0 (Aw_ M sz) := by
  refine ofV (by decide) (Nat.le_of_ble_eq_true rfl) ?_
  intro p e s m below meth c g hr hin hsz
  subst hsz
  obtain ⟨hp0, hw⟩ := hw
  refine r_aload_n g dX10_runs_0 rfl 0 rfl ?_
  refine r_iload_n g dX10_runs_1 rfl 1 rfl ?_
  refine r_iload_n g dX10_runs_2 rfl 2 rfl ?_
  refine r_callVr (As := [.int x1, .int x2]) g (fun sz => mt_X10_zoneOf hw sz) tw_977 tw_980 tw_1 tw_979 tp_28 (ci := 11) (T := TX10) (N := 6) rfl hp0 hy_X10_zoneOf ⟨rfl, rfl⟩ (Nat.le_of_ble_eq_true rfl) (Nat.le_of_ble_eq_true rfl) (Nat.le_of_ble_eq_true rfl) (Nat.le_of_ble_eq_true rfl) (Nat.le_of_ble_eq_true rfl) rfl dX10_runs_3 (fun M1 r2 hK3 h5 hN4 => ?_)
  have hw := hK3 hN4
  have hk6 := Nk_.k hN4 hp0 (by decide)
  have hT7 := Nk_.tr (Nk_.rf _) hN4
  obtain ⟨hk8, hw⟩ := hw
  refine r_gt (C := RX9) (T := TX9) (N := 9) g (ci := 10) rfl tc_X9 hk8 3 (by decide) tw_107 (fun _ h => h) rfl dX10_runs_6 ?_
  exact r_iret g hr (Nat.le_of_ble_eq_true rfl) (Nat.le_of_ble_eq_true rfl) rfl dX10_runs_9 hw
def rmX10_least : Room := { frames := 4, cells := 0, slots := 0, locals := 86 }
theorem hy_X10_least : yX10_least.cls ≠ "java/lang/invoke/MethodHandle" ∧ yX10_least.cls ≠ "java/lang/invoke/VarHandle" ∧ (parseMethodDescriptor yX10_least.desc).map (fun d => d.parameters.length) = some 2 := by decide +kernel
def wp_X10_least (a0 : Nat) (x1 : Int32) (x2 : Int32) (M : Mm) (K : Mm → Int32 → Prop) : Prop := kd_ M a0 = 12 ∧ (wp_X10_zoneOf a0 x1 x2 M (fun M1 r2 => Nk_ M M1 → (kd_ M1 r2 = 11 ∧ (K M1 (it_ M1 r2 4)))))
set_option maxHeartbeats 4000000 in
set_option maxRecDepth 100000 in
theorem mt_X10_least {l : Launch} {D : Dd_} {M : Mm} {a0 : Nat} {x1 : Int32} {x2 : Int32} {K : Mm → Int32 → Prop} (hw : wp_X10_least a0 x1 x2 M K) (sz : Nat) : Met l yX10_least (Cond.code yX10_least cX10_least 3 (some .int) :: tbG_) rmX10_least (cPc_ D M sz [.ref a0, .int x1, .int x2]) (va_Qi (fun r M' => K M' r) (cB_ D M sz) (Aw_ M sz)) 0 0 (Aw_ M sz) := by
  refine ofV (by decide) (Nat.le_of_ble_eq_true rfl) ?_
  intro p e s m below meth c g hr hin hsz
  subst hsz
  obtain ⟨hp0, hw⟩ := hw
  refine r_aload_n g dX10_least_0 rfl 0 rfl ?_
  refine r_iload_n g dX10_least_1 rfl 1 rfl ?_
  refine r_iload_n g dX10_least_2 rfl 2 rfl ?_
  refine r_callVr (As := [.int x1, .int x2]) g (fun sz => mt_X10_zoneOf hw sz) tw_977 tw_980 tw_1 tw_979 tp_28 (ci := 11) (T := TX10) (N := 6) rfl hp0 hy_X10_zoneOf ⟨rfl, rfl⟩ (Nat.le_of_ble_eq_true rfl) (Nat.le_of_ble_eq_true rfl) (Nat.le_of_ble_eq_true rfl) (Nat.le_of_ble_eq_true rfl) (Nat.le_of_ble_eq_true rfl) rfl dX10_least_3 (fun M1 r2 hK3 h5 hN4 => ?_)
  have hw := hK3 hN4
  have hk6 := Nk_.k hN4 hp0 (by decide)
  have hT7 := Nk_.tr (Nk_.rf _) hN4
  obtain ⟨hk8, hw⟩ := hw
  refine r_gt (C := RX9) (T := TX9) (N := 9) g (ci := 10) rfl tc_X9 hk8 4 (by decide) tw_110 (fun _ h => h) rfl dX10_least_6 ?_
  exact r_iret g hr (Nat.le_of_ble_eq_true rfl) (Nat.le_of_ble_eq_true rfl) rfl dX10_least_9 hw
def rmX10_greatest : Room := { frames := 4, cells := 0, slots := 0, locals := 86 }
theorem hy_X10_greatest : yX10_greatest.cls ≠ "java/lang/invoke/MethodHandle" ∧ yX10_greatest.cls ≠ "java/lang/invoke/VarHandle" ∧ (parseMethodDescriptor yX10_greatest.desc).map (fun d => d.parameters.length) = some 2 := by decide +kernel
def wp_X10_greatest (a0 : Nat) (x1 : Int32) (x2 : Int32) (M : Mm) (K : Mm → Int32 → Prop) : Prop := kd_ M a0 = 12 ∧ (wp_X10_zoneOf a0 x1 x2 M (fun M1 r2 => Nk_ M M1 → (kd_ M1 r2 = 11 ∧ (K M1 (it_ M1 r2 5)))))
set_option maxHeartbeats 4000000 in
set_option maxRecDepth 100000 in
theorem mt_X10_greatest {l : Launch} {D : Dd_} {M : Mm} {a0 : Nat} {x1 : Int32} {x2 : Int32} {K : Mm → Int32 → Prop} (hw : wp_X10_greatest a0 x1 x2 M K) (sz : Nat) : Met l yX10_greatest (Cond.code yX10_greatest cX10_greatest 3 (some .int) :: tbG_) rmX10_greatest (cPc_ D M sz [.ref a0, .int x1, .int x2]) (va_Qi (fun r M' => K M' r) (cB_ D M sz) (Aw_ M sz)) 0 0 (Aw_ M sz) := by
  refine ofV (by decide) (Nat.le_of_ble_eq_true rfl) ?_
  intro p e s m below meth c g hr hin hsz
  subst hsz
  obtain ⟨hp0, hw⟩ := hw
  refine r_aload_n g dX10_greatest_0 rfl 0 rfl ?_
  refine r_iload_n g dX10_greatest_1 rfl 1 rfl ?_
  refine r_iload_n g dX10_greatest_2 rfl 2 rfl ?_
  refine r_callVr (As := [.int x1, .int x2]) g (fun sz => mt_X10_zoneOf hw sz) tw_977 tw_980 tw_1 tw_979 tp_28 (ci := 11) (T := TX10) (N := 6) rfl hp0 hy_X10_zoneOf ⟨rfl, rfl⟩ (Nat.le_of_ble_eq_true rfl) (Nat.le_of_ble_eq_true rfl) (Nat.le_of_ble_eq_true rfl) (Nat.le_of_ble_eq_true rfl) (Nat.le_of_ble_eq_true rfl) rfl dX10_greatest_3 (fun M1 r2 hK3 h5 hN4 => ?_)
  have hw := hK3 hN4
  have hk6 := Nk_.k hN4 hp0 (by decide)
  have hT7 := Nk_.tr (Nk_.rf _) hN4
  obtain ⟨hk8, hw⟩ := hw
  refine r_gt (C := RX9) (T := TX9) (N := 9) g (ci := 10) rfl tc_X9 hk8 5 (by decide) tw_113 (fun _ h => h) rfl dX10_greatest_6 ?_
  exact r_iret g hr (Nat.le_of_ble_eq_true rfl) (Nat.le_of_ble_eq_true rfl) rfl dX10_greatest_9 hw
def rmX10_clear : Room := { frames := 2, cells := 0, slots := 0, locals := 40 }
theorem hy_X10_clear : yX10_clear.cls ≠ "java/lang/invoke/MethodHandle" ∧ yX10_clear.cls ≠ "java/lang/invoke/VarHandle" ∧ (parseMethodDescriptor yX10_clear.desc).map (fun d => d.parameters.length) = some 0 := by decide +kernel
def wp_X10_clear (a0 : Nat) (M : Mm) (K : Mm → Int32 → Prop) : Prop := kd_ M a0 = 12 ∧ (kd_ M (rf_ M a0 1) = 6 ∧ (wp_X4_conditionCount (rf_ M a0 1) M (fun M2 r3 => Nk_ M M2 → (kd_ M2 (rf_ M2 a0 1) = 6 ∧ (wp_X4_reset (rf_ M2 a0 1) M2 (fun M9 => Nk_ M2 M9 → (K M9 r3)))))))
set_option maxHeartbeats 4000000 in
set_option maxRecDepth 100000 in
theorem mt_X10_clear {l : Launch} {D : Dd_} {M : Mm} {a0 : Nat} {K : Mm → Int32 → Prop} (hw : wp_X10_clear a0 M K) (sz : Nat) : Met l yX10_clear (Cond.code yX10_clear cX10_clear 2 (some .int) :: tbG_) rmX10_clear (cPc_ D M sz [.ref a0]) (va_Qi (fun r M' => K M' r) (cB_ D M sz) (Aw_ M sz)) 0 0 (Aw_ M sz) := by
  refine ofV (by decide) (Nat.le_of_ble_eq_true rfl) ?_
  intro p e s m below meth c g hr hin hsz
  subst hsz
  obtain ⟨hp0, hw⟩ := hw
  refine r_aload_n g dX10_clear_0 rfl 0 rfl ?_
  obtain ⟨hk1, hw⟩ := hw
  refine r_gtR (C := RX10) (T := TX10) (N := 6) g (ci := 11) rfl tc_X10 hp0 1 (by decide) tw_335 (fun _ h => h) rfl (k_ne hk1 (by decide)) dX10_clear_1 ?_
  refine r_callVi (As := []) g (fun sz => mt_X4_conditionCount hw sz) tw_920 tw_538 tw_9 tw_536 tw_537 (ci := 5) (T := TX4) (N := 2) rfl hk1 hy_X4_conditionCount ⟨rfl, rfl⟩ (Nat.le_of_ble_eq_true rfl) (Nat.le_of_ble_eq_true rfl) (Nat.le_of_ble_eq_true rfl) (Nat.le_of_ble_eq_true rfl) (Nat.le_of_ble_eq_true rfl) rfl dX10_clear_4 (fun M2 r3 hK4 hN5 => ?_)
  have hw := hK4 hN5
  have hk6 := Nk_.k hN5 hp0 (by decide)
  have hT7 := Nk_.tr (Nk_.rf _) hN5
  refine r_istore_n (L' := [(1, .int r3), (0, .ref a0)]) g dX10_clear_7 rfl (by decide) rfl ?_
  refine r_aload_n g dX10_clear_8 rfl 1 rfl ?_
  obtain ⟨hk8, hw⟩ := hw
  refine r_gtR (C := RX10) (T := TX10) (N := 6) g (ci := 11) rfl tc_X10 hk6 1 (by decide) tw_335 (fun _ h => h) rfl (k_ne hk8 (by decide)) dX10_clear_9 ?_
  refine r_callVv (As := []) g (fun sz => mt_X4_reset hw sz) tw_921 tw_924 tw_9 tw_922 tw_923 (ci := 5) (T := TX4) (N := 2) rfl hk8 hy_X4_reset ⟨rfl, rfl⟩ (Nat.le_of_ble_eq_true rfl) (Nat.le_of_ble_eq_true rfl) (Nat.le_of_ble_eq_true rfl) (Nat.le_of_ble_eq_true rfl) (Nat.le_of_ble_eq_true rfl) rfl dX10_clear_12 (fun M9 hK10 hN11 => ?_)
  have hw := hK10 hN11
  have hk12 := Nk_.k hN11 hk6 (by decide)
  have hT13 := Nk_.tr hT7 hN11
  refine r_iload_n g dX10_clear_15 rfl 0 rfl ?_
  exact r_iret g hr (Nat.le_of_ble_eq_true rfl) (Nat.le_of_ble_eq_true rfl) rfl dX10_clear_16 hw
def rmX10_find : Room := { frames := 7, cells := 0, slots := 0, locals := 171 }
theorem hy_X10_find : yX10_find.cls ≠ "java/lang/invoke/MethodHandle" ∧ yX10_find.cls ≠ "java/lang/invoke/VarHandle" ∧ (parseMethodDescriptor yX10_find.desc).map (fun d => d.parameters.length) = some 0 := by decide +kernel
def wp_X10_find (a0 : Nat) (M : Mm) (K : Mm → Int32 → Prop) : Prop := kd_ M a0 = 12 ∧ (kd_ M (rf_ M a0 2) = 8 ∧ (kd_ M (rf_ M a0 0) = 10 ∧ (kd_ M (rf_ M a0 1) = 6 ∧ (wp_X6_run (rf_ M a0 2) (rf_ M a0 0) (rf_ M a0 1) (1 : Int32) M (fun M4 => Nk_ M M4 → (kd_ M4 (rf_ M4 a0 2) = 8 ∧ (∀ M10, M10 = sI_ M4 a0 4 (it_ M4 (rf_ M4 a0 2) 2) → (∀ M11, M11 = sI_ M10 a0 5 (it_ M10 (rf_ M4 a0 2) 3) → (kd_ M4 (rf_ M4 a0 3) = 7 ∧ (kd_ M4 (rf_ M4 (rf_ M4 a0 2) 0) = 20 ∧ (wp_X5_take (rf_ M4 a0 3) (rf_ M4 (rf_ M4 a0 2) 0) (it_ M11 (rf_ M4 a0 2) 1) M11 (fun M14 => Nk_ M11 M14 → (kd_ M14 (rf_ M14 a0 3) = 7 ∧ (K M14 (it_ M14 (rf_ M14 a0 3) 1)))))))))))))))
set_option maxHeartbeats 4000000 in
set_option maxRecDepth 100000 in
theorem mt_X10_find {l : Launch} {D : Dd_} {M : Mm} {a0 : Nat} {K : Mm → Int32 → Prop} (hw : wp_X10_find a0 M K) (sz : Nat) : Met l yX10_find (Cond.code yX10_find cX10_find 1 (some .int) :: tbG_) rmX10_find (cPc_ D M sz [.ref a0]) (va_Qi (fun r M' => K M' r) (cB_ D M sz) (Aw_ M sz)) 0 0 (Aw_ M sz) := by
  refine ofV (by decide) (Nat.le_of_ble_eq_true rfl) ?_
  intro p e s m below meth c g hr hin hsz
  subst hsz
  obtain ⟨hp0, hw⟩ := hw
  refine r_aload_n g dX10_find_0 rfl 0 rfl ?_
  obtain ⟨hk1, hw⟩ := hw
  refine r_gtR (C := RX10) (T := TX10) (N := 6) g (ci := 11) rfl tc_X10 hp0 2 (by decide) tw_336 (fun _ h => h) rfl (k_ne hk1 (by decide)) dX10_find_1 ?_
  refine r_aload_n g dX10_find_4 rfl 0 rfl ?_
  obtain ⟨hk2, hw⟩ := hw
  refine r_gtR (C := RX10) (T := TX10) (N := 6) g (ci := 11) rfl tc_X10 hp0 0 (by decide) tw_334 (fun _ h => h) rfl (k_ne hk2 (by decide)) dX10_find_5 ?_
  refine r_aload_n g dX10_find_8 rfl 0 rfl ?_
  obtain ⟨hk3, hw⟩ := hw
  refine r_gtR (C := RX10) (T := TX10) (N := 6) g (ci := 11) rfl tc_X10 hp0 1 (by decide) tw_335 (fun _ h => h) rfl (k_ne hk3 (by decide)) dX10_find_9 ?_
  refine r_iconst (v := 1) g dX10_find_12 (by decide) ?_
  refine r_callVv (As := [.ref (rf_ M a0 0), .ref (rf_ M a0 1), .int (1 : Int32)]) g (fun sz => mt_X6_run hw sz) tw_531 tw_534 tw_12 tw_532 tw_533 (ci := 7) (T := TX6) (N := 10) rfl hk1 hy_X6_run ⟨rfl, rfl⟩ (Nat.le_of_ble_eq_true rfl) (Nat.le_of_ble_eq_true rfl) (Nat.le_of_ble_eq_true rfl) (Nat.le_of_ble_eq_true rfl) (Nat.le_of_ble_eq_true rfl) rfl dX10_find_13 (fun M4 hK5 hN6 => ?_)
  have hw := hK5 hN6
  have hk7 := Nk_.k hN6 hp0 (by decide)
  have hT8 := Nk_.tr (Nk_.rf _) hN6
  refine r_aload_n g dX10_find_16 rfl 0 rfl ?_
  refine r_aload_n g dX10_find_17 rfl 0 rfl ?_
  obtain ⟨hk9, hw⟩ := hw
  refine r_gtR (C := RX10) (T := TX10) (N := 6) g (ci := 11) rfl tc_X10 hk7 2 (by decide) tw_336 (fun _ h => h) rfl (k_ne hk9 (by decide)) dX10_find_18 ?_
  refine r_gt (C := RX6) (T := TX6) (N := 10) g (ci := 7) rfl tc_X6 hk9 2 (by decide) tw_273 (fun _ h => h) rfl dX10_find_21 ?_
  refine r_ptI (C := RX10) (T := TX10) (N := 6) g (ci := 11) rfl tc_X10 tyX10 tyX10_ok nmX10 hk7 4 (by decide) tw_338 (fun _ h => h) rfl rfl rfl rfl dX10_find_24 ?_
  have hw := hw _ rfl
  refine r_aload_n g dX10_find_27 rfl 0 rfl ?_
  refine r_aload_n g dX10_find_28 rfl 0 rfl ?_
  refine r_gtR (C := RX10) (T := TX10) (N := 6) g (ci := 11) rfl tc_X10 hk7 2 (by decide) tw_336 (fun _ h => h) rfl (k_ne hk9 (by decide)) dX10_find_29 ?_
  refine r_gt (C := RX6) (T := TX6) (N := 10) g (ci := 7) rfl tc_X6 hk9 3 (by decide) tw_275 (fun _ h => h) rfl dX10_find_32 ?_
  refine r_ptI (C := RX10) (T := TX10) (N := 6) g (ci := 11) rfl tc_X10 tyX10 tyX10_ok nmX10 hk7 5 (by decide) tw_339 (fun _ h => h) rfl rfl rfl rfl dX10_find_35 ?_
  have hw := hw _ rfl
  refine r_aload_n g dX10_find_38 rfl 0 rfl ?_
  obtain ⟨hk12, hw⟩ := hw
  refine r_gtR (C := RX10) (T := TX10) (N := 6) g (ci := 11) rfl tc_X10 hk7 3 (by decide) tw_337 (fun _ h => h) rfl (k_ne hk12 (by decide)) dX10_find_39 ?_
  refine r_aload_n g dX10_find_42 rfl 0 rfl ?_
  refine r_gtR (C := RX10) (T := TX10) (N := 6) g (ci := 11) rfl tc_X10 hk7 2 (by decide) tw_336 (fun _ h => h) rfl (k_ne hk9 (by decide)) dX10_find_43 ?_
  obtain ⟨hk13, hw⟩ := hw
  refine r_gtR (C := RX6) (T := TX6) (N := 10) g (ci := 7) rfl tc_X6 hk9 0 (by decide) tw_269 (fun _ h => h) rfl (k_ne hk13 (by decide)) dX10_find_46 ?_
  refine r_aload_n g dX10_find_49 rfl 0 rfl ?_
  refine r_gtR (C := RX10) (T := TX10) (N := 6) g (ci := 11) rfl tc_X10 hk7 2 (by decide) tw_336 (fun _ h => h) rfl (k_ne hk9 (by decide)) dX10_find_50 ?_
  refine r_gt (C := RX6) (T := TX6) (N := 10) g (ci := 7) rfl tc_X6 hk9 1 (by decide) tw_271 (fun _ h => h) rfl dX10_find_53 ?_
  refine r_callVv (As := [.ref (rf_ M4 (rf_ M4 a0 2) 0), .int (it_ (sI_ (sI_ M4 a0 4 (it_ M4 (rf_ M4 a0 2) 2)) a0 5 (it_ (sI_ M4 a0 4 (it_ M4 (rf_ M4 a0 2) 2)) (rf_ M4 a0 2) 3)) (rf_ M4 a0 2) 1)]) g (fun sz => mt_X5_take hw sz) tw_1035 tw_1038 tw_13 tw_1036 tw_1037 (ci := 6) (T := TX5) (N := 7) rfl hk12 hy_X5_take ⟨rfl, rfl⟩ (Nat.le_of_ble_eq_true rfl) (Nat.le_of_ble_eq_true rfl) (Nat.le_of_ble_eq_true rfl) (Nat.le_of_ble_eq_true rfl) (Nat.le_of_ble_eq_true rfl) rfl dX10_find_56 (fun M14 hK15 hN16 => ?_)
  have hw := hK15 hN16
  have hk17 := Nk_.k hN16 hk7 (by decide)
  have hT18 := Nk_.tr hT8 hN16
  refine r_aload_n g dX10_find_59 rfl 0 rfl ?_
  obtain ⟨hk19, hw⟩ := hw
  refine r_gtR (C := RX10) (T := TX10) (N := 6) g (ci := 11) rfl tc_X10 hk17 3 (by decide) tw_337 (fun _ h => h) rfl (k_ne hk19 (by decide)) dX10_find_60 ?_
  refine r_gt (C := RX5) (T := TX5) (N := 7) g (ci := 6) rfl tc_X5 hk19 1 (by decide) tw_312 (fun _ h => h) rfl dX10_find_63 ?_
  exact r_iret g hr (Nat.le_of_ble_eq_true rfl) (Nat.le_of_ble_eq_true rfl) rfl dX10_find_66 hw
def rmX10_passed : Room := { frames := 0, cells := 0, slots := 0, locals := 0 }
theorem hy_X10_passed : yX10_passed.cls ≠ "java/lang/invoke/MethodHandle" ∧ yX10_passed.cls ≠ "java/lang/invoke/VarHandle" ∧ (parseMethodDescriptor yX10_passed.desc).map (fun d => d.parameters.length) = some 0 := by decide +kernel
def wp_X10_passed (a0 : Nat) (M : Mm) (K : Mm → Int32 → Prop) : Prop := kd_ M a0 = 12 ∧ (K M (it_ M a0 5))
set_option maxHeartbeats 4000000 in
set_option maxRecDepth 100000 in
theorem mt_X10_passed {l : Launch} {D : Dd_} {M : Mm} {a0 : Nat} {K : Mm → Int32 → Prop} (hw : wp_X10_passed a0 M K) (sz : Nat) : Met l yX10_passed (Cond.code yX10_passed cX10_passed 1 (some .int) :: tbG_) rmX10_passed (cPc_ D M sz [.ref a0]) (va_Qi (fun r M' => K M' r) (cB_ D M sz) (Aw_ M sz)) 0 0 (Aw_ M sz) := by
  refine ofV (by decide) (Nat.le_of_ble_eq_true rfl) ?_
  intro p e s m below meth c g hr hin hsz
  subst hsz
  obtain ⟨hp0, hw⟩ := hw
  refine r_aload_n g dX10_passed_0 rfl 0 rfl ?_
  refine r_gt (C := RX10) (T := TX10) (N := 6) g (ci := 11) rfl tc_X10 hp0 5 (by decide) tw_339 (fun _ h => h) rfl dX10_passed_1 ?_
  exact r_iret g hr (Nat.le_of_ble_eq_true rfl) (Nat.le_of_ble_eq_true rfl) rfl dX10_passed_4 hw
def rmX10_foundAt : Room := { frames := 0, cells := 0, slots := 0, locals := 0 }
theorem hy_X10_foundAt : yX10_foundAt.cls ≠ "java/lang/invoke/MethodHandle" ∧ yX10_foundAt.cls ≠ "java/lang/invoke/VarHandle" ∧ (parseMethodDescriptor yX10_foundAt.desc).map (fun d => d.parameters.length) = some 1 := by decide +kernel
def wp_X10_foundAt (a0 : Nat) (x1 : Int32) (M : Mm) (K : Mm → Int32 → Prop) : Prop := kd_ M a0 = 12 ∧ ((x1 < 0 → False) ∧ (¬ x1 < 0 → (kd_ M (rf_ M a0 3) = 7 ∧ ((x1 < (it_ M (rf_ M a0 3) 1) → (kd_ M (rf_ M (rf_ M a0 3) 0) = 20 ∧ (vp_in x1 (ln_ M (rf_ M (rf_ M a0 3) 0)) ∧ (K M (it_ M (rf_ M (rf_ M a0 3) 0) (ix_ x1)))))) ∧ (¬ x1 < (it_ M (rf_ M a0 3) 1) → False)))))
set_option maxHeartbeats 4000000 in
set_option maxRecDepth 100000 in
theorem mt_X10_foundAt {l : Launch} {D : Dd_} {M : Mm} {a0 : Nat} {x1 : Int32} {K : Mm → Int32 → Prop} (hw : wp_X10_foundAt a0 x1 M K) (sz : Nat) : Met l yX10_foundAt (Cond.code yX10_foundAt cX10_foundAt 2 (some .int) :: tbG_) rmX10_foundAt (cPc_ D M sz [.ref a0, .int x1]) (va_Qi (fun r M' => K M' r) (cB_ D M sz) (Aw_ M sz)) 0 0 (Aw_ M sz) := by
  refine ofV (by decide) (Nat.le_of_ble_eq_true rfl) ?_
  intro p e s m below meth c g hr hin hsz
  subst hsz
  obtain ⟨hp0, hw⟩ := hw
  refine r_iload_n g dX10_foundAt_0 rfl 1 rfl ?_
  refine r_if_lt (tgt := 15) g dX10_foundAt_1 (by decide) (fun hc1 => ?_) (fun hc1 => ?_)
  · have hw := hw.1 hc1
    exact hw.elim
  · have hw := hw.2 hc1
    refine r_iload_n g dX10_foundAt_4 rfl 1 rfl ?_
    refine r_aload_n g dX10_foundAt_5 rfl 0 rfl ?_
    obtain ⟨hk5, hw⟩ := hw
    refine r_gtR (C := RX10) (T := TX10) (N := 6) g (ci := 11) rfl tc_X10 hp0 3 (by decide) tw_337 (fun _ h => h) rfl (k_ne hk5 (by decide)) dX10_foundAt_6 ?_
    refine r_gt (C := RX5) (T := TX5) (N := 7) g (ci := 6) rfl tc_X5 hk5 1 (by decide) tw_312 (fun _ h => h) rfl dX10_foundAt_9 ?_
    refine r_icmp_lt (tgt := 26) g dX10_foundAt_12 (by decide) (fun hc6 => ?_) (fun hc6 => ?_)
    · have hw := hw.1 hc6
      refine r_aload_n g dX10_foundAt_26 rfl 0 rfl ?_
      refine r_gtR (C := RX10) (T := TX10) (N := 6) g (ci := 11) rfl tc_X10 hp0 3 (by decide) tw_337 (fun _ h => h) rfl (k_ne hk5 (by decide)) dX10_foundAt_27 ?_
      obtain ⟨hk7, hw⟩ := hw
      refine r_gtR (C := RX5) (T := TX5) (N := 7) g (ci := 6) rfl tc_X5 hk5 0 (by decide) tw_310 (fun _ h => h) rfl (k_ne hk7 (by decide)) dX10_foundAt_30 ?_
      refine r_iload_n g dX10_foundAt_33 rfl 1 rfl ?_
      obtain ⟨hi8, hw⟩ := hw
      refine r_iald g (Or.inl hk7) hi8 dX10_foundAt_34 ?_
      exact r_iret g hr (Nat.le_of_ble_eq_true rfl) (Nat.le_of_ble_eq_true rfl) rfl dX10_foundAt_35 hw
    · have hw := hw.2 hc6
      exact hw.elim
def rmX10_sort : Room := { frames := 3, cells := 0, slots := 0, locals := 89 }
theorem hy_X10_sort : yX10_sort.cls ≠ "java/lang/invoke/MethodHandle" ∧ yX10_sort.cls ≠ "java/lang/invoke/VarHandle" ∧ (parseMethodDescriptor yX10_sort.desc).map (fun d => d.parameters.length) = some 2 := by decide +kernel
def wp_X10_sort (a0 : Nat) (x1 : Int32) (x2 : Int32) (M : Mm) (K : Mm → Int32 → Prop) : Prop := kd_ M a0 = 12 ∧ (wp_X10_needColumn a0 x1 M (fun M1 => Nk_ M M1 → (kd_ M1 (rf_ M1 a0 0) = 10 ∧ (kd_ M1 (rf_ M1 (rf_ M1 a0 0) 4) = 9 ∧ (kd_ M1 (rf_ M1 a0 3) = 7 ∧ (kd_ M1 (rf_ M1 (rf_ M1 a0 3) 0) = 20 ∧ (kd_ M1 (rf_ M1 (rf_ M1 a0 0) 0) = 1 ∧ (wp_Jx4a65c_get_915e3 (rf_ M1 (rf_ M1 a0 0) 0) x1 M1 (fun M11 r12 => Nk_ M1 M11 → (kd_ M11 r12 = 3 ∧ (wp_X7_arrange (rf_ M1 (rf_ M1 a0 0) 4) (rf_ M1 (rf_ M1 a0 3) 0) (it_ M1 (rf_ M1 a0 3) 1) r12 x2 (0 : Int32) M11 (fun M21 => Nk_ M11 M21 → (kd_ M21 (rf_ M21 a0 3) = 7 ∧ (((it_ M21 (rf_ M21 a0 3) 1) = 0 → (K M21 (-1 : Int32))) ∧ (¬ (it_ M21 (rf_ M21 a0 3) 1) = 0 → (kd_ M21 (rf_ M21 (rf_ M21 a0 3) 0) = 20 ∧ (vp_in (0 : Int32) (ln_ M21 (rf_ M21 (rf_ M21 a0 3) 0)) ∧ (K M21 (it_ M21 (rf_ M21 (rf_ M21 a0 3) 0) (ix_ (0 : Int32)))))))))))))))))))))
set_option maxHeartbeats 4000000 in
set_option maxRecDepth 100000 in
theorem mt_X10_sort {l : Launch} {D : Dd_} {M : Mm} {a0 : Nat} {x1 : Int32} {x2 : Int32} {K : Mm → Int32 → Prop} (hw : wp_X10_sort a0 x1 x2 M K) (sz : Nat) : Met l yX10_sort (Cond.code yX10_sort cX10_sort 3 (some .int) :: tbG_) rmX10_sort (cPc_ D M sz [.ref a0, .int x1, .int x2]) (va_Qi (fun r M' => K M' r) (cB_ D M sz) (Aw_ M sz)) 0 0 (Aw_ M sz) := by
  refine ofV (by decide) (Nat.le_of_ble_eq_true rfl) ?_
  intro p e s m below meth c g hr hin hsz
  subst hsz
  obtain ⟨hp0, hw⟩ := hw
  refine r_aload_n g dX10_sort_0 rfl 0 rfl ?_
  refine r_iload_n g dX10_sort_1 rfl 1 rfl ?_
  refine r_callVv (As := [.int x1]) g (fun sz => mt_X10_needColumn hw sz) tw_714 tw_717 tw_1 tw_716 tp_16 (ci := 11) (T := TX10) (N := 6) rfl hp0 hy_X10_needColumn ⟨rfl, rfl⟩ (Nat.le_of_ble_eq_true rfl) (Nat.le_of_ble_eq_true rfl) (Nat.le_of_ble_eq_true rfl) (Nat.le_of_ble_eq_true rfl) (Nat.le_of_ble_eq_true rfl) rfl dX10_sort_2 (fun M1 hK2 hN3 => ?_)
  have hw := hK2 hN3
  have hk4 := Nk_.k hN3 hp0 (by decide)
  have hT5 := Nk_.tr (Nk_.rf _) hN3
  refine r_aload_n g dX10_sort_5 rfl 0 rfl ?_
  obtain ⟨hk6, hw⟩ := hw
  refine r_gtR (C := RX10) (T := TX10) (N := 6) g (ci := 11) rfl tc_X10 hk4 0 (by decide) tw_334 (fun _ h => h) rfl (k_ne hk6 (by decide)) dX10_sort_6 ?_
  obtain ⟨hk7, hw⟩ := hw
  refine r_gtR (C := RX8) (T := TX8) (N := 11) g (ci := 9) rfl tc_X8 hk6 4 (by decide) tw_175 (fun _ h => h) rfl (k_ne hk7 (by decide)) dX10_sort_9 ?_
  refine r_aload_n g dX10_sort_12 rfl 0 rfl ?_
  obtain ⟨hk8, hw⟩ := hw
  refine r_gtR (C := RX10) (T := TX10) (N := 6) g (ci := 11) rfl tc_X10 hk4 3 (by decide) tw_337 (fun _ h => h) rfl (k_ne hk8 (by decide)) dX10_sort_13 ?_
  obtain ⟨hk9, hw⟩ := hw
  refine r_gtR (C := RX5) (T := TX5) (N := 7) g (ci := 6) rfl tc_X5 hk8 0 (by decide) tw_310 (fun _ h => h) rfl (k_ne hk9 (by decide)) dX10_sort_16 ?_
  refine r_aload_n g dX10_sort_19 rfl 0 rfl ?_
  refine r_gtR (C := RX10) (T := TX10) (N := 6) g (ci := 11) rfl tc_X10 hk4 3 (by decide) tw_337 (fun _ h => h) rfl (k_ne hk8 (by decide)) dX10_sort_20 ?_
  refine r_gt (C := RX5) (T := TX5) (N := 7) g (ci := 6) rfl tc_X5 hk8 1 (by decide) tw_312 (fun _ h => h) rfl dX10_sort_23 ?_
  refine r_aload_n g dX10_sort_26 rfl 0 rfl ?_
  refine r_gtR (C := RX10) (T := TX10) (N := 6) g (ci := 11) rfl tc_X10 hk4 0 (by decide) tw_334 (fun _ h => h) rfl (k_ne hk6 (by decide)) dX10_sort_27 ?_
  obtain ⟨hk10, hw⟩ := hw
  refine r_gtR (C := RX8) (T := TX8) (N := 11) g (ci := 9) rfl tc_X8 hk6 0 (by decide) tw_164 (fun _ h => h) rfl (k_ne hk10 (by decide)) dX10_sort_30 ?_
  refine r_iload_n g dX10_sort_33 rfl 1 rfl ?_
  refine r_callVr (As := [.int x1]) g (fun sz => mt_Jx4a65c_get_915e3 hw sz) tw_651 tw_543 tw_5 tw_541 tw_542 (ci := 0) (T := TJx4a65c) (N := 3) rfl hk10 hy_Jx4a65c_get_915e3 ⟨rfl, rfl⟩ (Nat.le_of_ble_eq_true rfl) (Nat.le_of_ble_eq_true rfl) (Nat.le_of_ble_eq_true rfl) (Nat.le_of_ble_eq_true rfl) (Nat.le_of_ble_eq_true rfl) rfl dX10_sort_34 (fun M11 r12 hK13 h15 hN14 => ?_)
  have hw := hK13 hN14
  have hk16 := Nk_.k hN14 hk4 (by decide)
  have hk17 := Nk_.k hN14 hk9 (by decide)
  have hk18 := Nk_.k hN14 hk7 (by decide)
  have hT19 := Nk_.tr hT5 hN14
  obtain ⟨hk20, hw⟩ := hw
  refine r_cast (C := RX1) (T := TX1) (N := 5) g (ci := 2) rfl tw_430 hk20 dX10_sort_37 ?_
  refine r_iload_n g dX10_sort_40 rfl 2 rfl ?_
  refine r_iconst (v := 0) g dX10_sort_41 (by decide) ?_
  refine r_callVv (As := [.ref (rf_ M1 (rf_ M1 a0 3) 0), .int (it_ M1 (rf_ M1 a0 3) 1), .ref r12, .int x2, .int (0 : Int32)]) g (fun sz => mt_X7_arrange hw sz) tw_1089 tw_769 tw_6 tw_767 tw_768 (ci := 8) (T := TX7) (N := 2) rfl hk18 hy_X7_arrange ⟨rfl, rfl⟩ (Nat.le_of_ble_eq_true rfl) (Nat.le_of_ble_eq_true rfl) (Nat.le_of_ble_eq_true rfl) (Nat.le_of_ble_eq_true rfl) (Nat.le_of_ble_eq_true rfl) rfl dX10_sort_42 (fun M21 hK22 hN23 => ?_)
  have hw := hK22 hN23
  have hk24 := Nk_.k hN23 hk16 (by decide)
  have hT25 := Nk_.tr hT19 hN23
  refine r_aload_n g dX10_sort_45 rfl 0 rfl ?_
  obtain ⟨hk26, hw⟩ := hw
  refine r_gtR (C := RX10) (T := TX10) (N := 6) g (ci := 11) rfl tc_X10 hk24 3 (by decide) tw_337 (fun _ h => h) rfl (k_ne hk26 (by decide)) dX10_sort_46 ?_
  refine r_gt (C := RX5) (T := TX5) (N := 7) g (ci := 6) rfl tc_X5 hk26 1 (by decide) tw_312 (fun _ h => h) rfl dX10_sort_49 ?_
  refine r_if_ne (tgt := 59) g dX10_sort_52 (by decide) (fun hc27 => ?_) (fun hc27 => ?_)
  · have hw := hw.2 hc27
    refine r_aload_n g dX10_sort_59 rfl 0 rfl ?_
    refine r_gtR (C := RX10) (T := TX10) (N := 6) g (ci := 11) rfl tc_X10 hk24 3 (by decide) tw_337 (fun _ h => h) rfl (k_ne hk26 (by decide)) dX10_sort_60 ?_
    obtain ⟨hk28, hw⟩ := hw
    refine r_gtR (C := RX5) (T := TX5) (N := 7) g (ci := 6) rfl tc_X5 hk26 0 (by decide) tw_310 (fun _ h => h) rfl (k_ne hk28 (by decide)) dX10_sort_63 ?_
    refine r_iconst (v := 0) g dX10_sort_66 (by decide) ?_
    obtain ⟨hi29, hw⟩ := hw
    refine r_iald g (Or.inl hk28) hi29 dX10_sort_67 ?_
    exact r_iret g hr (Nat.le_of_ble_eq_true rfl) (Nat.le_of_ble_eq_true rfl) rfl dX10_sort_68 hw
  · have hw := hw.1 hc27
    refine r_iconst (v := -1) g dX10_sort_55 (by decide) ?_
    refine r_goto (tgt := 68) g dX10_sort_56 (by decide) ?_
    exact r_iret g hr (Nat.le_of_ble_eq_true rfl) (Nat.le_of_ble_eq_true rfl) rfl dX10_sort_68 hw
def rmX10_limit : Room := { frames := 1, cells := 0, slots := 0, locals := 14 }
theorem hy_X10_limit : yX10_limit.cls ≠ "java/lang/invoke/MethodHandle" ∧ yX10_limit.cls ≠ "java/lang/invoke/VarHandle" ∧ (parseMethodDescriptor yX10_limit.desc).map (fun d => d.parameters.length) = some 1 := by decide +kernel
def wp_X10_limit (a0 : Nat) (x1 : Int32) (M : Mm) (K : Mm → Int32 → Prop) : Prop := kd_ M a0 = 12 ∧ ((0 ≤ x1 → (kd_ M (rf_ M a0 3) = 7 ∧ (∀ M3, M3 = sI_ M (rf_ M a0 3) 1 (if x1 < (it_ M (rf_ M a0 3) 1) then x1 else (it_ M (rf_ M a0 3) 1)) → (K M3 (it_ M3 (rf_ M a0 3) 1))))) ∧ (¬ 0 ≤ x1 → False))
set_option maxHeartbeats 4000000 in
set_option maxRecDepth 100000 in
theorem mt_X10_limit {l : Launch} {D : Dd_} {M : Mm} {a0 : Nat} {x1 : Int32} {K : Mm → Int32 → Prop} (hw : wp_X10_limit a0 x1 M K) (sz : Nat) : Met l yX10_limit (Cond.code yX10_limit cX10_limit 2 (some .int) :: tbG_) rmX10_limit (cPc_ D M sz [.ref a0, .int x1]) (va_Qi (fun r M' => K M' r) (cB_ D M sz) (Aw_ M sz)) 0 0 (Aw_ M sz) := by
  refine ofV (by decide) (Nat.le_of_ble_eq_true rfl) ?_
  intro p e s m below meth c g hr hin hsz
  subst hsz
  obtain ⟨hp0, hw⟩ := hw
  refine r_iload_n g dX10_limit_0 rfl 1 rfl ?_
  refine r_if_ge (tgt := 15) g dX10_limit_1 (by decide) (fun hc1 => ?_) (fun hc1 => ?_)
  · have hw := hw.1 hc1
    refine r_aload_n g dX10_limit_15 rfl 0 rfl ?_
    obtain ⟨hk2, hw⟩ := hw
    refine r_gtR (C := RX10) (T := TX10) (N := 6) g (ci := 11) rfl tc_X10 hp0 3 (by decide) tw_337 (fun _ h => h) rfl (k_ne hk2 (by decide)) dX10_limit_16 ?_
    refine r_aload_n g dX10_limit_19 rfl 0 rfl ?_
    refine r_gtR (C := RX10) (T := TX10) (N := 6) g (ci := 11) rfl tc_X10 hp0 3 (by decide) tw_337 (fun _ h => h) rfl (k_ne hk2 (by decide)) dX10_limit_20 ?_
    refine r_gt (C := RX5) (T := TX5) (N := 7) g (ci := 6) rfl tc_X5 hk2 1 (by decide) tw_312 (fun _ h => h) rfl dX10_limit_23 ?_
    refine r_iload_n g dX10_limit_26 rfl 1 rfl ?_
    refine r_mmin g tw_1111 tw_520 tw_20 tw_521 (Nat.le_of_ble_eq_true rfl) (Nat.le_of_ble_eq_true rfl) (Nat.le_of_ble_eq_true rfl) (Nat.le_of_ble_eq_true rfl) dX10_limit_27 ?_
    refine r_ptI (C := RX5) (T := TX5) (N := 7) g (ci := 6) rfl tc_X5 tyX5 tyX5_ok nmX5 hk2 1 (by decide) tw_312 (fun _ h => h) rfl rfl rfl rfl dX10_limit_30 ?_
    have hw := hw _ rfl
    refine r_aload_n g dX10_limit_33 rfl 0 rfl ?_
    refine r_gtR (C := RX10) (T := TX10) (N := 6) g (ci := 11) rfl tc_X10 hp0 3 (by decide) tw_337 (fun _ h => h) rfl (k_ne hk2 (by decide)) dX10_limit_34 ?_
    refine r_gt (C := RX5) (T := TX5) (N := 7) g (ci := 6) rfl tc_X5 hk2 1 (by decide) tw_312 (fun _ h => h) rfl dX10_limit_37 ?_
    exact r_iret g hr (Nat.le_of_ble_eq_true rfl) (Nat.le_of_ble_eq_true rfl) rfl dX10_limit_40 hw
  · have hw := hw.2 hc1
    exact hw.elim
def rmX10_sum : Room := { frames := 3, cells := 0, slots := 0, locals := 64 }
theorem hy_X10_sum : yX10_sum.cls ≠ "java/lang/invoke/MethodHandle" ∧ yX10_sum.cls ≠ "java/lang/invoke/VarHandle" ∧ (parseMethodDescriptor yX10_sum.desc).map (fun d => d.parameters.length) = some 1 := by decide +kernel
def wp_X10_sum (a0 : Nat) (x1 : Int32) (M : Mm) (K : Mm → Int32 → Prop) : Prop := kd_ M a0 = 12 ∧ (wp_X10_needColumn a0 x1 M (fun M1 => Nk_ M M1 → (kd_ M1 (rf_ M1 a0 3) = 7 ∧ (kd_ M1 (rf_ M1 a0 0) = 10 ∧ (kd_ M1 (rf_ M1 (rf_ M1 a0 0) 0) = 1 ∧ (wp_Jx4a65c_get_915e3 (rf_ M1 (rf_ M1 a0 0) 0) x1 M1 (fun M9 r10 => Nk_ M1 M9 → (kd_ M9 r10 = 3 ∧ (wp_X5_total (rf_ M1 a0 3) r10 M9 (fun M18 r19 => Nk_ M9 M18 → (K M18 (r19.toInt32))))))))))))
set_option maxHeartbeats 4000000 in
set_option maxRecDepth 100000 in
theorem mt_X10_sum {l : Launch} {D : Dd_} {M : Mm} {a0 : Nat} {x1 : Int32} {K : Mm → Int32 → Prop} (hw : wp_X10_sum a0 x1 M K) (sz : Nat) : Met l yX10_sum (Cond.code yX10_sum cX10_sum 2 (some .int) :: tbG_) rmX10_sum (cPc_ D M sz [.ref a0, .int x1]) (va_Qi (fun r M' => K M' r) (cB_ D M sz) (Aw_ M sz)) 0 0 (Aw_ M sz) := by
  refine ofV (by decide) (Nat.le_of_ble_eq_true rfl) ?_
  intro p e s m below meth c g hr hin hsz
  subst hsz
  obtain ⟨hp0, hw⟩ := hw
  refine r_aload_n g dX10_sum_0 rfl 0 rfl ?_
  refine r_iload_n g dX10_sum_1 rfl 1 rfl ?_
  refine r_callVv (As := [.int x1]) g (fun sz => mt_X10_needColumn hw sz) tw_714 tw_717 tw_1 tw_716 tp_16 (ci := 11) (T := TX10) (N := 6) rfl hp0 hy_X10_needColumn ⟨rfl, rfl⟩ (Nat.le_of_ble_eq_true rfl) (Nat.le_of_ble_eq_true rfl) (Nat.le_of_ble_eq_true rfl) (Nat.le_of_ble_eq_true rfl) (Nat.le_of_ble_eq_true rfl) rfl dX10_sum_2 (fun M1 hK2 hN3 => ?_)
  have hw := hK2 hN3
  have hk4 := Nk_.k hN3 hp0 (by decide)
  have hT5 := Nk_.tr (Nk_.rf _) hN3
  refine r_aload_n g dX10_sum_5 rfl 0 rfl ?_
  obtain ⟨hk6, hw⟩ := hw
  refine r_gtR (C := RX10) (T := TX10) (N := 6) g (ci := 11) rfl tc_X10 hk4 3 (by decide) tw_337 (fun _ h => h) rfl (k_ne hk6 (by decide)) dX10_sum_6 ?_
  refine r_aload_n g dX10_sum_9 rfl 0 rfl ?_
  obtain ⟨hk7, hw⟩ := hw
  refine r_gtR (C := RX10) (T := TX10) (N := 6) g (ci := 11) rfl tc_X10 hk4 0 (by decide) tw_334 (fun _ h => h) rfl (k_ne hk7 (by decide)) dX10_sum_10 ?_
  obtain ⟨hk8, hw⟩ := hw
  refine r_gtR (C := RX8) (T := TX8) (N := 11) g (ci := 9) rfl tc_X8 hk7 0 (by decide) tw_164 (fun _ h => h) rfl (k_ne hk8 (by decide)) dX10_sum_13 ?_
  refine r_iload_n g dX10_sum_16 rfl 1 rfl ?_
  refine r_callVr (As := [.int x1]) g (fun sz => mt_Jx4a65c_get_915e3 hw sz) tw_651 tw_543 tw_5 tw_541 tw_542 (ci := 0) (T := TJx4a65c) (N := 3) rfl hk8 hy_Jx4a65c_get_915e3 ⟨rfl, rfl⟩ (Nat.le_of_ble_eq_true rfl) (Nat.le_of_ble_eq_true rfl) (Nat.le_of_ble_eq_true rfl) (Nat.le_of_ble_eq_true rfl) (Nat.le_of_ble_eq_true rfl) rfl dX10_sum_17 (fun M9 r10 hK11 h13 hN12 => ?_)
  have hw := hK11 hN12
  have hk14 := Nk_.k hN12 hk4 (by decide)
  have hk15 := Nk_.k hN12 hk6 (by decide)
  have hT16 := Nk_.tr hT5 hN12
  obtain ⟨hk17, hw⟩ := hw
  refine r_cast (C := RX1) (T := TX1) (N := 5) g (ci := 2) rfl tw_430 hk17 dX10_sum_20 ?_
  refine r_callVl (As := [.ref r10]) g (fun sz => mt_X5_total hw sz) tw_1081 tw_1084 tw_13 tw_1082 tw_1083 (ci := 6) (T := TX5) (N := 7) rfl hk15 hy_X5_total ⟨rfl, rfl⟩ (Nat.le_of_ble_eq_true rfl) (Nat.le_of_ble_eq_true rfl) (Nat.le_of_ble_eq_true rfl) (Nat.le_of_ble_eq_true rfl) (Nat.le_of_ble_eq_true rfl) rfl dX10_sum_23 (fun M18 r19 hK20 hN21 => ?_)
  have hw := hK20 hN21
  have hk22 := Nk_.k hN21 hk14 (by decide)
  have hT23 := Nk_.tr hT16 hN21
  refine r_l2i g dX10_sum_26 ?_
  exact r_iret g hr (Nat.le_of_ble_eq_true rfl) (Nat.le_of_ble_eq_true rfl) rfl dX10_sum_27 hw
def rmX10_groups : Room := { frames := 3, cells := 0, slots := 0, locals := 112 }
theorem hy_X10_groups : yX10_groups.cls ≠ "java/lang/invoke/MethodHandle" ∧ yX10_groups.cls ≠ "java/lang/invoke/VarHandle" ∧ (parseMethodDescriptor yX10_groups.desc).map (fun d => d.parameters.length) = some 1 := by decide +kernel
def wp_X10_groups (a0 : Nat) (x1 : Int32) (M : Mm) (K : Mm → Int32 → Prop) : Prop := kd_ M a0 = 12 ∧ (wp_X10_needColumn a0 x1 M (fun M1 => Nk_ M M1 → (kd_ M1 (rf_ M1 a0 3) = 7 ∧ (kd_ M1 (rf_ M1 a0 0) = 10 ∧ (kd_ M1 (rf_ M1 (rf_ M1 a0 0) 0) = 1 ∧ (wp_Jx4a65c_get_915e3 (rf_ M1 (rf_ M1 a0 0) 0) x1 M1 (fun M9 r10 => Nk_ M1 M9 → (kd_ M9 r10 = 3 ∧ (kd_ M9 (rf_ M9 a0 0) = 10 ∧ (kd_ M9 (rf_ M9 (rf_ M9 a0 0) 4) = 9 ∧ (wp_X5_arrangeGroups (rf_ M1 a0 3) r10 (rf_ M9 (rf_ M9 a0 0) 4) M9 (fun M20 => Nk_ M9 M20 → (kd_ M20 (rf_ M20 a0 3) = 7 ∧ (K M20 (it_ M20 (rf_ M20 a0 3) 2)))))))))))))))
set_option maxHeartbeats 4000000 in
set_option maxRecDepth 100000 in
theorem mt_X10_groups {l : Launch} {D : Dd_} {M : Mm} {a0 : Nat} {x1 : Int32} {K : Mm → Int32 → Prop} (hw : wp_X10_groups a0 x1 M K) (sz : Nat) : Met l yX10_groups (Cond.code yX10_groups cX10_groups 2 (some .int) :: tbG_) rmX10_groups (cPc_ D M sz [.ref a0, .int x1]) (va_Qi (fun r M' => K M' r) (cB_ D M sz) (Aw_ M sz)) 0 0 (Aw_ M sz) := by
  refine ofV (by decide) (Nat.le_of_ble_eq_true rfl) ?_
  intro p e s m below meth c g hr hin hsz
  subst hsz
  obtain ⟨hp0, hw⟩ := hw
  refine r_aload_n g dX10_groups_0 rfl 0 rfl ?_
  refine r_iload_n g dX10_groups_1 rfl 1 rfl ?_
  refine r_callVv (As := [.int x1]) g (fun sz => mt_X10_needColumn hw sz) tw_714 tw_717 tw_1 tw_716 tp_16 (ci := 11) (T := TX10) (N := 6) rfl hp0 hy_X10_needColumn ⟨rfl, rfl⟩ (Nat.le_of_ble_eq_true rfl) (Nat.le_of_ble_eq_true rfl) (Nat.le_of_ble_eq_true rfl) (Nat.le_of_ble_eq_true rfl) (Nat.le_of_ble_eq_true rfl) rfl dX10_groups_2 (fun M1 hK2 hN3 => ?_)
  have hw := hK2 hN3
  have hk4 := Nk_.k hN3 hp0 (by decide)
  have hT5 := Nk_.tr (Nk_.rf _) hN3
  refine r_aload_n g dX10_groups_5 rfl 0 rfl ?_
  obtain ⟨hk6, hw⟩ := hw
  refine r_gtR (C := RX10) (T := TX10) (N := 6) g (ci := 11) rfl tc_X10 hk4 3 (by decide) tw_337 (fun _ h => h) rfl (k_ne hk6 (by decide)) dX10_groups_6 ?_
  refine r_aload_n g dX10_groups_9 rfl 0 rfl ?_
  obtain ⟨hk7, hw⟩ := hw
  refine r_gtR (C := RX10) (T := TX10) (N := 6) g (ci := 11) rfl tc_X10 hk4 0 (by decide) tw_334 (fun _ h => h) rfl (k_ne hk7 (by decide)) dX10_groups_10 ?_
  obtain ⟨hk8, hw⟩ := hw
  refine r_gtR (C := RX8) (T := TX8) (N := 11) g (ci := 9) rfl tc_X8 hk7 0 (by decide) tw_164 (fun _ h => h) rfl (k_ne hk8 (by decide)) dX10_groups_13 ?_
  refine r_iload_n g dX10_groups_16 rfl 1 rfl ?_
  refine r_callVr (As := [.int x1]) g (fun sz => mt_Jx4a65c_get_915e3 hw sz) tw_651 tw_543 tw_5 tw_541 tw_542 (ci := 0) (T := TJx4a65c) (N := 3) rfl hk8 hy_Jx4a65c_get_915e3 ⟨rfl, rfl⟩ (Nat.le_of_ble_eq_true rfl) (Nat.le_of_ble_eq_true rfl) (Nat.le_of_ble_eq_true rfl) (Nat.le_of_ble_eq_true rfl) (Nat.le_of_ble_eq_true rfl) rfl dX10_groups_17 (fun M9 r10 hK11 h13 hN12 => ?_)
  have hw := hK11 hN12
  have hk14 := Nk_.k hN12 hk4 (by decide)
  have hk15 := Nk_.k hN12 hk6 (by decide)
  have hT16 := Nk_.tr hT5 hN12
  obtain ⟨hk17, hw⟩ := hw
  refine r_cast (C := RX1) (T := TX1) (N := 5) g (ci := 2) rfl tw_430 hk17 dX10_groups_20 ?_
  refine r_aload_n g dX10_groups_23 rfl 0 rfl ?_
  obtain ⟨hk18, hw⟩ := hw
  refine r_gtR (C := RX10) (T := TX10) (N := 6) g (ci := 11) rfl tc_X10 hk14 0 (by decide) tw_334 (fun _ h => h) rfl (k_ne hk18 (by decide)) dX10_groups_24 ?_
  obtain ⟨hk19, hw⟩ := hw
  refine r_gtR (C := RX8) (T := TX8) (N := 11) g (ci := 9) rfl tc_X8 hk18 4 (by decide) tw_175 (fun _ h => h) rfl (k_ne hk19 (by decide)) dX10_groups_27 ?_
  refine r_callVv (As := [.ref r10, .ref (rf_ M9 (rf_ M9 a0 0) 4)]) g (fun sz => mt_X5_arrangeGroups hw sz) tw_1053 tw_1056 tw_13 tw_1054 tw_1055 (ci := 6) (T := TX5) (N := 7) rfl hk15 hy_X5_arrangeGroups ⟨rfl, rfl⟩ (Nat.le_of_ble_eq_true rfl) (Nat.le_of_ble_eq_true rfl) (Nat.le_of_ble_eq_true rfl) (Nat.le_of_ble_eq_true rfl) (Nat.le_of_ble_eq_true rfl) rfl dX10_groups_30 (fun M20 hK21 hN22 => ?_)
  have hw := hK21 hN22
  have hk23 := Nk_.k hN22 hk14 (by decide)
  have hT24 := Nk_.tr hT16 hN22
  refine r_aload_n g dX10_groups_33 rfl 0 rfl ?_
  obtain ⟨hk25, hw⟩ := hw
  refine r_gtR (C := RX10) (T := TX10) (N := 6) g (ci := 11) rfl tc_X10 hk23 3 (by decide) tw_337 (fun _ h => h) rfl (k_ne hk25 (by decide)) dX10_groups_34 ?_
  refine r_gt (C := RX5) (T := TX5) (N := 7) g (ci := 6) rfl tc_X5 hk25 2 (by decide) tw_314 (fun _ h => h) rfl dX10_groups_37 ?_
  exact r_iret g hr (Nat.le_of_ble_eq_true rfl) (Nat.le_of_ble_eq_true rfl) rfl dX10_groups_40 hw
def rmX10_ofGroup : Room := { frames := 3, cells := 0, slots := 0, locals := 112 }
theorem hy_X10_ofGroup : yX10_ofGroup.cls ≠ "java/lang/invoke/MethodHandle" ∧ yX10_ofGroup.cls ≠ "java/lang/invoke/VarHandle" ∧ (parseMethodDescriptor yX10_ofGroup.desc).map (fun d => d.parameters.length) = some 4 := by decide +kernel
def wp_X10_ofGroup (a0 : Nat) (x1 : Int32) (x2 : Int32) (x3 : Int32) (x4 : Int32) (M : Mm) (K : Mm → Int32 → Prop) : Prop := kd_ M a0 = 12 ∧ (wp_X10_needColumn a0 x1 M (fun M1 => Nk_ M M1 → (wp_X10_needColumn a0 x3 M1 (fun M6 => Nk_ M1 M6 → (kd_ M6 (rf_ M6 a0 0) = 10 ∧ (kd_ M6 (rf_ M6 (rf_ M6 a0 0) 0) = 1 ∧ (wp_Jx4a65c_get_915e3 (rf_ M6 (rf_ M6 a0 0) 0) x1 M6 (fun M13 r14 => Nk_ M6 M13 → (kd_ M13 r14 = 3 ∧ (kd_ M13 (rf_ M13 a0 3) = 7 ∧ (kd_ M13 (rf_ M13 a0 0) = 10 ∧ (kd_ M13 (rf_ M13 (rf_ M13 a0 0) 4) = 9 ∧ (wp_X5_arrangeGroups (rf_ M13 a0 3) r14 (rf_ M13 (rf_ M13 a0 0) 4) M13 (fun M24 => Nk_ M13 M24 → ((x2 < 0 → False) ∧ (¬ x2 < 0 → (kd_ M24 (rf_ M24 a0 3) = 7 ∧ ((x2 < (it_ M24 (rf_ M24 a0 3) 2) → ((x4 < 0 → False) ∧ (¬ x4 < 0 → ((x4 < (5 : Int32) → (kd_ M24 (rf_ M24 a0 0) = 10 ∧ (kd_ M24 (rf_ M24 (rf_ M24 a0 0) 0) = 1 ∧ (wp_Jx4a65c_get_915e3 (rf_ M24 (rf_ M24 a0 0) 0) x3 M24 (fun M43 r44 => Nk_ M24 M43 → (kd_ M43 r44 = 3 ∧ (wp_X5_accountOf (rf_ M24 a0 3) x2 r14 r44 x4 M43 (fun M53 r54 => Nk_ M43 M53 → (K M53 r54))))))))) ∧ (¬ x4 < (5 : Int32) → False))))) ∧ (¬ x2 < (it_ M24 (rf_ M24 a0 3) 2) → False)))))))))))))))))))
set_option maxHeartbeats 4000000 in
set_option maxRecDepth 100000 in
theorem mt_X10_ofGroup {l : Launch} {D : Dd_} {M : Mm} {a0 : Nat} {x1 : Int32} {x2 : Int32} {x3 : Int32} {x4 : Int32} {K : Mm → Int32 → Prop} (hw : wp_X10_ofGroup a0 x1 x2 x3 x4 M K) (sz : Nat) : Met l yX10_ofGroup (Cond.code yX10_ofGroup cX10_ofGroup 6 (some .int) :: tbG_) rmX10_ofGroup (cPc_ D M sz [.ref a0, .int x1, .int x2, .int x3, .int x4]) (va_Qi (fun r M' => K M' r) (cB_ D M sz) (Aw_ M sz)) 0 0 (Aw_ M sz) := by
  refine ofV (by decide) (Nat.le_of_ble_eq_true rfl) ?_
  intro p e s m below meth c g hr hin hsz
  subst hsz
  obtain ⟨hp0, hw⟩ := hw
  refine r_aload_n g dX10_ofGroup_0 rfl 0 rfl ?_
  refine r_iload_n g dX10_ofGroup_1 rfl 1 rfl ?_
  refine r_callVv (As := [.int x1]) g (fun sz => mt_X10_needColumn hw sz) tw_714 tw_717 tw_1 tw_716 tp_16 (ci := 11) (T := TX10) (N := 6) rfl hp0 hy_X10_needColumn ⟨rfl, rfl⟩ (Nat.le_of_ble_eq_true rfl) (Nat.le_of_ble_eq_true rfl) (Nat.le_of_ble_eq_true rfl) (Nat.le_of_ble_eq_true rfl) (Nat.le_of_ble_eq_true rfl) rfl dX10_ofGroup_2 (fun M1 hK2 hN3 => ?_)
  have hw := hK2 hN3
  have hk4 := Nk_.k hN3 hp0 (by decide)
  have hT5 := Nk_.tr (Nk_.rf _) hN3
  refine r_aload_n g dX10_ofGroup_5 rfl 0 rfl ?_
  refine r_iload_n g dX10_ofGroup_6 rfl 3 rfl ?_
  refine r_callVv (As := [.int x3]) g (fun sz => mt_X10_needColumn hw sz) tw_714 tw_717 tw_1 tw_716 tp_16 (ci := 11) (T := TX10) (N := 6) rfl hk4 hy_X10_needColumn ⟨rfl, rfl⟩ (Nat.le_of_ble_eq_true rfl) (Nat.le_of_ble_eq_true rfl) (Nat.le_of_ble_eq_true rfl) (Nat.le_of_ble_eq_true rfl) (Nat.le_of_ble_eq_true rfl) rfl dX10_ofGroup_7 (fun M6 hK7 hN8 => ?_)
  have hw := hK7 hN8
  have hk9 := Nk_.k hN8 hk4 (by decide)
  have hT10 := Nk_.tr hT5 hN8
  refine r_aload_n g dX10_ofGroup_10 rfl 0 rfl ?_
  obtain ⟨hk11, hw⟩ := hw
  refine r_gtR (C := RX10) (T := TX10) (N := 6) g (ci := 11) rfl tc_X10 hk9 0 (by decide) tw_334 (fun _ h => h) rfl (k_ne hk11 (by decide)) dX10_ofGroup_11 ?_
  obtain ⟨hk12, hw⟩ := hw
  refine r_gtR (C := RX8) (T := TX8) (N := 11) g (ci := 9) rfl tc_X8 hk11 0 (by decide) tw_164 (fun _ h => h) rfl (k_ne hk12 (by decide)) dX10_ofGroup_14 ?_
  refine r_iload_n g dX10_ofGroup_17 rfl 1 rfl ?_
  refine r_callVr (As := [.int x1]) g (fun sz => mt_Jx4a65c_get_915e3 hw sz) tw_651 tw_543 tw_5 tw_541 tw_542 (ci := 0) (T := TJx4a65c) (N := 3) rfl hk12 hy_Jx4a65c_get_915e3 ⟨rfl, rfl⟩ (Nat.le_of_ble_eq_true rfl) (Nat.le_of_ble_eq_true rfl) (Nat.le_of_ble_eq_true rfl) (Nat.le_of_ble_eq_true rfl) (Nat.le_of_ble_eq_true rfl) rfl dX10_ofGroup_18 (fun M13 r14 hK15 h17 hN16 => ?_)
  have hw := hK15 hN16
  have hk18 := Nk_.k hN16 hk9 (by decide)
  have hT19 := Nk_.tr hT10 hN16
  obtain ⟨hk20, hw⟩ := hw
  refine r_cast (C := RX1) (T := TX1) (N := 5) g (ci := 2) rfl tw_430 hk20 dX10_ofGroup_21 ?_
  refine r_astore (L' := [(5, .ref r14), (0, .ref a0), (1, .int x1), (2, .int x2), (3, .int x3), (4, .int x4)]) g dX10_ofGroup_24 (by decide) rfl ?_
  refine r_aload_n g dX10_ofGroup_26 rfl 1 rfl ?_
  obtain ⟨hk21, hw⟩ := hw
  refine r_gtR (C := RX10) (T := TX10) (N := 6) g (ci := 11) rfl tc_X10 hk18 3 (by decide) tw_337 (fun _ h => h) rfl (k_ne hk21 (by decide)) dX10_ofGroup_27 ?_
  refine r_aload g dX10_ofGroup_30 0 rfl ?_
  refine r_aload_n g dX10_ofGroup_32 rfl 1 rfl ?_
  obtain ⟨hk22, hw⟩ := hw
  refine r_gtR (C := RX10) (T := TX10) (N := 6) g (ci := 11) rfl tc_X10 hk18 0 (by decide) tw_334 (fun _ h => h) rfl (k_ne hk22 (by decide)) dX10_ofGroup_33 ?_
  obtain ⟨hk23, hw⟩ := hw
  refine r_gtR (C := RX8) (T := TX8) (N := 11) g (ci := 9) rfl tc_X8 hk22 4 (by decide) tw_175 (fun _ h => h) rfl (k_ne hk23 (by decide)) dX10_ofGroup_36 ?_
  refine r_callVv (As := [.ref r14, .ref (rf_ M13 (rf_ M13 a0 0) 4)]) g (fun sz => mt_X5_arrangeGroups hw sz) tw_1053 tw_1056 tw_13 tw_1054 tw_1055 (ci := 6) (T := TX5) (N := 7) rfl hk21 hy_X5_arrangeGroups ⟨rfl, rfl⟩ (Nat.le_of_ble_eq_true rfl) (Nat.le_of_ble_eq_true rfl) (Nat.le_of_ble_eq_true rfl) (Nat.le_of_ble_eq_true rfl) (Nat.le_of_ble_eq_true rfl) rfl dX10_ofGroup_39 (fun M24 hK25 hN26 => ?_)
  have hw := hK25 hN26
  have hk27 := Nk_.k hN26 hk20 (by decide)
  have hk28 := Nk_.k hN26 hk18 (by decide)
  have hT29 := Nk_.tr hT19 hN26
  refine r_iload_n g dX10_ofGroup_42 rfl 3 rfl ?_
  refine r_if_lt (tgt := 57) g dX10_ofGroup_43 (by decide) (fun hc30 => ?_) (fun hc30 => ?_)
  · have hw := hw.1 hc30
    exact hw.elim
  · have hw := hw.2 hc30
    refine r_iload_n g dX10_ofGroup_46 rfl 3 rfl ?_
    refine r_aload_n g dX10_ofGroup_47 rfl 1 rfl ?_
    obtain ⟨hk34, hw⟩ := hw
    refine r_gtR (C := RX10) (T := TX10) (N := 6) g (ci := 11) rfl tc_X10 hk28 3 (by decide) tw_337 (fun _ h => h) rfl (k_ne hk34 (by decide)) dX10_ofGroup_48 ?_
    refine r_gt (C := RX5) (T := TX5) (N := 7) g (ci := 6) rfl tc_X5 hk34 2 (by decide) tw_314 (fun _ h => h) rfl dX10_ofGroup_51 ?_
    refine r_icmp_lt (tgt := 68) g dX10_ofGroup_54 (by decide) (fun hc35 => ?_) (fun hc35 => ?_)
    · have hw := hw.1 hc35
      refine r_iload g dX10_ofGroup_68 5 rfl ?_
      refine r_if_lt (tgt := 79) g dX10_ofGroup_70 (by decide) (fun hc36 => ?_) (fun hc36 => ?_)
      · have hw := hw.1 hc36
        exact hw.elim
      · have hw := hw.2 hc36
        refine r_iload g dX10_ofGroup_73 5 rfl ?_
        refine r_iconst (v := 5) g dX10_ofGroup_75 (by decide) ?_
        refine r_icmp_lt (tgt := 90) g dX10_ofGroup_76 (by decide) (fun hc40 => ?_) (fun hc40 => ?_)
        · have hw := hw.1 hc40
          refine r_aload_n g dX10_ofGroup_90 rfl 1 rfl ?_
          refine r_gtR (C := RX10) (T := TX10) (N := 6) g (ci := 11) rfl tc_X10 hk28 3 (by decide) tw_337 (fun _ h => h) rfl (k_ne hk34 (by decide)) dX10_ofGroup_91 ?_
          refine r_iload_n g dX10_ofGroup_94 rfl 3 rfl ?_
          refine r_aload g dX10_ofGroup_95 0 rfl ?_
          refine r_aload_n g dX10_ofGroup_97 rfl 1 rfl ?_
          obtain ⟨hk41, hw⟩ := hw
          refine r_gtR (C := RX10) (T := TX10) (N := 6) g (ci := 11) rfl tc_X10 hk28 0 (by decide) tw_334 (fun _ h => h) rfl (k_ne hk41 (by decide)) dX10_ofGroup_98 ?_
          obtain ⟨hk42, hw⟩ := hw
          refine r_gtR (C := RX8) (T := TX8) (N := 11) g (ci := 9) rfl tc_X8 hk41 0 (by decide) tw_164 (fun _ h => h) rfl (k_ne hk42 (by decide)) dX10_ofGroup_101 ?_
          refine r_iload_n g dX10_ofGroup_104 rfl 4 rfl ?_
          refine r_callVr (As := [.int x3]) g (fun sz => mt_Jx4a65c_get_915e3 hw sz) tw_651 tw_543 tw_5 tw_541 tw_542 (ci := 0) (T := TJx4a65c) (N := 3) rfl hk42 hy_Jx4a65c_get_915e3 ⟨rfl, rfl⟩ (Nat.le_of_ble_eq_true rfl) (Nat.le_of_ble_eq_true rfl) (Nat.le_of_ble_eq_true rfl) (Nat.le_of_ble_eq_true rfl) (Nat.le_of_ble_eq_true rfl) rfl dX10_ofGroup_105 (fun M43 r44 hK45 h47 hN46 => ?_)
          have hw := hK45 hN46
          have hk48 := Nk_.k hN46 hk28 (by decide)
          have hk49 := Nk_.k hN46 hk27 (by decide)
          have hk50 := Nk_.k hN46 hk34 (by decide)
          have hT51 := Nk_.tr hT29 hN46
          obtain ⟨hk52, hw⟩ := hw
          refine r_cast (C := RX1) (T := TX1) (N := 5) g (ci := 2) rfl tw_430 hk52 dX10_ofGroup_108 ?_
          refine r_iload g dX10_ofGroup_111 5 rfl ?_
          refine r_callVi (As := [.int x2, .ref r14, .ref r44, .int x4]) g (fun sz => mt_X5_accountOf hw sz) tw_1065 tw_1068 tw_13 tw_1066 tw_1067 (ci := 6) (T := TX5) (N := 7) rfl hk50 hy_X5_accountOf ⟨rfl, rfl⟩ (Nat.le_of_ble_eq_true rfl) (Nat.le_of_ble_eq_true rfl) (Nat.le_of_ble_eq_true rfl) (Nat.le_of_ble_eq_true rfl) (Nat.le_of_ble_eq_true rfl) rfl dX10_ofGroup_113 (fun M53 r54 hK55 hN56 => ?_)
          have hw := hK55 hN56
          have hk57 := Nk_.k hN56 hk48 (by decide)
          have hT58 := Nk_.tr hT51 hN56
          exact r_iret g hr (Nat.le_of_ble_eq_true rfl) (Nat.le_of_ble_eq_true rfl) rfl dX10_ofGroup_116 hw
        · have hw := hw.2 hc40
          exact hw.elim
    · have hw := hw.2 hc35
      exact hw.elim
def rmX10_keep : Room := { frames := 2, cells := 0, slots := 0, locals := 80 }
theorem hy_X10_keep : yX10_keep.cls ≠ "java/lang/invoke/MethodHandle" ∧ yX10_keep.cls ≠ "java/lang/invoke/VarHandle" ∧ (parseMethodDescriptor yX10_keep.desc).map (fun d => d.parameters.length) = some 0 := by decide +kernel
def wp_X10_keep (a0 : Nat) (M : Mm) (K : Mm → Int32 → Prop) : Prop := kd_ M a0 = 12 ∧ (kd_ M (rf_ M a0 3) = 7 ∧ (wp_X5_keepRows (rf_ M a0 3) M (fun M2 r3 => Nk_ M M2 → (K M2 r3))))
set_option maxHeartbeats 4000000 in
set_option maxRecDepth 100000 in
theorem mt_X10_keep {l : Launch} {D : Dd_} {M : Mm} {a0 : Nat} {K : Mm → Int32 → Prop} (hw : wp_X10_keep a0 M K) (sz : Nat) : Met l yX10_keep (Cond.code yX10_keep cX10_keep 1 (some .int) :: tbG_) rmX10_keep (cPc_ D M sz [.ref a0]) (va_Qi (fun r M' => K M' r) (cB_ D M sz) (Aw_ M sz)) 0 0 (Aw_ M sz) := by
  refine ofV (by decide) (Nat.le_of_ble_eq_true rfl) ?_
  intro p e s m below meth c g hr hin hsz
  subst hsz
  obtain ⟨hp0, hw⟩ := hw
  refine r_aload_n g dX10_keep_0 rfl 0 rfl ?_
  obtain ⟨hk1, hw⟩ := hw
  refine r_gtR (C := RX10) (T := TX10) (N := 6) g (ci := 11) rfl tc_X10 hp0 3 (by decide) tw_337 (fun _ h => h) rfl (k_ne hk1 (by decide)) dX10_keep_1 ?_
  refine r_callVi (As := []) g (fun sz => mt_X5_keepRows hw sz) tw_1094 tw_1097 tw_13 tw_1095 tw_1096 (ci := 6) (T := TX5) (N := 7) rfl hk1 hy_X5_keepRows ⟨rfl, rfl⟩ (Nat.le_of_ble_eq_true rfl) (Nat.le_of_ble_eq_true rfl) (Nat.le_of_ble_eq_true rfl) (Nat.le_of_ble_eq_true rfl) (Nat.le_of_ble_eq_true rfl) rfl dX10_keep_4 (fun M2 r3 hK4 hN5 => ?_)
  have hw := hK4 hN5
  have hk6 := Nk_.k hN5 hp0 (by decide)
  have hT7 := Nk_.tr (Nk_.rf _) hN5
  exact r_iret g hr (Nat.le_of_ble_eq_true rfl) (Nat.le_of_ble_eq_true rfl) rfl dX10_keep_7 hw
def rmX10_pairs : Room := { frames := 3, cells := 0, slots := 0, locals := 64 }
theorem hy_X10_pairs : yX10_pairs.cls ≠ "java/lang/invoke/MethodHandle" ∧ yX10_pairs.cls ≠ "java/lang/invoke/VarHandle" ∧ (parseMethodDescriptor yX10_pairs.desc).map (fun d => d.parameters.length) = some 2 := by decide +kernel
def wp_X10_pairs (a0 : Nat) (x1 : Int32) (x2 : Int32) (M : Mm) (K : Mm → Int32 → Prop) : Prop := kd_ M a0 = 12 ∧ (wp_X10_needColumn a0 x1 M (fun M1 => Nk_ M M1 → (wp_X10_needColumn a0 x2 M1 (fun M6 => Nk_ M1 M6 → (kd_ M6 (rf_ M6 a0 3) = 7 ∧ (kd_ M6 (rf_ M6 a0 0) = 10 ∧ (kd_ M6 (rf_ M6 (rf_ M6 a0 0) 0) = 1 ∧ (wp_Jx4a65c_get_915e3 (rf_ M6 (rf_ M6 a0 0) 0) x1 M6 (fun M14 r15 => Nk_ M6 M14 → (kd_ M14 r15 = 3 ∧ (kd_ M14 (rf_ M14 a0 0) = 10 ∧ (kd_ M14 (rf_ M14 (rf_ M14 a0 0) 0) = 1 ∧ (wp_Jx4a65c_get_915e3 (rf_ M14 (rf_ M14 a0 0) 0) x2 M14 (fun M25 r26 => Nk_ M14 M25 → (kd_ M25 r26 = 3 ∧ (wp_X5_pairCount (rf_ M6 a0 3) r15 r26 M25 (fun M35 r36 => Nk_ M25 M35 → (K M35 r36))))))))))))))))))
set_option maxHeartbeats 4000000 in
set_option maxRecDepth 100000 in
theorem mt_X10_pairs {l : Launch} {D : Dd_} {M : Mm} {a0 : Nat} {x1 : Int32} {x2 : Int32} {K : Mm → Int32 → Prop} (hw : wp_X10_pairs a0 x1 x2 M K) (sz : Nat) : Met l yX10_pairs (Cond.code yX10_pairs cX10_pairs 3 (some .int) :: tbG_) rmX10_pairs (cPc_ D M sz [.ref a0, .int x1, .int x2]) (va_Qi (fun r M' => K M' r) (cB_ D M sz) (Aw_ M sz)) 0 0 (Aw_ M sz) := by
  refine ofV (by decide) (Nat.le_of_ble_eq_true rfl) ?_
  intro p e s m below meth c g hr hin hsz
  subst hsz
  obtain ⟨hp0, hw⟩ := hw
  refine r_aload_n g dX10_pairs_0 rfl 0 rfl ?_
  refine r_iload_n g dX10_pairs_1 rfl 1 rfl ?_
  refine r_callVv (As := [.int x1]) g (fun sz => mt_X10_needColumn hw sz) tw_714 tw_717 tw_1 tw_716 tp_16 (ci := 11) (T := TX10) (N := 6) rfl hp0 hy_X10_needColumn ⟨rfl, rfl⟩ (Nat.le_of_ble_eq_true rfl) (Nat.le_of_ble_eq_true rfl) (Nat.le_of_ble_eq_true rfl) (Nat.le_of_ble_eq_true rfl) (Nat.le_of_ble_eq_true rfl) rfl dX10_pairs_2 (fun M1 hK2 hN3 => ?_)
  have hw := hK2 hN3
  have hk4 := Nk_.k hN3 hp0 (by decide)
  have hT5 := Nk_.tr (Nk_.rf _) hN3
  refine r_aload_n g dX10_pairs_5 rfl 0 rfl ?_
  refine r_iload_n g dX10_pairs_6 rfl 2 rfl ?_
  refine r_callVv (As := [.int x2]) g (fun sz => mt_X10_needColumn hw sz) tw_714 tw_717 tw_1 tw_716 tp_16 (ci := 11) (T := TX10) (N := 6) rfl hk4 hy_X10_needColumn ⟨rfl, rfl⟩ (Nat.le_of_ble_eq_true rfl) (Nat.le_of_ble_eq_true rfl) (Nat.le_of_ble_eq_true rfl) (Nat.le_of_ble_eq_true rfl) (Nat.le_of_ble_eq_true rfl) rfl dX10_pairs_7 (fun M6 hK7 hN8 => ?_)
  have hw := hK7 hN8
  have hk9 := Nk_.k hN8 hk4 (by decide)
  have hT10 := Nk_.tr hT5 hN8
  refine r_aload_n g dX10_pairs_10 rfl 0 rfl ?_
  obtain ⟨hk11, hw⟩ := hw
  refine r_gtR (C := RX10) (T := TX10) (N := 6) g (ci := 11) rfl tc_X10 hk9 3 (by decide) tw_337 (fun _ h => h) rfl (k_ne hk11 (by decide)) dX10_pairs_11 ?_
  refine r_aload_n g dX10_pairs_14 rfl 0 rfl ?_
  obtain ⟨hk12, hw⟩ := hw
  refine r_gtR (C := RX10) (T := TX10) (N := 6) g (ci := 11) rfl tc_X10 hk9 0 (by decide) tw_334 (fun _ h => h) rfl (k_ne hk12 (by decide)) dX10_pairs_15 ?_
  obtain ⟨hk13, hw⟩ := hw
  refine r_gtR (C := RX8) (T := TX8) (N := 11) g (ci := 9) rfl tc_X8 hk12 0 (by decide) tw_164 (fun _ h => h) rfl (k_ne hk13 (by decide)) dX10_pairs_18 ?_
  refine r_iload_n g dX10_pairs_21 rfl 1 rfl ?_
  refine r_callVr (As := [.int x1]) g (fun sz => mt_Jx4a65c_get_915e3 hw sz) tw_651 tw_543 tw_5 tw_541 tw_542 (ci := 0) (T := TJx4a65c) (N := 3) rfl hk13 hy_Jx4a65c_get_915e3 ⟨rfl, rfl⟩ (Nat.le_of_ble_eq_true rfl) (Nat.le_of_ble_eq_true rfl) (Nat.le_of_ble_eq_true rfl) (Nat.le_of_ble_eq_true rfl) (Nat.le_of_ble_eq_true rfl) rfl dX10_pairs_22 (fun M14 r15 hK16 h18 hN17 => ?_)
  have hw := hK16 hN17
  have hk19 := Nk_.k hN17 hk9 (by decide)
  have hk20 := Nk_.k hN17 hk11 (by decide)
  have hT21 := Nk_.tr hT10 hN17
  obtain ⟨hk22, hw⟩ := hw
  refine r_cast (C := RX1) (T := TX1) (N := 5) g (ci := 2) rfl tw_430 hk22 dX10_pairs_25 ?_
  refine r_aload_n g dX10_pairs_28 rfl 0 rfl ?_
  obtain ⟨hk23, hw⟩ := hw
  refine r_gtR (C := RX10) (T := TX10) (N := 6) g (ci := 11) rfl tc_X10 hk19 0 (by decide) tw_334 (fun _ h => h) rfl (k_ne hk23 (by decide)) dX10_pairs_29 ?_
  obtain ⟨hk24, hw⟩ := hw
  refine r_gtR (C := RX8) (T := TX8) (N := 11) g (ci := 9) rfl tc_X8 hk23 0 (by decide) tw_164 (fun _ h => h) rfl (k_ne hk24 (by decide)) dX10_pairs_32 ?_
  refine r_iload_n g dX10_pairs_35 rfl 2 rfl ?_
  refine r_callVr (As := [.int x2]) g (fun sz => mt_Jx4a65c_get_915e3 hw sz) tw_651 tw_543 tw_5 tw_541 tw_542 (ci := 0) (T := TJx4a65c) (N := 3) rfl hk24 hy_Jx4a65c_get_915e3 ⟨rfl, rfl⟩ (Nat.le_of_ble_eq_true rfl) (Nat.le_of_ble_eq_true rfl) (Nat.le_of_ble_eq_true rfl) (Nat.le_of_ble_eq_true rfl) (Nat.le_of_ble_eq_true rfl) rfl dX10_pairs_36 (fun M25 r26 hK27 h29 hN28 => ?_)
  have hw := hK27 hN28
  have hk30 := Nk_.k hN28 hk19 (by decide)
  have hk31 := Nk_.k hN28 hk22 (by decide)
  have hk32 := Nk_.k hN28 hk20 (by decide)
  have hT33 := Nk_.tr hT21 hN28
  obtain ⟨hk34, hw⟩ := hw
  refine r_cast (C := RX1) (T := TX1) (N := 5) g (ci := 2) rfl tw_430 hk34 dX10_pairs_39 ?_
  refine r_callVi (As := [.ref r15, .ref r26]) g (fun sz => mt_X5_pairCount hw sz) tw_1102 tw_1105 tw_13 tw_1103 tw_1104 (ci := 6) (T := TX5) (N := 7) rfl hk32 hy_X5_pairCount ⟨rfl, rfl⟩ (Nat.le_of_ble_eq_true rfl) (Nat.le_of_ble_eq_true rfl) (Nat.le_of_ble_eq_true rfl) (Nat.le_of_ble_eq_true rfl) (Nat.le_of_ble_eq_true rfl) rfl dX10_pairs_42 (fun M35 r36 hK37 hN38 => ?_)
  have hw := hK37 hN38
  have hk39 := Nk_.k hN38 hk30 (by decide)
  have hT40 := Nk_.tr hT33 hN38
  exact r_iret g hr (Nat.le_of_ble_eq_true rfl) (Nat.le_of_ble_eq_true rfl) rfl dX10_pairs_45 hw
def rmX10_costWithout : Room := { frames := 7, cells := 0, slots := 0, locals := 171 }
theorem hy_X10_costWithout : yX10_costWithout.cls ≠ "java/lang/invoke/MethodHandle" ∧ yX10_costWithout.cls ≠ "java/lang/invoke/VarHandle" ∧ (parseMethodDescriptor yX10_costWithout.desc).map (fun d => d.parameters.length) = some 0 := by decide +kernel
def wp_X10_costWithout (a0 : Nat) (M : Mm) (K : Mm → Int32 → Prop) : Prop := kd_ M a0 = 12 ∧ (kd_ M (rf_ M a0 2) = 8 ∧ (kd_ M (rf_ M a0 0) = 10 ∧ (kd_ M (rf_ M a0 1) = 6 ∧ (wp_X6_run (rf_ M a0 2) (rf_ M a0 0) (rf_ M a0 1) (0 : Int32) M (fun M4 => Nk_ M M4 → (kd_ M4 (rf_ M4 a0 2) = 8 ∧ (K M4 (it_ M4 (rf_ M4 a0 2) 2))))))))
set_option maxHeartbeats 4000000 in
set_option maxRecDepth 100000 in
theorem mt_X10_costWithout {l : Launch} {D : Dd_} {M : Mm} {a0 : Nat} {K : Mm → Int32 → Prop} (hw : wp_X10_costWithout a0 M K) (sz : Nat) : Met l yX10_costWithout (Cond.code yX10_costWithout cX10_costWithout 1 (some .int) :: tbG_) rmX10_costWithout (cPc_ D M sz [.ref a0]) (va_Qi (fun r M' => K M' r) (cB_ D M sz) (Aw_ M sz)) 0 0 (Aw_ M sz) := by
  refine ofV (by decide) (Nat.le_of_ble_eq_true rfl) ?_
  intro p e s m below meth c g hr hin hsz
  subst hsz
  obtain ⟨hp0, hw⟩ := hw
  refine r_aload_n g dX10_costWithout_0 rfl 0 rfl ?_
  obtain ⟨hk1, hw⟩ := hw
  refine r_gtR (C := RX10) (T := TX10) (N := 6) g (ci := 11) rfl tc_X10 hp0 2 (by decide) tw_336 (fun _ h => h) rfl (k_ne hk1 (by decide)) dX10_costWithout_1 ?_
  refine r_aload_n g dX10_costWithout_4 rfl 0 rfl ?_
  obtain ⟨hk2, hw⟩ := hw
  refine r_gtR (C := RX10) (T := TX10) (N := 6) g (ci := 11) rfl tc_X10 hp0 0 (by decide) tw_334 (fun _ h => h) rfl (k_ne hk2 (by decide)) dX10_costWithout_5 ?_
  refine r_aload_n g dX10_costWithout_8 rfl 0 rfl ?_
  obtain ⟨hk3, hw⟩ := hw
  refine r_gtR (C := RX10) (T := TX10) (N := 6) g (ci := 11) rfl tc_X10 hp0 1 (by decide) tw_335 (fun _ h => h) rfl (k_ne hk3 (by decide)) dX10_costWithout_9 ?_
  refine r_iconst (v := 0) g dX10_costWithout_12 (by decide) ?_
  refine r_callVv (As := [.ref (rf_ M a0 0), .ref (rf_ M a0 1), .int (0 : Int32)]) g (fun sz => mt_X6_run hw sz) tw_531 tw_534 tw_12 tw_532 tw_533 (ci := 7) (T := TX6) (N := 10) rfl hk1 hy_X6_run ⟨rfl, rfl⟩ (Nat.le_of_ble_eq_true rfl) (Nat.le_of_ble_eq_true rfl) (Nat.le_of_ble_eq_true rfl) (Nat.le_of_ble_eq_true rfl) (Nat.le_of_ble_eq_true rfl) rfl dX10_costWithout_13 (fun M4 hK5 hN6 => ?_)
  have hw := hK5 hN6
  have hk7 := Nk_.k hN6 hp0 (by decide)
  have hT8 := Nk_.tr (Nk_.rf _) hN6
  refine r_aload_n g dX10_costWithout_16 rfl 0 rfl ?_
  obtain ⟨hk9, hw⟩ := hw
  refine r_gtR (C := RX10) (T := TX10) (N := 6) g (ci := 11) rfl tc_X10 hk7 2 (by decide) tw_336 (fun _ h => h) rfl (k_ne hk9 (by decide)) dX10_costWithout_17 ?_
  refine r_gt (C := RX6) (T := TX6) (N := 10) g (ci := 7) rfl tc_X6 hk9 2 (by decide) tw_273 (fun _ h => h) rfl dX10_costWithout_20 ?_
  exact r_iret g hr (Nat.le_of_ble_eq_true rfl) (Nat.le_of_ble_eq_true rfl) rfl dX10_costWithout_23 hw
def rmX10_wouldFind : Room := { frames := 7, cells := 0, slots := 0, locals := 171 }
theorem hy_X10_wouldFind : yX10_wouldFind.cls ≠ "java/lang/invoke/MethodHandle" ∧ yX10_wouldFind.cls ≠ "java/lang/invoke/VarHandle" ∧ (parseMethodDescriptor yX10_wouldFind.desc).map (fun d => d.parameters.length) = some 0 := by decide +kernel
def wp_X10_wouldFind (a0 : Nat) (M : Mm) (K : Mm → Int32 → Prop) : Prop := kd_ M a0 = 12 ∧ (kd_ M (rf_ M a0 2) = 8 ∧ (kd_ M (rf_ M a0 0) = 10 ∧ (kd_ M (rf_ M a0 1) = 6 ∧ (wp_X6_run (rf_ M a0 2) (rf_ M a0 0) (rf_ M a0 1) (1 : Int32) M (fun M4 => Nk_ M M4 → (kd_ M4 (rf_ M4 a0 2) = 8 ∧ (K M4 (it_ M4 (rf_ M4 a0 2) 1))))))))
set_option maxHeartbeats 4000000 in
set_option maxRecDepth 100000 in
theorem mt_X10_wouldFind {l : Launch} {D : Dd_} {M : Mm} {a0 : Nat} {K : Mm → Int32 → Prop} (hw : wp_X10_wouldFind a0 M K) (sz : Nat) : Met l yX10_wouldFind (Cond.code yX10_wouldFind cX10_wouldFind 1 (some .int) :: tbG_) rmX10_wouldFind (cPc_ D M sz [.ref a0]) (va_Qi (fun r M' => K M' r) (cB_ D M sz) (Aw_ M sz)) 0 0 (Aw_ M sz) := by
  refine ofV (by decide) (Nat.le_of_ble_eq_true rfl) ?_
  intro p e s m below meth c g hr hin hsz
  subst hsz
  obtain ⟨hp0, hw⟩ := hw
  refine r_aload_n g dX10_wouldFind_0 rfl 0 rfl ?_
  obtain ⟨hk1, hw⟩ := hw
  refine r_gtR (C := RX10) (T := TX10) (N := 6) g (ci := 11) rfl tc_X10 hp0 2 (by decide) tw_336 (fun _ h => h) rfl (k_ne hk1 (by decide)) dX10_wouldFind_1 ?_
  refine r_aload_n g dX10_wouldFind_4 rfl 0 rfl ?_
  obtain ⟨hk2, hw⟩ := hw
  refine r_gtR (C := RX10) (T := TX10) (N := 6) g (ci := 11) rfl tc_X10 hp0 0 (by decide) tw_334 (fun _ h => h) rfl (k_ne hk2 (by decide)) dX10_wouldFind_5 ?_
  refine r_aload_n g dX10_wouldFind_8 rfl 0 rfl ?_
  obtain ⟨hk3, hw⟩ := hw
  refine r_gtR (C := RX10) (T := TX10) (N := 6) g (ci := 11) rfl tc_X10 hp0 1 (by decide) tw_335 (fun _ h => h) rfl (k_ne hk3 (by decide)) dX10_wouldFind_9 ?_
  refine r_iconst (v := 1) g dX10_wouldFind_12 (by decide) ?_
  refine r_callVv (As := [.ref (rf_ M a0 0), .ref (rf_ M a0 1), .int (1 : Int32)]) g (fun sz => mt_X6_run hw sz) tw_531 tw_534 tw_12 tw_532 tw_533 (ci := 7) (T := TX6) (N := 10) rfl hk1 hy_X6_run ⟨rfl, rfl⟩ (Nat.le_of_ble_eq_true rfl) (Nat.le_of_ble_eq_true rfl) (Nat.le_of_ble_eq_true rfl) (Nat.le_of_ble_eq_true rfl) (Nat.le_of_ble_eq_true rfl) rfl dX10_wouldFind_13 (fun M4 hK5 hN6 => ?_)
  have hw := hK5 hN6
  have hk7 := Nk_.k hN6 hp0 (by decide)
  have hT8 := Nk_.tr (Nk_.rf _) hN6
  refine r_aload_n g dX10_wouldFind_16 rfl 0 rfl ?_
  obtain ⟨hk9, hw⟩ := hw
  refine r_gtR (C := RX10) (T := TX10) (N := 6) g (ci := 11) rfl tc_X10 hk7 2 (by decide) tw_336 (fun _ h => h) rfl (k_ne hk9 (by decide)) dX10_wouldFind_17 ?_
  refine r_gt (C := RX6) (T := TX6) (N := 10) g (ci := 7) rfl tc_X6 hk9 1 (by decide) tw_271 (fun _ h => h) rfl dX10_wouldFind_20 ?_
  exact r_iret g hr (Nat.le_of_ble_eq_true rfl) (Nat.le_of_ble_eq_true rfl) rfl dX10_wouldFind_23 hw
def rmX10_digestOfZone : Room := { frames := 1, cells := 0, slots := 0, locals := 23 }
theorem hy_X10_digestOfZone : yX10_digestOfZone.cls ≠ "java/lang/invoke/MethodHandle" ∧ yX10_digestOfZone.cls ≠ "java/lang/invoke/VarHandle" ∧ (parseMethodDescriptor yX10_digestOfZone.desc).map (fun d => d.parameters.length) = some 2 := by decide +kernel
def wp_X10_digestOfZone (y0 : Int64) (a2 : Nat) (M : Mm) (K : Mm → Int64 → Prop) : Prop := kd_ M a2 = 11 ∧ (wp_X10_mixed y0 ((it_ M a2 6).toInt64) M (fun M1 r2 => Nk_ M M1 → (wp_X10_mixed r2 ((it_ M1 a2 1).toInt64) M1 (fun M7 r8 => Nk_ M1 M7 → (wp_X10_mixed r8 ((it_ M7 a2 2).toInt64) M7 (fun M13 r14 => Nk_ M7 M13 → (wp_X10_mixed r14 ((it_ M13 a2 3).toInt64) M13 (fun M19 r20 => Nk_ M13 M19 → (wp_X10_mixed r20 ((it_ M19 a2 4).toInt64) M19 (fun M25 r26 => Nk_ M19 M25 → (wp_X10_mixed r26 ((it_ M25 a2 5).toInt64) M25 (fun M31 r32 => Nk_ M25 M31 → (K M31 r32)))))))))))))
set_option maxHeartbeats 4000000 in
set_option maxRecDepth 100000 in
theorem mt_X10_digestOfZone {l : Launch} {D : Dd_} {M : Mm} {y0 : Int64} {a2 : Nat} {K : Mm → Int64 → Prop} (hw : wp_X10_digestOfZone y0 a2 M K) (sz : Nat) : Met l yX10_digestOfZone (Cond.code yX10_digestOfZone cX10_digestOfZone 5 (some .long) :: tbG_) rmX10_digestOfZone (cPc_ D M sz [.long y0, .ref a2]) (va_Ql (fun r M' => K M' r) (cB_ D M sz) (Aw_ M sz)) 0 0 (Aw_ M sz) := by
  refine ofV (by decide) (Nat.le_of_ble_eq_true rfl) ?_
  intro p e s m below meth c g hr hin hsz
  subst hsz
  obtain ⟨hp2, hw⟩ := hw
  refine r_lload_n g dX10_digestOfZone_0 rfl 0 rfl ?_
  refine r_aload_n g dX10_digestOfZone_1 rfl 1 rfl ?_
  refine r_gt (C := RX9) (T := TX9) (N := 9) g (ci := 10) rfl tc_X9 hp2 6 (by decide) tw_117 (fun _ h => h) rfl dX10_digestOfZone_2 ?_
  refine r_i2l g dX10_digestOfZone_5 ?_
  refine r_callSl (As := [.long y0, .long ((it_ M a2 6).toInt64)]) g (fun sz => mt_X10_mixed hw sz) tw_628 tw_630 tw_1 tw_629 hy_X10_mixed ⟨rfl, rfl⟩ (Nat.le_of_ble_eq_true rfl) (Nat.le_of_ble_eq_true rfl) (Nat.le_of_ble_eq_true rfl) (Nat.le_of_ble_eq_true rfl) (Nat.le_of_ble_eq_true rfl) rfl dX10_digestOfZone_6 (fun M1 r2 hK3 hN4 => ?_)
  have hw := hK3 hN4
  have hk5 := Nk_.k hN4 hp2 (by decide)
  have hT6 := Nk_.tr (Nk_.rf _) hN4
  refine r_lstore_n (L' := [(3, .long r2), (0, .long y0), (2, .ref a2)]) g dX10_digestOfZone_9 rfl (by decide) rfl ?_
  refine r_lload_n g dX10_digestOfZone_10 rfl 0 rfl ?_
  refine r_aload_n g dX10_digestOfZone_11 rfl 2 rfl ?_
  refine r_gt (C := RX9) (T := TX9) (N := 9) g (ci := 10) rfl tc_X9 hk5 1 (by decide) tw_100 (fun _ h => h) rfl dX10_digestOfZone_12 ?_
  refine r_i2l g dX10_digestOfZone_15 ?_
  refine r_callSl (As := [.long r2, .long ((it_ M1 a2 1).toInt64)]) g (fun sz => mt_X10_mixed hw sz) tw_628 tw_630 tw_1 tw_629 hy_X10_mixed ⟨rfl, rfl⟩ (Nat.le_of_ble_eq_true rfl) (Nat.le_of_ble_eq_true rfl) (Nat.le_of_ble_eq_true rfl) (Nat.le_of_ble_eq_true rfl) (Nat.le_of_ble_eq_true rfl) rfl dX10_digestOfZone_16 (fun M7 r8 hK9 hN10 => ?_)
  have hw := hK9 hN10
  have hk11 := Nk_.k hN10 hk5 (by decide)
  have hT12 := Nk_.tr hT6 hN10
  refine r_lstore_n (L' := [(3, .long r8), (0, .long y0), (2, .ref a2)]) g dX10_digestOfZone_19 rfl (by decide) rfl ?_
  refine r_lload_n g dX10_digestOfZone_20 rfl 0 rfl ?_
  refine r_aload_n g dX10_digestOfZone_21 rfl 2 rfl ?_
  refine r_gt (C := RX9) (T := TX9) (N := 9) g (ci := 10) rfl tc_X9 hk11 2 (by decide) tw_104 (fun _ h => h) rfl dX10_digestOfZone_22 ?_
  refine r_i2l g dX10_digestOfZone_25 ?_
  refine r_callSl (As := [.long r8, .long ((it_ M7 a2 2).toInt64)]) g (fun sz => mt_X10_mixed hw sz) tw_628 tw_630 tw_1 tw_629 hy_X10_mixed ⟨rfl, rfl⟩ (Nat.le_of_ble_eq_true rfl) (Nat.le_of_ble_eq_true rfl) (Nat.le_of_ble_eq_true rfl) (Nat.le_of_ble_eq_true rfl) (Nat.le_of_ble_eq_true rfl) rfl dX10_digestOfZone_26 (fun M13 r14 hK15 hN16 => ?_)
  have hw := hK15 hN16
  have hk17 := Nk_.k hN16 hk11 (by decide)
  have hT18 := Nk_.tr hT12 hN16
  refine r_lstore_n (L' := [(3, .long r14), (0, .long y0), (2, .ref a2)]) g dX10_digestOfZone_29 rfl (by decide) rfl ?_
  refine r_lload_n g dX10_digestOfZone_30 rfl 0 rfl ?_
  refine r_aload_n g dX10_digestOfZone_31 rfl 2 rfl ?_
  refine r_gt (C := RX9) (T := TX9) (N := 9) g (ci := 10) rfl tc_X9 hk17 3 (by decide) tw_107 (fun _ h => h) rfl dX10_digestOfZone_32 ?_
  refine r_i2l g dX10_digestOfZone_35 ?_
  refine r_callSl (As := [.long r14, .long ((it_ M13 a2 3).toInt64)]) g (fun sz => mt_X10_mixed hw sz) tw_628 tw_630 tw_1 tw_629 hy_X10_mixed ⟨rfl, rfl⟩ (Nat.le_of_ble_eq_true rfl) (Nat.le_of_ble_eq_true rfl) (Nat.le_of_ble_eq_true rfl) (Nat.le_of_ble_eq_true rfl) (Nat.le_of_ble_eq_true rfl) rfl dX10_digestOfZone_36 (fun M19 r20 hK21 hN22 => ?_)
  have hw := hK21 hN22
  have hk23 := Nk_.k hN22 hk17 (by decide)
  have hT24 := Nk_.tr hT18 hN22
  refine r_lstore_n (L' := [(3, .long r20), (0, .long y0), (2, .ref a2)]) g dX10_digestOfZone_39 rfl (by decide) rfl ?_
  refine r_lload_n g dX10_digestOfZone_40 rfl 0 rfl ?_
  refine r_aload_n g dX10_digestOfZone_41 rfl 2 rfl ?_
  refine r_gt (C := RX9) (T := TX9) (N := 9) g (ci := 10) rfl tc_X9 hk23 4 (by decide) tw_110 (fun _ h => h) rfl dX10_digestOfZone_42 ?_
  refine r_i2l g dX10_digestOfZone_45 ?_
  refine r_callSl (As := [.long r20, .long ((it_ M19 a2 4).toInt64)]) g (fun sz => mt_X10_mixed hw sz) tw_628 tw_630 tw_1 tw_629 hy_X10_mixed ⟨rfl, rfl⟩ (Nat.le_of_ble_eq_true rfl) (Nat.le_of_ble_eq_true rfl) (Nat.le_of_ble_eq_true rfl) (Nat.le_of_ble_eq_true rfl) (Nat.le_of_ble_eq_true rfl) rfl dX10_digestOfZone_46 (fun M25 r26 hK27 hN28 => ?_)
  have hw := hK27 hN28
  have hk29 := Nk_.k hN28 hk23 (by decide)
  have hT30 := Nk_.tr hT24 hN28
  refine r_lstore_n (L' := [(3, .long r26), (0, .long y0), (2, .ref a2)]) g dX10_digestOfZone_49 rfl (by decide) rfl ?_
  refine r_lload_n g dX10_digestOfZone_50 rfl 0 rfl ?_
  refine r_aload_n g dX10_digestOfZone_51 rfl 2 rfl ?_
  refine r_gt (C := RX9) (T := TX9) (N := 9) g (ci := 10) rfl tc_X9 hk29 5 (by decide) tw_113 (fun _ h => h) rfl dX10_digestOfZone_52 ?_
  refine r_i2l g dX10_digestOfZone_55 ?_
  refine r_callSl (As := [.long r26, .long ((it_ M25 a2 5).toInt64)]) g (fun sz => mt_X10_mixed hw sz) tw_628 tw_630 tw_1 tw_629 hy_X10_mixed ⟨rfl, rfl⟩ (Nat.le_of_ble_eq_true rfl) (Nat.le_of_ble_eq_true rfl) (Nat.le_of_ble_eq_true rfl) (Nat.le_of_ble_eq_true rfl) (Nat.le_of_ble_eq_true rfl) rfl dX10_digestOfZone_56 (fun M31 r32 hK33 hN34 => ?_)
  have hw := hK33 hN34
  have hk35 := Nk_.k hN34 hk29 (by decide)
  have hT36 := Nk_.tr hT30 hN34
  exact r_lret g hr (Nat.le_of_ble_eq_true rfl) (Nat.le_of_ble_eq_true rfl) rfl dX10_digestOfZone_59 hw
def rmX10_digestOfCounts : Room := { frames := 4, cells := 0, slots := 0, locals := 87 }
theorem hy_X10_digestOfCounts : yX10_digestOfCounts.cls ≠ "java/lang/invoke/MethodHandle" ∧ yX10_digestOfCounts.cls ≠ "java/lang/invoke/VarHandle" ∧ (parseMethodDescriptor yX10_digestOfCounts.desc).map (fun d => d.parameters.length) = some 1 := by decide +kernel
def lp_X10_digestOfCounts_123 (a0 : Nat) (K : Mm → Int64 → Prop) (E : Int64 → Mm → Prop) : Nat → Int64 → Int32 → Mm → Prop
  | 0, _, _, _ => False
  | n + 1, y3, x5, M => (kd_ M (rf_ M a0 3) = 7 ∧ (((it_ M (rf_ M a0 3) 1) ≤ x5 → E y3 M) ∧ (¬ (it_ M (rf_ M a0 3) 1) ≤ x5 → (kd_ M (rf_ M (rf_ M a0 3) 0) = 20 ∧ (vp_in x5 (ln_ M (rf_ M (rf_ M a0 3) 0)) ∧ (wp_X10_mixed y3 ((it_ M (rf_ M (rf_ M a0 3) 0) (ix_ x5)).toInt64) M (fun M87 r88 => Nk_ M M87 → lp_X10_digestOfCounts_123 a0 K E n r88 (x5 + (1 : Int32)) M87)))))))
def wp_X10_digestOfCounts (a0 : Nat) (y1 : Int64) (M : Mm) (K : Mm → Int64 → Prop) : Prop := kd_ M a0 = 12 ∧ (kd_ M (rf_ M a0 0) = 10 ∧ (kd_ M (rf_ M (rf_ M a0 0) 0) = 1 ∧ (wp_Jx4a65c_size_8abf5 (rf_ M (rf_ M a0 0) 0) M (fun M3 r4 => Nk_ M M3 → (wp_X10_mixed y1 (r4.toInt64) M3 (fun M9 r10 => Nk_ M3 M9 → (kd_ M9 (rf_ M9 a0 0) = 10 ∧ (wp_X10_mixed r10 ((it_ M9 (rf_ M9 a0 0) 7).toInt64) M9 (fun M16 r17 => Nk_ M9 M16 → (kd_ M16 (rf_ M16 a0 0) = 10 ∧ (wp_X10_mixed r17 ((it_ M16 (rf_ M16 a0 0) 8).toInt64) M16 (fun M23 r24 => Nk_ M16 M23 → (kd_ M23 (rf_ M23 a0 0) = 10 ∧ (kd_ M23 (rf_ M23 (rf_ M23 a0 0) 1) = 1 ∧ (wp_Jx4a65c_size_8abf5 (rf_ M23 (rf_ M23 a0 0) 1) M23 (fun M31 r32 => Nk_ M23 M31 → (wp_X10_mixed r24 (r32.toInt64) M31 (fun M37 r38 => Nk_ M31 M37 → (kd_ M37 (rf_ M37 a0 0) = 10 ∧ (kd_ M37 (rf_ M37 (rf_ M37 a0 0) 5) = 2 ∧ (wp_X10_mixed r38 ((it_ M37 (rf_ M37 (rf_ M37 a0 0) 5) 2).toInt64) M37 (fun M45 r46 => Nk_ M37 M45 → (kd_ M45 (rf_ M45 a0 0) = 10 ∧ (wp_X8_bytesOfBitmaps (rf_ M45 a0 0) M45 (fun M52 r53 => Nk_ M45 M52 → (wp_X10_mixed r46 (r53.toInt64) M52 (fun M58 r59 => Nk_ M52 M58 → (wp_X10_mixed r59 ((it_ M58 a0 4).toInt64) M58 (fun M64 r65 => Nk_ M58 M64 → (wp_X10_mixed r65 ((it_ M64 a0 5).toInt64) M64 (fun M70 r71 => Nk_ M64 M70 → (kd_ M70 (rf_ M70 a0 3) = 7 ∧ (wp_X10_mixed r71 ((it_ M70 (rf_ M70 a0 3) 1).toInt64) M70 (fun M77 r78 => Nk_ M70 M77 → (∃ n93 : Nat, lp_X10_digestOfCounts_123 a0 K (fun yv96 M94 => Nk_ M77 M94 → (K M94 yv96)) n93 r78 (0 : Int32) M77)))))))))))))))))))))))))))))))))))
set_option maxHeartbeats 4000000 in
set_option maxRecDepth 100000 in
theorem lo_X10_digestOfCounts_123 {p : Program} {l : Launch} {e : Env} {s : State} {m : MethodId} {args : Array Value} {below : List Frame} {meth : Method} {c : Code} {D : Dd_} {M0 : Mm} {Q : State → Prop} {K : Mm → Int64 → Prop} (g : G_ p s m args meth c cX10_digestOfCounts 6 RX10 D M0) (hr : meth.sig.returnType = some .long) (hQ : Q = MQ below (va_Ql (fun r M' => K M' r) (cB_ D M0 s.heap.size) (Aw_ M0 s.heap.size)) args s 0 0 (Aw_ M0 s.heap.size)) {a0 : Nat} : ∀ (n : Nat) (E : Int64 → Mm → Prop) (y3 : Int64) (x5 : Int32) (M : Mm), lp_X10_digestOfCounts_123 a0 K E n y3 x5 M → kd_ M a0 = 12 → (∀ (e9_3 : Int64) (M' : Mm), E e9_3 M' → Nk_ M M' → V_ p l e rmX10_digestOfCounts s m args below meth c 6 D M0 Q 157 [(3, .long e9_3)] [] M' 0 0) → V_ p l e rmX10_digestOfCounts s m args below meth c 6 D M0 Q 123 [(0, .ref a0), (3, .long y3), (5, .int x5)] [] M 0 0 := by
  intro n
  induction n with
  | zero =>
    intro E y3 x5 M hw
    exact hw.elim
  | succ n ih =>
    intro E y3 x5 M hw hp0 kE
    refine r_iload g dX10_digestOfCounts_123 2 rfl ?_
    refine r_aload_n g dX10_digestOfCounts_125 rfl 0 rfl ?_
    obtain ⟨hk83, hw⟩ := hw
    refine r_gtR (C := RX10) (T := TX10) (N := 6) g (ci := 11) rfl tc_X10 hp0 3 (by decide) tw_337 (fun _ h => h) rfl (k_ne hk83 (by decide)) dX10_digestOfCounts_126 ?_
    refine r_gt (C := RX5) (T := TX5) (N := 7) g (ci := 6) rfl tc_X5 hk83 1 (by decide) tw_312 (fun _ h => h) rfl dX10_digestOfCounts_129 ?_
    refine r_icmp_ge (tgt := 157) g dX10_digestOfCounts_132 (by decide) (fun hc84 => ?_) (fun hc84 => ?_)
    · have hw := hw.1 hc84
      exact V_.sub (kE y3 _ hw (Nk_.rf _)) [1] rfl
    · have hw := hw.2 hc84
      refine r_lload_n g dX10_digestOfCounts_135 rfl 1 rfl ?_
      refine r_aload_n g dX10_digestOfCounts_136 rfl 0 rfl ?_
      refine r_gtR (C := RX10) (T := TX10) (N := 6) g (ci := 11) rfl tc_X10 hp0 3 (by decide) tw_337 (fun _ h => h) rfl (k_ne hk83 (by decide)) dX10_digestOfCounts_137 ?_
      obtain ⟨hk85, hw⟩ := hw
      refine r_gtR (C := RX5) (T := TX5) (N := 7) g (ci := 6) rfl tc_X5 hk83 0 (by decide) tw_310 (fun _ h => h) rfl (k_ne hk85 (by decide)) dX10_digestOfCounts_140 ?_
      refine r_iload g dX10_digestOfCounts_143 2 rfl ?_
      obtain ⟨hi86, hw⟩ := hw
      refine r_iald g (Or.inl hk85) hi86 dX10_digestOfCounts_145 ?_
      refine r_i2l g dX10_digestOfCounts_146 ?_
      refine r_callSl (As := [.long y3, .long ((it_ M (rf_ M (rf_ M a0 3) 0) (ix_ x5)).toInt64)]) g (fun sz => mt_X10_mixed hw sz) tw_628 tw_630 tw_1 tw_629 hy_X10_mixed ⟨rfl, rfl⟩ (Nat.le_of_ble_eq_true rfl) (Nat.le_of_ble_eq_true rfl) (Nat.le_of_ble_eq_true rfl) (Nat.le_of_ble_eq_true rfl) (Nat.le_of_ble_eq_true rfl) rfl dX10_digestOfCounts_147 (fun M87 r88 hK89 hN90 => ?_)
      have hw := hK89 hN90
      have hk91 := Nk_.k hN90 hp0 (by decide)
      have hT92 := Nk_.tr (Nk_.rf _) hN90
      refine r_lstore_n (L' := [(3, .long r88), (0, .ref a0), (5, .int x5)]) g dX10_digestOfCounts_150 rfl (by decide) rfl ?_
      refine r_iinc (v := x5 + (1 : Int32)) (L' := [(5, .int (x5 + (1 : Int32))), (3, .long r88), (0, .ref a0)]) g dX10_digestOfCounts_151 2 rfl rfl (by decide) rfl ?_
      refine r_goto (tgt := 123) g dX10_digestOfCounts_154 (by decide) ?_
      exact V_.sub (ih E r88 (x5 + (1 : Int32)) _ hw hk91 (fun e9_3 M9 hE9 hN9 => kE e9_3 M9 hE9 (Nk_.tr hT92 hN9))) [2, 1, 0] rfl
set_option maxHeartbeats 4000000 in
set_option maxRecDepth 100000 in
theorem mt_X10_digestOfCounts {l : Launch} {D : Dd_} {M : Mm} {a0 : Nat} {y1 : Int64} {K : Mm → Int64 → Prop} (hw : wp_X10_digestOfCounts a0 y1 M K) (sz : Nat) : Met l yX10_digestOfCounts (Cond.code yX10_digestOfCounts cX10_digestOfCounts 6 (some .long) :: tbG_) rmX10_digestOfCounts (cPc_ D M sz [.ref a0, .long y1]) (va_Ql (fun r M' => K M' r) (cB_ D M sz) (Aw_ M sz)) 0 0 (Aw_ M sz) := by
  refine ofV (by decide) (Nat.le_of_ble_eq_true rfl) ?_
  intro p e s m below meth c g hr hin hsz
  subst hsz
  obtain ⟨hp0, hw⟩ := hw
  refine r_lload_n g dX10_digestOfCounts_0 rfl 1 rfl ?_
  refine r_aload_n g dX10_digestOfCounts_1 rfl 0 rfl ?_
  obtain ⟨hk1, hw⟩ := hw
  refine r_gtR (C := RX10) (T := TX10) (N := 6) g (ci := 11) rfl tc_X10 hp0 0 (by decide) tw_334 (fun _ h => h) rfl (k_ne hk1 (by decide)) dX10_digestOfCounts_2 ?_
  obtain ⟨hk2, hw⟩ := hw
  refine r_gtR (C := RX8) (T := TX8) (N := 11) g (ci := 9) rfl tc_X8 hk1 0 (by decide) tw_164 (fun _ h => h) rfl (k_ne hk2 (by decide)) dX10_digestOfCounts_5 ?_
  refine r_callVi (As := []) g (fun sz => mt_Jx4a65c_size_8abf5 hw sz) tw_357 tw_360 tw_5 tw_358 tw_359 (ci := 0) (T := TJx4a65c) (N := 3) rfl hk2 hy_Jx4a65c_size_8abf5 ⟨rfl, rfl⟩ (Nat.le_of_ble_eq_true rfl) (Nat.le_of_ble_eq_true rfl) (Nat.le_of_ble_eq_true rfl) (Nat.le_of_ble_eq_true rfl) (Nat.le_of_ble_eq_true rfl) rfl dX10_digestOfCounts_8 (fun M3 r4 hK5 hN6 => ?_)
  have hw := hK5 hN6
  have hk7 := Nk_.k hN6 hp0 (by decide)
  have hT8 := Nk_.tr (Nk_.rf _) hN6
  refine r_i2l g dX10_digestOfCounts_11 ?_
  refine r_callSl (As := [.long y1, .long (r4.toInt64)]) g (fun sz => mt_X10_mixed hw sz) tw_628 tw_630 tw_1 tw_629 hy_X10_mixed ⟨rfl, rfl⟩ (Nat.le_of_ble_eq_true rfl) (Nat.le_of_ble_eq_true rfl) (Nat.le_of_ble_eq_true rfl) (Nat.le_of_ble_eq_true rfl) (Nat.le_of_ble_eq_true rfl) rfl dX10_digestOfCounts_12 (fun M9 r10 hK11 hN12 => ?_)
  have hw := hK11 hN12
  have hk13 := Nk_.k hN12 hk7 (by decide)
  have hT14 := Nk_.tr hT8 hN12
  refine r_lstore_n (L' := [(3, .long r10), (0, .ref a0), (1, .long y1)]) g dX10_digestOfCounts_15 rfl (by decide) rfl ?_
  refine r_lload_n g dX10_digestOfCounts_16 rfl 0 rfl ?_
  refine r_aload_n g dX10_digestOfCounts_17 rfl 1 rfl ?_
  obtain ⟨hk15, hw⟩ := hw
  refine r_gtR (C := RX10) (T := TX10) (N := 6) g (ci := 11) rfl tc_X10 hk13 0 (by decide) tw_334 (fun _ h => h) rfl (k_ne hk15 (by decide)) dX10_digestOfCounts_18 ?_
  refine r_gt (C := RX8) (T := TX8) (N := 11) g (ci := 9) rfl tc_X8 hk15 7 (by decide) tw_181 (fun _ h => h) rfl dX10_digestOfCounts_21 ?_
  refine r_i2l g dX10_digestOfCounts_24 ?_
  refine r_callSl (As := [.long r10, .long ((it_ M9 (rf_ M9 a0 0) 7).toInt64)]) g (fun sz => mt_X10_mixed hw sz) tw_628 tw_630 tw_1 tw_629 hy_X10_mixed ⟨rfl, rfl⟩ (Nat.le_of_ble_eq_true rfl) (Nat.le_of_ble_eq_true rfl) (Nat.le_of_ble_eq_true rfl) (Nat.le_of_ble_eq_true rfl) (Nat.le_of_ble_eq_true rfl) rfl dX10_digestOfCounts_25 (fun M16 r17 hK18 hN19 => ?_)
  have hw := hK18 hN19
  have hk20 := Nk_.k hN19 hk13 (by decide)
  have hT21 := Nk_.tr hT14 hN19
  refine r_lstore_n (L' := [(3, .long r17), (0, .ref a0), (1, .long y1)]) g dX10_digestOfCounts_28 rfl (by decide) rfl ?_
  refine r_lload_n g dX10_digestOfCounts_29 rfl 0 rfl ?_
  refine r_aload_n g dX10_digestOfCounts_30 rfl 1 rfl ?_
  obtain ⟨hk22, hw⟩ := hw
  refine r_gtR (C := RX10) (T := TX10) (N := 6) g (ci := 11) rfl tc_X10 hk20 0 (by decide) tw_334 (fun _ h => h) rfl (k_ne hk22 (by decide)) dX10_digestOfCounts_31 ?_
  refine r_gt (C := RX8) (T := TX8) (N := 11) g (ci := 9) rfl tc_X8 hk22 8 (by decide) tw_184 (fun _ h => h) rfl dX10_digestOfCounts_34 ?_
  refine r_i2l g dX10_digestOfCounts_37 ?_
  refine r_callSl (As := [.long r17, .long ((it_ M16 (rf_ M16 a0 0) 8).toInt64)]) g (fun sz => mt_X10_mixed hw sz) tw_628 tw_630 tw_1 tw_629 hy_X10_mixed ⟨rfl, rfl⟩ (Nat.le_of_ble_eq_true rfl) (Nat.le_of_ble_eq_true rfl) (Nat.le_of_ble_eq_true rfl) (Nat.le_of_ble_eq_true rfl) (Nat.le_of_ble_eq_true rfl) rfl dX10_digestOfCounts_38 (fun M23 r24 hK25 hN26 => ?_)
  have hw := hK25 hN26
  have hk27 := Nk_.k hN26 hk20 (by decide)
  have hT28 := Nk_.tr hT21 hN26
  refine r_lstore_n (L' := [(3, .long r24), (0, .ref a0), (1, .long y1)]) g dX10_digestOfCounts_41 rfl (by decide) rfl ?_
  refine r_lload_n g dX10_digestOfCounts_42 rfl 0 rfl ?_
  refine r_aload_n g dX10_digestOfCounts_43 rfl 1 rfl ?_
  obtain ⟨hk29, hw⟩ := hw
  refine r_gtR (C := RX10) (T := TX10) (N := 6) g (ci := 11) rfl tc_X10 hk27 0 (by decide) tw_334 (fun _ h => h) rfl (k_ne hk29 (by decide)) dX10_digestOfCounts_44 ?_
  obtain ⟨hk30, hw⟩ := hw
  refine r_gtR (C := RX8) (T := TX8) (N := 11) g (ci := 9) rfl tc_X8 hk29 1 (by decide) tw_168 (fun _ h => h) rfl (k_ne hk30 (by decide)) dX10_digestOfCounts_47 ?_
  refine r_callVi (As := []) g (fun sz => mt_Jx4a65c_size_8abf5 hw sz) tw_357 tw_360 tw_5 tw_358 tw_359 (ci := 0) (T := TJx4a65c) (N := 3) rfl hk30 hy_Jx4a65c_size_8abf5 ⟨rfl, rfl⟩ (Nat.le_of_ble_eq_true rfl) (Nat.le_of_ble_eq_true rfl) (Nat.le_of_ble_eq_true rfl) (Nat.le_of_ble_eq_true rfl) (Nat.le_of_ble_eq_true rfl) rfl dX10_digestOfCounts_50 (fun M31 r32 hK33 hN34 => ?_)
  have hw := hK33 hN34
  have hk35 := Nk_.k hN34 hk27 (by decide)
  have hT36 := Nk_.tr hT28 hN34
  refine r_i2l g dX10_digestOfCounts_53 ?_
  refine r_callSl (As := [.long r24, .long (r32.toInt64)]) g (fun sz => mt_X10_mixed hw sz) tw_628 tw_630 tw_1 tw_629 hy_X10_mixed ⟨rfl, rfl⟩ (Nat.le_of_ble_eq_true rfl) (Nat.le_of_ble_eq_true rfl) (Nat.le_of_ble_eq_true rfl) (Nat.le_of_ble_eq_true rfl) (Nat.le_of_ble_eq_true rfl) rfl dX10_digestOfCounts_54 (fun M37 r38 hK39 hN40 => ?_)
  have hw := hK39 hN40
  have hk41 := Nk_.k hN40 hk35 (by decide)
  have hT42 := Nk_.tr hT36 hN40
  refine r_lstore_n (L' := [(3, .long r38), (0, .ref a0), (1, .long y1)]) g dX10_digestOfCounts_57 rfl (by decide) rfl ?_
  refine r_lload_n g dX10_digestOfCounts_58 rfl 0 rfl ?_
  refine r_aload_n g dX10_digestOfCounts_59 rfl 1 rfl ?_
  obtain ⟨hk43, hw⟩ := hw
  refine r_gtR (C := RX10) (T := TX10) (N := 6) g (ci := 11) rfl tc_X10 hk41 0 (by decide) tw_334 (fun _ h => h) rfl (k_ne hk43 (by decide)) dX10_digestOfCounts_60 ?_
  obtain ⟨hk44, hw⟩ := hw
  refine r_gtR (C := RX8) (T := TX8) (N := 11) g (ci := 9) rfl tc_X8 hk43 5 (by decide) tw_178 (fun _ h => h) rfl (k_ne hk44 (by decide)) dX10_digestOfCounts_63 ?_
  refine r_gt (C := RX0) (T := TX0) (N := 4) g (ci := 1) rfl tc_X0 hk44 2 (by decide) tw_150 (fun _ h => h) rfl dX10_digestOfCounts_66 ?_
  refine r_i2l g dX10_digestOfCounts_69 ?_
  refine r_callSl (As := [.long r38, .long ((it_ M37 (rf_ M37 (rf_ M37 a0 0) 5) 2).toInt64)]) g (fun sz => mt_X10_mixed hw sz) tw_628 tw_630 tw_1 tw_629 hy_X10_mixed ⟨rfl, rfl⟩ (Nat.le_of_ble_eq_true rfl) (Nat.le_of_ble_eq_true rfl) (Nat.le_of_ble_eq_true rfl) (Nat.le_of_ble_eq_true rfl) (Nat.le_of_ble_eq_true rfl) rfl dX10_digestOfCounts_70 (fun M45 r46 hK47 hN48 => ?_)
  have hw := hK47 hN48
  have hk49 := Nk_.k hN48 hk41 (by decide)
  have hT50 := Nk_.tr hT42 hN48
  refine r_lstore_n (L' := [(3, .long r46), (0, .ref a0), (1, .long y1)]) g dX10_digestOfCounts_73 rfl (by decide) rfl ?_
  refine r_lload_n g dX10_digestOfCounts_74 rfl 0 rfl ?_
  refine r_aload_n g dX10_digestOfCounts_75 rfl 1 rfl ?_
  obtain ⟨hk51, hw⟩ := hw
  refine r_gtR (C := RX10) (T := TX10) (N := 6) g (ci := 11) rfl tc_X10 hk49 0 (by decide) tw_334 (fun _ h => h) rfl (k_ne hk51 (by decide)) dX10_digestOfCounts_76 ?_
  refine r_callVi (As := []) g (fun sz => mt_X8_bytesOfBitmaps hw sz) tw_632 tw_635 tw_2 tw_633 tw_634 (ci := 9) (T := TX8) (N := 11) rfl hk51 hy_X8_bytesOfBitmaps ⟨rfl, rfl⟩ (Nat.le_of_ble_eq_true rfl) (Nat.le_of_ble_eq_true rfl) (Nat.le_of_ble_eq_true rfl) (Nat.le_of_ble_eq_true rfl) (Nat.le_of_ble_eq_true rfl) rfl dX10_digestOfCounts_79 (fun M52 r53 hK54 hN55 => ?_)
  have hw := hK54 hN55
  have hk56 := Nk_.k hN55 hk49 (by decide)
  have hT57 := Nk_.tr hT50 hN55
  refine r_i2l g dX10_digestOfCounts_82 ?_
  refine r_callSl (As := [.long r46, .long (r53.toInt64)]) g (fun sz => mt_X10_mixed hw sz) tw_628 tw_630 tw_1 tw_629 hy_X10_mixed ⟨rfl, rfl⟩ (Nat.le_of_ble_eq_true rfl) (Nat.le_of_ble_eq_true rfl) (Nat.le_of_ble_eq_true rfl) (Nat.le_of_ble_eq_true rfl) (Nat.le_of_ble_eq_true rfl) rfl dX10_digestOfCounts_83 (fun M58 r59 hK60 hN61 => ?_)
  have hw := hK60 hN61
  have hk62 := Nk_.k hN61 hk56 (by decide)
  have hT63 := Nk_.tr hT57 hN61
  refine r_lstore_n (L' := [(3, .long r59), (0, .ref a0), (1, .long y1)]) g dX10_digestOfCounts_86 rfl (by decide) rfl ?_
  refine r_lload_n g dX10_digestOfCounts_87 rfl 0 rfl ?_
  refine r_aload_n g dX10_digestOfCounts_88 rfl 1 rfl ?_
  refine r_gt (C := RX10) (T := TX10) (N := 6) g (ci := 11) rfl tc_X10 hk62 4 (by decide) tw_338 (fun _ h => h) rfl dX10_digestOfCounts_89 ?_
  refine r_i2l g dX10_digestOfCounts_92 ?_
  refine r_callSl (As := [.long r59, .long ((it_ M58 a0 4).toInt64)]) g (fun sz => mt_X10_mixed hw sz) tw_628 tw_630 tw_1 tw_629 hy_X10_mixed ⟨rfl, rfl⟩ (Nat.le_of_ble_eq_true rfl) (Nat.le_of_ble_eq_true rfl) (Nat.le_of_ble_eq_true rfl) (Nat.le_of_ble_eq_true rfl) (Nat.le_of_ble_eq_true rfl) rfl dX10_digestOfCounts_93 (fun M64 r65 hK66 hN67 => ?_)
  have hw := hK66 hN67
  have hk68 := Nk_.k hN67 hk62 (by decide)
  have hT69 := Nk_.tr hT63 hN67
  refine r_lstore_n (L' := [(3, .long r65), (0, .ref a0), (1, .long y1)]) g dX10_digestOfCounts_96 rfl (by decide) rfl ?_
  refine r_lload_n g dX10_digestOfCounts_97 rfl 0 rfl ?_
  refine r_aload_n g dX10_digestOfCounts_98 rfl 1 rfl ?_
  refine r_gt (C := RX10) (T := TX10) (N := 6) g (ci := 11) rfl tc_X10 hk68 5 (by decide) tw_339 (fun _ h => h) rfl dX10_digestOfCounts_99 ?_
  refine r_i2l g dX10_digestOfCounts_102 ?_
  refine r_callSl (As := [.long r65, .long ((it_ M64 a0 5).toInt64)]) g (fun sz => mt_X10_mixed hw sz) tw_628 tw_630 tw_1 tw_629 hy_X10_mixed ⟨rfl, rfl⟩ (Nat.le_of_ble_eq_true rfl) (Nat.le_of_ble_eq_true rfl) (Nat.le_of_ble_eq_true rfl) (Nat.le_of_ble_eq_true rfl) (Nat.le_of_ble_eq_true rfl) rfl dX10_digestOfCounts_103 (fun M70 r71 hK72 hN73 => ?_)
  have hw := hK72 hN73
  have hk74 := Nk_.k hN73 hk68 (by decide)
  have hT75 := Nk_.tr hT69 hN73
  refine r_lstore_n (L' := [(3, .long r71), (0, .ref a0), (1, .long y1)]) g dX10_digestOfCounts_106 rfl (by decide) rfl ?_
  refine r_lload_n g dX10_digestOfCounts_107 rfl 0 rfl ?_
  refine r_aload_n g dX10_digestOfCounts_108 rfl 1 rfl ?_
  obtain ⟨hk76, hw⟩ := hw
  refine r_gtR (C := RX10) (T := TX10) (N := 6) g (ci := 11) rfl tc_X10 hk74 3 (by decide) tw_337 (fun _ h => h) rfl (k_ne hk76 (by decide)) dX10_digestOfCounts_109 ?_
  refine r_gt (C := RX5) (T := TX5) (N := 7) g (ci := 6) rfl tc_X5 hk76 1 (by decide) tw_312 (fun _ h => h) rfl dX10_digestOfCounts_112 ?_
  refine r_i2l g dX10_digestOfCounts_115 ?_
  refine r_callSl (As := [.long r71, .long ((it_ M70 (rf_ M70 a0 3) 1).toInt64)]) g (fun sz => mt_X10_mixed hw sz) tw_628 tw_630 tw_1 tw_629 hy_X10_mixed ⟨rfl, rfl⟩ (Nat.le_of_ble_eq_true rfl) (Nat.le_of_ble_eq_true rfl) (Nat.le_of_ble_eq_true rfl) (Nat.le_of_ble_eq_true rfl) (Nat.le_of_ble_eq_true rfl) rfl dX10_digestOfCounts_116 (fun M77 r78 hK79 hN80 => ?_)
  have hw := hK79 hN80
  have hk81 := Nk_.k hN80 hk74 (by decide)
  have hT82 := Nk_.tr hT75 hN80
  refine r_lstore_n (L' := [(3, .long r78), (0, .ref a0), (1, .long y1)]) g dX10_digestOfCounts_119 rfl (by decide) rfl ?_
  refine r_iconst (v := 0) g dX10_digestOfCounts_120 (by decide) ?_
  refine r_istore (L' := [(5, .int (0 : Int32)), (3, .long r78), (0, .ref a0), (1, .long y1)]) g dX10_digestOfCounts_121 (by decide) rfl ?_
  obtain ⟨n93, hw⟩ := hw
  refine V_.sub (lo_X10_digestOfCounts_123 g hr rfl n93 _ r78 (0 : Int32) _ hw hk81 (fun yv96 M94 hE hN95 => ?_)) [2, 1, 0] rfl
  have hw := hE hN95
  have hT97 := Nk_.tr hT82 hN95
  refine r_lload_n g dX10_digestOfCounts_157 rfl 0 rfl ?_
  exact r_lret g hr (Nat.le_of_ble_eq_true rfl) (Nat.le_of_ble_eq_true rfl) rfl dX10_digestOfCounts_158 hw
def rmX10_digestOfRows : Room := { frames := 3, cells := 0, slots := 0, locals := 64 }
theorem hy_X10_digestOfRows : yX10_digestOfRows.cls ≠ "java/lang/invoke/MethodHandle" ∧ yX10_digestOfRows.cls ≠ "java/lang/invoke/VarHandle" ∧ (parseMethodDescriptor yX10_digestOfRows.desc).map (fun d => d.parameters.length) = some 1 := by decide +kernel
def lp_X10_digestOfRows_59 (a0 : Nat) (x5 : Int32) (K : Mm → Int64 → Prop) (E : Int64 → Mm → Prop) : Nat → Int64 → Int32 → Mm → Prop
  | 0, _, _, _ => False
  | n + 1, y3, x6, M => (kd_ M (rf_ M a0 0) = 10 ∧ (kd_ M (rf_ M (rf_ M a0 0) 0) = 1 ∧ (wp_Jx4a65c_size_8abf5 (rf_ M (rf_ M a0 0) 0) M (fun M24 r25 => Nk_ M M24 → ((r25 ≤ x6 → E y3 M24) ∧ (¬ r25 ≤ x6 → (kd_ M24 (rf_ M24 a0 0) = 10 ∧ (kd_ M24 (rf_ M24 (rf_ M24 a0 0) 0) = 1 ∧ (wp_Jx4a65c_get_915e3 (rf_ M24 (rf_ M24 a0 0) 0) x6 M24 (fun M33 r34 => Nk_ M24 M33 → (kd_ M33 r34 = 3 ∧ (kd_ M33 (rf_ M33 r34 1) = 21 ∧ (vp_in x5 (ln_ M33 (rf_ M33 r34 1)) ∧ (bz_ (it_ M33 (rf_ M33 r34 1) (ix_ x5)) → (((it_ M33 (rf_ M33 r34 1) (ix_ x5)) = 0 → (wp_X10_mixed y3 (0 : Int64) M33 (fun M45 r46 => Nk_ M33 M45 → (kd_ M45 (rf_ M45 r34 0) = 20 ∧ (vp_in x5 (ln_ M45 (rf_ M45 r34 0)) ∧ (wp_X10_mixed r46 ((it_ M45 (rf_ M45 r34 0) (ix_ x5)).toInt64) M45 (fun M54 r55 => Nk_ M45 M54 → lp_X10_digestOfRows_59 a0 x5 K E n r55 (x6 + (1 : Int32)) M54))))))) ∧ (¬ (it_ M33 (rf_ M33 r34 1) (ix_ x5)) = 0 → (wp_X10_mixed y3 (1 : Int64) M33 (fun M60 r61 => Nk_ M33 M60 → (kd_ M60 (rf_ M60 r34 0) = 20 ∧ (vp_in x5 (ln_ M60 (rf_ M60 r34 0)) ∧ (wp_X10_mixed r61 ((it_ M60 (rf_ M60 r34 0) (ix_ x5)).toInt64) M60 (fun M69 r70 => Nk_ M60 M69 → lp_X10_digestOfRows_59 a0 x5 K E n r70 (x6 + (1 : Int32)) M69))))))))))))))))))))))
def lp_X10_digestOfRows_5 (a0 : Nat) (K : Mm → Int64 → Prop) (E : Int64 → Mm → Prop) : Nat → Int64 → Int32 → Mm → Prop
  | 0, _, _, _ => False
  | n + 1, y3, x5, M => (kd_ M (rf_ M a0 0) = 10 ∧ (((it_ M (rf_ M a0 0) 7) ≤ x5 → E y3 M) ∧ (¬ (it_ M (rf_ M a0 0) 7) ≤ x5 → (kd_ M (rf_ M (rf_ M a0 0) 2) = 21 ∧ (vp_in x5 (ln_ M (rf_ M (rf_ M a0 0) 2)) ∧ (bz_ (it_ M (rf_ M (rf_ M a0 0) 2) (ix_ x5)) → (((it_ M (rf_ M (rf_ M a0 0) 2) (ix_ x5)) = 0 → (wp_X10_mixed y3 (0 : Int64) M (fun M7 r8 => Nk_ M M7 → (kd_ M7 (rf_ M7 a0 0) = 10 ∧ (kd_ M7 (rf_ M7 (rf_ M7 a0 0) 3) = 20 ∧ (vp_in x5 (ln_ M7 (rf_ M7 (rf_ M7 a0 0) 3)) ∧ (wp_X10_mixed r8 ((it_ M7 (rf_ M7 (rf_ M7 a0 0) 3) (ix_ x5)).toInt64) M7 (fun M16 r17 => Nk_ M7 M16 → (∃ n75 : Nat, lp_X10_digestOfRows_59 a0 x5 K (fun yv78 M76 => Nk_ M16 M76 → lp_X10_digestOfRows_5 a0 K E n yv78 (x5 + (1 : Int32)) M76) n75 r17 (0 : Int32) M16))))))))) ∧ (¬ (it_ M (rf_ M (rf_ M a0 0) 2) (ix_ x5)) = 0 → (wp_X10_mixed y3 (1 : Int64) M (fun M81 r82 => Nk_ M M81 → (kd_ M81 (rf_ M81 a0 0) = 10 ∧ (kd_ M81 (rf_ M81 (rf_ M81 a0 0) 3) = 20 ∧ (vp_in x5 (ln_ M81 (rf_ M81 (rf_ M81 a0 0) 3)) ∧ (wp_X10_mixed r82 ((it_ M81 (rf_ M81 (rf_ M81 a0 0) 3) (ix_ x5)).toInt64) M81 (fun M90 r91 => Nk_ M81 M90 → (∃ n96 : Nat, lp_X10_digestOfRows_59 a0 x5 K (fun yv99 M97 => Nk_ M90 M97 → lp_X10_digestOfRows_5 a0 K E n yv99 (x5 + (1 : Int32)) M97) n96 r91 (0 : Int32) M90))))))))))))))))
def wp_X10_digestOfRows (a0 : Nat) (y1 : Int64) (M : Mm) (K : Mm → Int64 → Prop) : Prop := kd_ M a0 = 12 ∧ (∃ n102 : Nat, lp_X10_digestOfRows_5 a0 K (fun yv105 M103 => Nk_ M M103 → (K M103 yv105)) n102 y1 (0 : Int32) M)
set_option maxHeartbeats 4000000 in
set_option maxRecDepth 100000 in
theorem lo_X10_digestOfRows_59 {p : Program} {l : Launch} {e : Env} {s : State} {m : MethodId} {args : Array Value} {below : List Frame} {meth : Method} {c : Code} {D : Dd_} {M0 : Mm} {Q : State → Prop} {K : Mm → Int64 → Prop} (g : G_ p s m args meth c cX10_digestOfRows 8 RX10 D M0) (hr : meth.sig.returnType = some .long) (hQ : Q = MQ below (va_Ql (fun r M' => K M' r) (cB_ D M0 s.heap.size) (Aw_ M0 s.heap.size)) args s 0 0 (Aw_ M0 s.heap.size)) {a0 : Nat} {x5 : Int32} : ∀ (n : Nat) (E : Int64 → Mm → Prop) (y3 : Int64) (x6 : Int32) (M : Mm), lp_X10_digestOfRows_59 a0 x5 K E n y3 x6 M → kd_ M a0 = 12 → (∀ (e9_3 : Int64) (M' : Mm), E e9_3 M' → Nk_ M M' → V_ p l e rmX10_digestOfRows s m args below meth c 8 D M0 Q 132 [(0, .ref a0), (3, .long e9_3), (5, .int x5)] [] M' 0 0) → V_ p l e rmX10_digestOfRows s m args below meth c 8 D M0 Q 59 [(0, .ref a0), (3, .long y3), (5, .int x5), (6, .int x6)] [] M 0 0 := by
  intro n
  induction n with
  | zero =>
    intro E y3 x6 M hw
    exact hw.elim
  | succ n ih =>
    intro E y3 x6 M hw hp0 kE
    refine r_iload g dX10_digestOfRows_59 3 rfl ?_
    refine r_aload_n g dX10_digestOfRows_61 rfl 0 rfl ?_
    obtain ⟨hk22, hw⟩ := hw
    refine r_gtR (C := RX10) (T := TX10) (N := 6) g (ci := 11) rfl tc_X10 hp0 0 (by decide) tw_334 (fun _ h => h) rfl (k_ne hk22 (by decide)) dX10_digestOfRows_62 ?_
    obtain ⟨hk23, hw⟩ := hw
    refine r_gtR (C := RX8) (T := TX8) (N := 11) g (ci := 9) rfl tc_X8 hk22 0 (by decide) tw_164 (fun _ h => h) rfl (k_ne hk23 (by decide)) dX10_digestOfRows_65 ?_
    refine r_callVi (As := []) g (fun sz => mt_Jx4a65c_size_8abf5 hw sz) tw_357 tw_360 tw_5 tw_358 tw_359 (ci := 0) (T := TJx4a65c) (N := 3) rfl hk23 hy_Jx4a65c_size_8abf5 ⟨rfl, rfl⟩ (Nat.le_of_ble_eq_true rfl) (Nat.le_of_ble_eq_true rfl) (Nat.le_of_ble_eq_true rfl) (Nat.le_of_ble_eq_true rfl) (Nat.le_of_ble_eq_true rfl) rfl dX10_digestOfRows_68 (fun M24 r25 hK26 hN27 => ?_)
    have hw := hK26 hN27
    have hk28 := Nk_.k hN27 hp0 (by decide)
    have hT29 := Nk_.tr (Nk_.rf _) hN27
    refine r_icmp_ge (tgt := 132) g dX10_digestOfRows_71 (by decide) (fun hc30 => ?_) (fun hc30 => ?_)
    · have hw := hw.1 hc30
      exact V_.sub (kE y3 _ hw hT29) [0, 1, 2] rfl
    · have hw := hw.2 hc30
      refine r_aload_n g dX10_digestOfRows_74 rfl 0 rfl ?_
      obtain ⟨hk31, hw⟩ := hw
      refine r_gtR (C := RX10) (T := TX10) (N := 6) g (ci := 11) rfl tc_X10 hk28 0 (by decide) tw_334 (fun _ h => h) rfl (k_ne hk31 (by decide)) dX10_digestOfRows_75 ?_
      obtain ⟨hk32, hw⟩ := hw
      refine r_gtR (C := RX8) (T := TX8) (N := 11) g (ci := 9) rfl tc_X8 hk31 0 (by decide) tw_164 (fun _ h => h) rfl (k_ne hk32 (by decide)) dX10_digestOfRows_78 ?_
      refine r_iload g dX10_digestOfRows_81 3 rfl ?_
      refine r_callVr (As := [.int x6]) g (fun sz => mt_Jx4a65c_get_915e3 hw sz) tw_651 tw_543 tw_5 tw_541 tw_542 (ci := 0) (T := TJx4a65c) (N := 3) rfl hk32 hy_Jx4a65c_get_915e3 ⟨rfl, rfl⟩ (Nat.le_of_ble_eq_true rfl) (Nat.le_of_ble_eq_true rfl) (Nat.le_of_ble_eq_true rfl) (Nat.le_of_ble_eq_true rfl) (Nat.le_of_ble_eq_true rfl) rfl dX10_digestOfRows_83 (fun M33 r34 hK35 h37 hN36 => ?_)
      have hw := hK35 hN36
      have hk38 := Nk_.k hN36 hk28 (by decide)
      have hT39 := Nk_.tr hT29 hN36
      obtain ⟨hk40, hw⟩ := hw
      refine r_cast (C := RX1) (T := TX1) (N := 5) g (ci := 2) rfl tw_430 hk40 dX10_digestOfRows_86 ?_
      refine r_astore (L' := [(7, .ref r34), (0, .ref a0), (3, .long y3), (5, .int x5), (6, .int x6)]) g dX10_digestOfRows_89 (by decide) rfl ?_
      refine r_lload_n g dX10_digestOfRows_91 rfl 2 rfl ?_
      refine r_aload g dX10_digestOfRows_92 0 rfl ?_
      obtain ⟨hk41, hw⟩ := hw
      refine r_gtR (C := RX1) (T := TX1) (N := 5) g (ci := 2) rfl tc_X1 hk40 1 (by decide) tw_447 (fun _ h => h) rfl (k_ne hk41 (by decide)) dX10_digestOfRows_94 ?_
      refine r_iload g dX10_digestOfRows_97 3 rfl ?_
      obtain ⟨hi42, hw⟩ := hw
      refine r_zald g hk41 hi42 dX10_digestOfRows_99 (fun hb43 => ?_)
      have hw := hw hb43
      refine r_if_eq (tgt := 107) g dX10_digestOfRows_100 (by decide) (fun hc44 => ?_) (fun hc44 => ?_)
      · have hw := hw.1 hc44
        refine r_lconst (v := 0) g dX10_digestOfRows_107 (by decide) ?_
        refine r_callSl (As := [.long y3, .long (0 : Int64)]) g (fun sz => mt_X10_mixed hw sz) tw_628 tw_630 tw_1 tw_629 hy_X10_mixed ⟨rfl, rfl⟩ (Nat.le_of_ble_eq_true rfl) (Nat.le_of_ble_eq_true rfl) (Nat.le_of_ble_eq_true rfl) (Nat.le_of_ble_eq_true rfl) (Nat.le_of_ble_eq_true rfl) rfl dX10_digestOfRows_108 (fun M45 r46 hK47 hN48 => ?_)
        have hw := hK47 hN48
        have hk49 := Nk_.k hN48 hk40 (by decide)
        have hk50 := Nk_.k hN48 hk38 (by decide)
        have hT51 := Nk_.tr hT39 hN48
        refine r_lstore_n (L' := [(3, .long r46), (7, .ref r34), (0, .ref a0), (5, .int x5), (6, .int x6)]) g dX10_digestOfRows_111 rfl (by decide) rfl ?_
        refine r_lload_n g dX10_digestOfRows_112 rfl 0 rfl ?_
        refine r_aload g dX10_digestOfRows_113 1 rfl ?_
        obtain ⟨hk52, hw⟩ := hw
        refine r_gtR (C := RX1) (T := TX1) (N := 5) g (ci := 2) rfl tc_X1 hk49 0 (by decide) tw_441 (fun _ h => h) rfl (k_ne hk52 (by decide)) dX10_digestOfRows_115 ?_
        refine r_iload g dX10_digestOfRows_118 3 rfl ?_
        obtain ⟨hi53, hw⟩ := hw
        refine r_iald g (Or.inl hk52) hi53 dX10_digestOfRows_120 ?_
        refine r_i2l g dX10_digestOfRows_121 ?_
        refine r_callSl (As := [.long r46, .long ((it_ M45 (rf_ M45 r34 0) (ix_ x5)).toInt64)]) g (fun sz => mt_X10_mixed hw sz) tw_628 tw_630 tw_1 tw_629 hy_X10_mixed ⟨rfl, rfl⟩ (Nat.le_of_ble_eq_true rfl) (Nat.le_of_ble_eq_true rfl) (Nat.le_of_ble_eq_true rfl) (Nat.le_of_ble_eq_true rfl) (Nat.le_of_ble_eq_true rfl) rfl dX10_digestOfRows_122 (fun M54 r55 hK56 hN57 => ?_)
        have hw := hK56 hN57
        have hk58 := Nk_.k hN57 hk50 (by decide)
        have hT59 := Nk_.tr hT51 hN57
        refine r_lstore_n (L' := [(3, .long r55), (7, .ref r34), (0, .ref a0), (5, .int x5), (6, .int x6)]) g dX10_digestOfRows_125 rfl (by decide) rfl ?_
        refine r_iinc (v := x6 + (1 : Int32)) (L' := [(6, .int (x6 + (1 : Int32))), (3, .long r55), (7, .ref r34), (0, .ref a0), (5, .int x5)]) g dX10_digestOfRows_126 4 rfl rfl (by decide) rfl ?_
        refine r_goto (tgt := 59) g dX10_digestOfRows_129 (by decide) ?_
        exact V_.sub (ih E r55 (x6 + (1 : Int32)) _ hw hk58 (fun e9_3 M9 hE9 hN9 => kE e9_3 M9 hE9 (Nk_.tr hT59 hN9))) [3, 1, 4, 0] rfl
      · have hw := hw.2 hc44
        refine r_lconst (v := 1) g dX10_digestOfRows_103 (by decide) ?_
        refine r_goto (tgt := 108) g dX10_digestOfRows_104 (by decide) ?_
        refine r_callSl (As := [.long y3, .long (1 : Int64)]) g (fun sz => mt_X10_mixed hw sz) tw_628 tw_630 tw_1 tw_629 hy_X10_mixed ⟨rfl, rfl⟩ (Nat.le_of_ble_eq_true rfl) (Nat.le_of_ble_eq_true rfl) (Nat.le_of_ble_eq_true rfl) (Nat.le_of_ble_eq_true rfl) (Nat.le_of_ble_eq_true rfl) rfl dX10_digestOfRows_108 (fun M60 r61 hK62 hN63 => ?_)
        have hw := hK62 hN63
        have hk64 := Nk_.k hN63 hk40 (by decide)
        have hk65 := Nk_.k hN63 hk38 (by decide)
        have hT66 := Nk_.tr hT39 hN63
        refine r_lstore_n (L' := [(3, .long r61), (7, .ref r34), (0, .ref a0), (5, .int x5), (6, .int x6)]) g dX10_digestOfRows_111 rfl (by decide) rfl ?_
        refine r_lload_n g dX10_digestOfRows_112 rfl 0 rfl ?_
        refine r_aload g dX10_digestOfRows_113 1 rfl ?_
        obtain ⟨hk67, hw⟩ := hw
        refine r_gtR (C := RX1) (T := TX1) (N := 5) g (ci := 2) rfl tc_X1 hk64 0 (by decide) tw_441 (fun _ h => h) rfl (k_ne hk67 (by decide)) dX10_digestOfRows_115 ?_
        refine r_iload g dX10_digestOfRows_118 3 rfl ?_
        obtain ⟨hi68, hw⟩ := hw
        refine r_iald g (Or.inl hk67) hi68 dX10_digestOfRows_120 ?_
        refine r_i2l g dX10_digestOfRows_121 ?_
        refine r_callSl (As := [.long r61, .long ((it_ M60 (rf_ M60 r34 0) (ix_ x5)).toInt64)]) g (fun sz => mt_X10_mixed hw sz) tw_628 tw_630 tw_1 tw_629 hy_X10_mixed ⟨rfl, rfl⟩ (Nat.le_of_ble_eq_true rfl) (Nat.le_of_ble_eq_true rfl) (Nat.le_of_ble_eq_true rfl) (Nat.le_of_ble_eq_true rfl) (Nat.le_of_ble_eq_true rfl) rfl dX10_digestOfRows_122 (fun M69 r70 hK71 hN72 => ?_)
        have hw := hK71 hN72
        have hk73 := Nk_.k hN72 hk65 (by decide)
        have hT74 := Nk_.tr hT66 hN72
        refine r_lstore_n (L' := [(3, .long r70), (7, .ref r34), (0, .ref a0), (5, .int x5), (6, .int x6)]) g dX10_digestOfRows_125 rfl (by decide) rfl ?_
        refine r_iinc (v := x6 + (1 : Int32)) (L' := [(6, .int (x6 + (1 : Int32))), (3, .long r70), (7, .ref r34), (0, .ref a0), (5, .int x5)]) g dX10_digestOfRows_126 4 rfl rfl (by decide) rfl ?_
        refine r_goto (tgt := 59) g dX10_digestOfRows_129 (by decide) ?_
        exact V_.sub (ih E r70 (x6 + (1 : Int32)) _ hw hk73 (fun e9_3 M9 hE9 hN9 => kE e9_3 M9 hE9 (Nk_.tr hT74 hN9))) [3, 1, 4, 0] rfl
set_option maxHeartbeats 4000000 in
set_option maxRecDepth 100000 in
theorem lo_X10_digestOfRows_5 {p : Program} {l : Launch} {e : Env} {s : State} {m : MethodId} {args : Array Value} {below : List Frame} {meth : Method} {c : Code} {D : Dd_} {M0 : Mm} {Q : State → Prop} {K : Mm → Int64 → Prop} (g : G_ p s m args meth c cX10_digestOfRows 8 RX10 D M0) (hr : meth.sig.returnType = some .long) (hQ : Q = MQ below (va_Ql (fun r M' => K M' r) (cB_ D M0 s.heap.size) (Aw_ M0 s.heap.size)) args s 0 0 (Aw_ M0 s.heap.size)) {a0 : Nat} : ∀ (n : Nat) (E : Int64 → Mm → Prop) (y3 : Int64) (x5 : Int32) (M : Mm), lp_X10_digestOfRows_5 a0 K E n y3 x5 M → kd_ M a0 = 12 → (∀ (e9_3 : Int64) (M' : Mm), E e9_3 M' → Nk_ M M' → V_ p l e rmX10_digestOfRows s m args below meth c 8 D M0 Q 138 [(3, .long e9_3)] [] M' 0 0) → V_ p l e rmX10_digestOfRows s m args below meth c 8 D M0 Q 5 [(0, .ref a0), (3, .long y3), (5, .int x5)] [] M 0 0 := by
  intro n
  induction n with
  | zero =>
    intro E y3 x5 M hw
    exact hw.elim
  | succ n ih =>
    intro E y3 x5 M hw hp0 kE
    refine r_iload g dX10_digestOfRows_5 2 rfl ?_
    refine r_aload_n g dX10_digestOfRows_7 rfl 0 rfl ?_
    obtain ⟨hk1, hw⟩ := hw
    refine r_gtR (C := RX10) (T := TX10) (N := 6) g (ci := 11) rfl tc_X10 hp0 0 (by decide) tw_334 (fun _ h => h) rfl (k_ne hk1 (by decide)) dX10_digestOfRows_8 ?_
    refine r_gt (C := RX8) (T := TX8) (N := 11) g (ci := 9) rfl tc_X8 hk1 7 (by decide) tw_181 (fun _ h => h) rfl dX10_digestOfRows_11 ?_
    refine r_icmp_ge (tgt := 138) g dX10_digestOfRows_14 (by decide) (fun hc2 => ?_) (fun hc2 => ?_)
    · have hw := hw.1 hc2
      exact V_.sub (kE y3 _ hw (Nk_.rf _)) [1] rfl
    · have hw := hw.2 hc2
      refine r_lload_n g dX10_digestOfRows_17 rfl 1 rfl ?_
      refine r_aload_n g dX10_digestOfRows_18 rfl 0 rfl ?_
      refine r_gtR (C := RX10) (T := TX10) (N := 6) g (ci := 11) rfl tc_X10 hp0 0 (by decide) tw_334 (fun _ h => h) rfl (k_ne hk1 (by decide)) dX10_digestOfRows_19 ?_
      obtain ⟨hk3, hw⟩ := hw
      refine r_gtR (C := RX8) (T := TX8) (N := 11) g (ci := 9) rfl tc_X8 hk1 2 (by decide) tw_170 (fun _ h => h) rfl (k_ne hk3 (by decide)) dX10_digestOfRows_22 ?_
      refine r_iload g dX10_digestOfRows_25 2 rfl ?_
      obtain ⟨hi4, hw⟩ := hw
      refine r_zald g hk3 hi4 dX10_digestOfRows_27 (fun hb5 => ?_)
      have hw := hw hb5
      refine r_if_eq (tgt := 35) g dX10_digestOfRows_28 (by decide) (fun hc6 => ?_) (fun hc6 => ?_)
      · have hw := hw.1 hc6
        refine r_lconst (v := 0) g dX10_digestOfRows_35 (by decide) ?_
        refine r_callSl (As := [.long y3, .long (0 : Int64)]) g (fun sz => mt_X10_mixed hw sz) tw_628 tw_630 tw_1 tw_629 hy_X10_mixed ⟨rfl, rfl⟩ (Nat.le_of_ble_eq_true rfl) (Nat.le_of_ble_eq_true rfl) (Nat.le_of_ble_eq_true rfl) (Nat.le_of_ble_eq_true rfl) (Nat.le_of_ble_eq_true rfl) rfl dX10_digestOfRows_36 (fun M7 r8 hK9 hN10 => ?_)
        have hw := hK9 hN10
        have hk11 := Nk_.k hN10 hp0 (by decide)
        have hT12 := Nk_.tr (Nk_.rf _) hN10
        refine r_lstore_n (L' := [(3, .long r8), (0, .ref a0), (5, .int x5)]) g dX10_digestOfRows_39 rfl (by decide) rfl ?_
        refine r_lload_n g dX10_digestOfRows_40 rfl 0 rfl ?_
        refine r_aload_n g dX10_digestOfRows_41 rfl 1 rfl ?_
        obtain ⟨hk13, hw⟩ := hw
        refine r_gtR (C := RX10) (T := TX10) (N := 6) g (ci := 11) rfl tc_X10 hk11 0 (by decide) tw_334 (fun _ h => h) rfl (k_ne hk13 (by decide)) dX10_digestOfRows_42 ?_
        obtain ⟨hk14, hw⟩ := hw
        refine r_gtR (C := RX8) (T := TX8) (N := 11) g (ci := 9) rfl tc_X8 hk13 3 (by decide) tw_173 (fun _ h => h) rfl (k_ne hk14 (by decide)) dX10_digestOfRows_45 ?_
        refine r_iload g dX10_digestOfRows_48 2 rfl ?_
        obtain ⟨hi15, hw⟩ := hw
        refine r_iald g (Or.inl hk14) hi15 dX10_digestOfRows_50 ?_
        refine r_i2l g dX10_digestOfRows_51 ?_
        refine r_callSl (As := [.long r8, .long ((it_ M7 (rf_ M7 (rf_ M7 a0 0) 3) (ix_ x5)).toInt64)]) g (fun sz => mt_X10_mixed hw sz) tw_628 tw_630 tw_1 tw_629 hy_X10_mixed ⟨rfl, rfl⟩ (Nat.le_of_ble_eq_true rfl) (Nat.le_of_ble_eq_true rfl) (Nat.le_of_ble_eq_true rfl) (Nat.le_of_ble_eq_true rfl) (Nat.le_of_ble_eq_true rfl) rfl dX10_digestOfRows_52 (fun M16 r17 hK18 hN19 => ?_)
        have hw := hK18 hN19
        have hk20 := Nk_.k hN19 hk11 (by decide)
        have hT21 := Nk_.tr hT12 hN19
        refine r_lstore_n (L' := [(3, .long r17), (0, .ref a0), (5, .int x5)]) g dX10_digestOfRows_55 rfl (by decide) rfl ?_
        refine r_iconst (v := 0) g dX10_digestOfRows_56 (by decide) ?_
        refine r_istore (L' := [(6, .int (0 : Int32)), (3, .long r17), (0, .ref a0), (5, .int x5)]) g dX10_digestOfRows_57 (by decide) rfl ?_
        obtain ⟨n75, hw⟩ := hw
        refine V_.sub (lo_X10_digestOfRows_59 g hr hQ n75 _ r17 (0 : Int32) _ hw hk20 (fun yv78 M76 hE hN77 => ?_)) [2, 1, 3, 0] rfl
        have hw := hE hN77
        have hk79 := Nk_.k hN77 hk20 (by decide)
        have hT80 := Nk_.tr hT21 hN77
        refine r_iinc (v := x5 + (1 : Int32)) (L' := [(5, .int (x5 + (1 : Int32))), (0, .ref a0), (3, .long yv78)]) g dX10_digestOfRows_132 2 rfl rfl (by decide) rfl ?_
        refine r_goto (tgt := 5) g dX10_digestOfRows_135 (by decide) ?_
        exact V_.sub (ih E yv78 (x5 + (1 : Int32)) _ hw hk79 (fun e9_3 M9 hE9 hN9 => kE e9_3 M9 hE9 (Nk_.tr hT80 hN9))) [1, 2, 0] rfl
      · have hw := hw.2 hc6
        refine r_lconst (v := 1) g dX10_digestOfRows_31 (by decide) ?_
        refine r_goto (tgt := 36) g dX10_digestOfRows_32 (by decide) ?_
        refine r_callSl (As := [.long y3, .long (1 : Int64)]) g (fun sz => mt_X10_mixed hw sz) tw_628 tw_630 tw_1 tw_629 hy_X10_mixed ⟨rfl, rfl⟩ (Nat.le_of_ble_eq_true rfl) (Nat.le_of_ble_eq_true rfl) (Nat.le_of_ble_eq_true rfl) (Nat.le_of_ble_eq_true rfl) (Nat.le_of_ble_eq_true rfl) rfl dX10_digestOfRows_36 (fun M81 r82 hK83 hN84 => ?_)
        have hw := hK83 hN84
        have hk85 := Nk_.k hN84 hp0 (by decide)
        have hT86 := Nk_.tr (Nk_.rf _) hN84
        refine r_lstore_n (L' := [(3, .long r82), (0, .ref a0), (5, .int x5)]) g dX10_digestOfRows_39 rfl (by decide) rfl ?_
        refine r_lload_n g dX10_digestOfRows_40 rfl 0 rfl ?_
        refine r_aload_n g dX10_digestOfRows_41 rfl 1 rfl ?_
        obtain ⟨hk87, hw⟩ := hw
        refine r_gtR (C := RX10) (T := TX10) (N := 6) g (ci := 11) rfl tc_X10 hk85 0 (by decide) tw_334 (fun _ h => h) rfl (k_ne hk87 (by decide)) dX10_digestOfRows_42 ?_
        obtain ⟨hk88, hw⟩ := hw
        refine r_gtR (C := RX8) (T := TX8) (N := 11) g (ci := 9) rfl tc_X8 hk87 3 (by decide) tw_173 (fun _ h => h) rfl (k_ne hk88 (by decide)) dX10_digestOfRows_45 ?_
        refine r_iload g dX10_digestOfRows_48 2 rfl ?_
        obtain ⟨hi89, hw⟩ := hw
        refine r_iald g (Or.inl hk88) hi89 dX10_digestOfRows_50 ?_
        refine r_i2l g dX10_digestOfRows_51 ?_
        refine r_callSl (As := [.long r82, .long ((it_ M81 (rf_ M81 (rf_ M81 a0 0) 3) (ix_ x5)).toInt64)]) g (fun sz => mt_X10_mixed hw sz) tw_628 tw_630 tw_1 tw_629 hy_X10_mixed ⟨rfl, rfl⟩ (Nat.le_of_ble_eq_true rfl) (Nat.le_of_ble_eq_true rfl) (Nat.le_of_ble_eq_true rfl) (Nat.le_of_ble_eq_true rfl) (Nat.le_of_ble_eq_true rfl) rfl dX10_digestOfRows_52 (fun M90 r91 hK92 hN93 => ?_)
        have hw := hK92 hN93
        have hk94 := Nk_.k hN93 hk85 (by decide)
        have hT95 := Nk_.tr hT86 hN93
        refine r_lstore_n (L' := [(3, .long r91), (0, .ref a0), (5, .int x5)]) g dX10_digestOfRows_55 rfl (by decide) rfl ?_
        refine r_iconst (v := 0) g dX10_digestOfRows_56 (by decide) ?_
        refine r_istore (L' := [(6, .int (0 : Int32)), (3, .long r91), (0, .ref a0), (5, .int x5)]) g dX10_digestOfRows_57 (by decide) rfl ?_
        obtain ⟨n96, hw⟩ := hw
        refine V_.sub (lo_X10_digestOfRows_59 g hr hQ n96 _ r91 (0 : Int32) _ hw hk94 (fun yv99 M97 hE hN98 => ?_)) [2, 1, 3, 0] rfl
        have hw := hE hN98
        have hk100 := Nk_.k hN98 hk94 (by decide)
        have hT101 := Nk_.tr hT95 hN98
        refine r_iinc (v := x5 + (1 : Int32)) (L' := [(5, .int (x5 + (1 : Int32))), (0, .ref a0), (3, .long yv99)]) g dX10_digestOfRows_132 2 rfl rfl (by decide) rfl ?_
        refine r_goto (tgt := 5) g dX10_digestOfRows_135 (by decide) ?_
        exact V_.sub (ih E yv99 (x5 + (1 : Int32)) _ hw hk100 (fun e9_3 M9 hE9 hN9 => kE e9_3 M9 hE9 (Nk_.tr hT101 hN9))) [1, 2, 0] rfl
set_option maxHeartbeats 4000000 in
set_option maxRecDepth 100000 in
theorem mt_X10_digestOfRows {l : Launch} {D : Dd_} {M : Mm} {a0 : Nat} {y1 : Int64} {K : Mm → Int64 → Prop} (hw : wp_X10_digestOfRows a0 y1 M K) (sz : Nat) : Met l yX10_digestOfRows (Cond.code yX10_digestOfRows cX10_digestOfRows 8 (some .long) :: tbG_) rmX10_digestOfRows (cPc_ D M sz [.ref a0, .long y1]) (va_Ql (fun r M' => K M' r) (cB_ D M sz) (Aw_ M sz)) 0 0 (Aw_ M sz) := by
  refine ofV (by decide) (Nat.le_of_ble_eq_true rfl) ?_
  intro p e s m below meth c g hr hin hsz
  subst hsz
  obtain ⟨hp0, hw⟩ := hw
  refine r_lload_n g dX10_digestOfRows_0 rfl 1 rfl ?_
  refine r_lstore_n (L' := [(3, .long y1), (0, .ref a0), (1, .long y1)]) g dX10_digestOfRows_1 rfl (by decide) rfl ?_
  refine r_iconst (v := 0) g dX10_digestOfRows_2 (by decide) ?_
  refine r_istore (L' := [(5, .int (0 : Int32)), (3, .long y1), (0, .ref a0), (1, .long y1)]) g dX10_digestOfRows_3 (by decide) rfl ?_
  obtain ⟨n102, hw⟩ := hw
  refine V_.sub (lo_X10_digestOfRows_5 g hr rfl n102 _ y1 (0 : Int32) _ hw hp0 (fun yv105 M103 hE hN104 => ?_)) [2, 1, 0] rfl
  have hw := hE hN104
  have hT106 := Nk_.tr (Nk_.rf _) hN104
  refine r_lload_n g dX10_digestOfRows_138 rfl 0 rfl ?_
  exact r_lret g hr (Nat.le_of_ble_eq_true rfl) (Nat.le_of_ble_eq_true rfl) rfl dX10_digestOfRows_139 hw
def rmX10_digestOfFrames : Room := { frames := 3, cells := 0, slots := 0, locals := 64 }
theorem hy_X10_digestOfFrames : yX10_digestOfFrames.cls ≠ "java/lang/invoke/MethodHandle" ∧ yX10_digestOfFrames.cls ≠ "java/lang/invoke/VarHandle" ∧ (parseMethodDescriptor yX10_digestOfFrames.desc).map (fun d => d.parameters.length) = some 1 := by decide +kernel
def lp_X10_digestOfFrames_51 (a0 : Nat) (x5 : Int32) (a6 : Nat) (K : Mm → Int64 → Prop) (E : Int64 → Mm → Prop) : Nat → Int64 → Int32 → Mm → Prop
  | 0, _, _, _ => False
  | n + 1, y3, x7, M => (((it_ M a6 2) ≤ x7 → E y3 M) ∧ (¬ (it_ M a6 2) ≤ x7 → (kd_ M (rf_ M a6 0) = 20 ∧ (vp_in x7 (ln_ M (rf_ M a6 0)) ∧ (wp_X10_mixed y3 ((it_ M (rf_ M a6 0) (ix_ x7)).toInt64) M (fun M30 r31 => Nk_ M M30 → lp_X10_digestOfFrames_51 a0 x5 a6 K E n r31 (x7 + (1 : Int32)) M30))))))
def lp_X10_digestOfFrames_95 (a0 : Nat) (x5 : Int32) (a6 : Nat) (K : Mm → Int64 → Prop) (E : Int64 → Mm → Prop) : Nat → Int64 → Int32 → Mm → Prop
  | 0, _, _, _ => False
  | n + 1, y3, x7, M => (kd_ M (rf_ M a0 0) = 10 ∧ (kd_ M (rf_ M (rf_ M a0 0) 0) = 1 ∧ (wp_Jx4a65c_size_8abf5 (rf_ M (rf_ M a0 0) 0) M (fun M53 r54 => Nk_ M M53 → ((r54 ≤ x7 → E y3 M53) ∧ (¬ r54 ≤ x7 → (kd_ M53 (rf_ M53 a6 1) = 23 ∧ (vp_in x7 (ln_ M53 (rf_ M53 a6 1)) ∧ (kd_ M53 (rf_ M53 (rf_ M53 a6 1) (ix_ x7)) = 11 ∧ (wp_X10_digestOfZone y3 (rf_ M53 (rf_ M53 a6 1) (ix_ x7)) M53 (fun M64 r65 => Nk_ M53 M64 → lp_X10_digestOfFrames_95 a0 x5 a6 K E n r65 (x7 + (1 : Int32)) M64)))))))))))
def lp_X10_digestOfFrames_5 (a0 : Nat) (K : Mm → Int64 → Prop) (E : Int64 → Mm → Prop) : Nat → Int64 → Int32 → Mm → Prop
  | 0, _, _, _ => False
  | n + 1, y3, x5, M => (kd_ M (rf_ M a0 0) = 10 ∧ (kd_ M (rf_ M (rf_ M a0 0) 1) = 1 ∧ (wp_Jx4a65c_size_8abf5 (rf_ M (rf_ M a0 0) 1) M (fun M3 r4 => Nk_ M M3 → ((r4 ≤ x5 → E y3 M3) ∧ (¬ r4 ≤ x5 → (kd_ M3 (rf_ M3 a0 0) = 10 ∧ (kd_ M3 (rf_ M3 (rf_ M3 a0 0) 1) = 1 ∧ (wp_Jx4a65c_get_915e3 (rf_ M3 (rf_ M3 a0 0) 1) x5 M3 (fun M12 r13 => Nk_ M3 M12 → (kd_ M12 r13 = 2 ∧ (wp_X10_mixed y3 ((it_ M12 r13 2).toInt64) M12 (fun M20 r21 => Nk_ M12 M20 → (∃ n37 : Nat, lp_X10_digestOfFrames_51 a0 x5 r13 K (fun yv40 M38 => Nk_ M20 M38 → (wp_X10_mixed yv40 ((it_ M38 r13 3).toInt64) M38 (fun M44 r45 => Nk_ M38 M44 → (∃ n71 : Nat, lp_X10_digestOfFrames_95 a0 x5 r13 K (fun yv74 M72 => Nk_ M44 M72 → lp_X10_digestOfFrames_5 a0 K E n yv74 (x5 + (1 : Int32)) M72) n71 r45 (0 : Int32) M44)))) n37 r21 (0 : Int32) M20))))))))))))))
def wp_X10_digestOfFrames (a0 : Nat) (y1 : Int64) (M : Mm) (K : Mm → Int64 → Prop) : Prop := kd_ M a0 = 12 ∧ (∃ n77 : Nat, lp_X10_digestOfFrames_5 a0 K (fun yv80 M78 => Nk_ M M78 → (K M78 yv80)) n77 y1 (0 : Int32) M)
set_option maxHeartbeats 4000000 in
set_option maxRecDepth 100000 in
theorem lo_X10_digestOfFrames_51 {p : Program} {l : Launch} {e : Env} {s : State} {m : MethodId} {args : Array Value} {below : List Frame} {meth : Method} {c : Code} {D : Dd_} {M0 : Mm} {Q : State → Prop} {K : Mm → Int64 → Prop} (g : G_ p s m args meth c cX10_digestOfFrames 8 RX10 D M0) (hr : meth.sig.returnType = some .long) (hQ : Q = MQ below (va_Ql (fun r M' => K M' r) (cB_ D M0 s.heap.size) (Aw_ M0 s.heap.size)) args s 0 0 (Aw_ M0 s.heap.size)) {a0 : Nat} {x5 : Int32} {a6 : Nat} : ∀ (n : Nat) (E : Int64 → Mm → Prop) (y3 : Int64) (x7 : Int32) (M : Mm), lp_X10_digestOfFrames_51 a0 x5 a6 K E n y3 x7 M → kd_ M a0 = 12 → kd_ M a6 = 2 → (∀ (e9_3 : Int64) (M' : Mm), E e9_3 M' → Nk_ M M' → V_ p l e rmX10_digestOfFrames s m args below meth c 8 D M0 Q 81 [(0, .ref a0), (3, .long e9_3), (5, .int x5), (6, .ref a6)] [] M' 0 0) → V_ p l e rmX10_digestOfFrames s m args below meth c 8 D M0 Q 51 [(0, .ref a0), (3, .long y3), (5, .int x5), (6, .ref a6), (7, .int x7)] [] M 0 0 := by
  intro n
  induction n with
  | zero =>
    intro E y3 x7 M hw
    exact hw.elim
  | succ n ih =>
    intro E y3 x7 M hw hp0 hp6 kE
    refine r_iload g dX10_digestOfFrames_51 4 rfl ?_
    refine r_aload g dX10_digestOfFrames_53 3 rfl ?_
    refine r_gt (C := RX0) (T := TX0) (N := 4) g (ci := 1) rfl tc_X0 hp6 2 (by decide) tw_150 (fun _ h => h) rfl dX10_digestOfFrames_55 ?_
    refine r_icmp_ge (tgt := 81) g dX10_digestOfFrames_58 (by decide) (fun hc27 => ?_) (fun hc27 => ?_)
    · have hw := hw.1 hc27
      exact V_.sub (kE y3 _ hw (Nk_.rf _)) [0, 1, 2, 3] rfl
    · have hw := hw.2 hc27
      refine r_lload_n g dX10_digestOfFrames_61 rfl 1 rfl ?_
      refine r_aload g dX10_digestOfFrames_62 3 rfl ?_
      obtain ⟨hk28, hw⟩ := hw
      refine r_gtR (C := RX0) (T := TX0) (N := 4) g (ci := 1) rfl tc_X0 hp6 0 (by decide) tw_142 (fun _ h => h) rfl (k_ne hk28 (by decide)) dX10_digestOfFrames_64 ?_
      refine r_iload g dX10_digestOfFrames_67 4 rfl ?_
      obtain ⟨hi29, hw⟩ := hw
      refine r_iald g (Or.inl hk28) hi29 dX10_digestOfFrames_69 ?_
      refine r_i2l g dX10_digestOfFrames_70 ?_
      refine r_callSl (As := [.long y3, .long ((it_ M (rf_ M a6 0) (ix_ x7)).toInt64)]) g (fun sz => mt_X10_mixed hw sz) tw_628 tw_630 tw_1 tw_629 hy_X10_mixed ⟨rfl, rfl⟩ (Nat.le_of_ble_eq_true rfl) (Nat.le_of_ble_eq_true rfl) (Nat.le_of_ble_eq_true rfl) (Nat.le_of_ble_eq_true rfl) (Nat.le_of_ble_eq_true rfl) rfl dX10_digestOfFrames_71 (fun M30 r31 hK32 hN33 => ?_)
      have hw := hK32 hN33
      have hk34 := Nk_.k hN33 hp0 (by decide)
      have hk35 := Nk_.k hN33 hp6 (by decide)
      have hT36 := Nk_.tr (Nk_.rf _) hN33
      refine r_lstore_n (L' := [(3, .long r31), (0, .ref a0), (5, .int x5), (6, .ref a6), (7, .int x7)]) g dX10_digestOfFrames_74 rfl (by decide) rfl ?_
      refine r_iinc (v := x7 + (1 : Int32)) (L' := [(7, .int (x7 + (1 : Int32))), (3, .long r31), (0, .ref a0), (5, .int x5), (6, .ref a6)]) g dX10_digestOfFrames_75 4 rfl rfl (by decide) rfl ?_
      refine r_goto (tgt := 51) g dX10_digestOfFrames_78 (by decide) ?_
      exact V_.sub (ih E r31 (x7 + (1 : Int32)) _ hw hk34 hk35 (fun e9_3 M9 hE9 hN9 => kE e9_3 M9 hE9 (Nk_.tr hT36 hN9))) [2, 1, 3, 4, 0] rfl
set_option maxHeartbeats 4000000 in
set_option maxRecDepth 100000 in
theorem lo_X10_digestOfFrames_95 {p : Program} {l : Launch} {e : Env} {s : State} {m : MethodId} {args : Array Value} {below : List Frame} {meth : Method} {c : Code} {D : Dd_} {M0 : Mm} {Q : State → Prop} {K : Mm → Int64 → Prop} (g : G_ p s m args meth c cX10_digestOfFrames 8 RX10 D M0) (hr : meth.sig.returnType = some .long) (hQ : Q = MQ below (va_Ql (fun r M' => K M' r) (cB_ D M0 s.heap.size) (Aw_ M0 s.heap.size)) args s 0 0 (Aw_ M0 s.heap.size)) {a0 : Nat} {x5 : Int32} {a6 : Nat} : ∀ (n : Nat) (E : Int64 → Mm → Prop) (y3 : Int64) (x7 : Int32) (M : Mm), lp_X10_digestOfFrames_95 a0 x5 a6 K E n y3 x7 M → kd_ M a0 = 12 → kd_ M a6 = 2 → (∀ (e9_3 : Int64) (M' : Mm), E e9_3 M' → Nk_ M M' → V_ p l e rmX10_digestOfFrames s m args below meth c 8 D M0 Q 129 [(0, .ref a0), (3, .long e9_3), (5, .int x5)] [] M' 0 0) → V_ p l e rmX10_digestOfFrames s m args below meth c 8 D M0 Q 95 [(0, .ref a0), (3, .long y3), (5, .int x5), (6, .ref a6), (7, .int x7)] [] M 0 0 := by
  intro n
  induction n with
  | zero =>
    intro E y3 x7 M hw
    exact hw.elim
  | succ n ih =>
    intro E y3 x7 M hw hp0 hp6 kE
    refine r_iload g dX10_digestOfFrames_95 4 rfl ?_
    refine r_aload_n g dX10_digestOfFrames_97 rfl 0 rfl ?_
    obtain ⟨hk51, hw⟩ := hw
    refine r_gtR (C := RX10) (T := TX10) (N := 6) g (ci := 11) rfl tc_X10 hp0 0 (by decide) tw_334 (fun _ h => h) rfl (k_ne hk51 (by decide)) dX10_digestOfFrames_98 ?_
    obtain ⟨hk52, hw⟩ := hw
    refine r_gtR (C := RX8) (T := TX8) (N := 11) g (ci := 9) rfl tc_X8 hk51 0 (by decide) tw_164 (fun _ h => h) rfl (k_ne hk52 (by decide)) dX10_digestOfFrames_101 ?_
    refine r_callVi (As := []) g (fun sz => mt_Jx4a65c_size_8abf5 hw sz) tw_357 tw_360 tw_5 tw_358 tw_359 (ci := 0) (T := TJx4a65c) (N := 3) rfl hk52 hy_Jx4a65c_size_8abf5 ⟨rfl, rfl⟩ (Nat.le_of_ble_eq_true rfl) (Nat.le_of_ble_eq_true rfl) (Nat.le_of_ble_eq_true rfl) (Nat.le_of_ble_eq_true rfl) (Nat.le_of_ble_eq_true rfl) rfl dX10_digestOfFrames_104 (fun M53 r54 hK55 hN56 => ?_)
    have hw := hK55 hN56
    have hk57 := Nk_.k hN56 hp0 (by decide)
    have hk58 := Nk_.k hN56 hp6 (by decide)
    have hT59 := Nk_.tr (Nk_.rf _) hN56
    refine r_icmp_ge (tgt := 129) g dX10_digestOfFrames_107 (by decide) (fun hc60 => ?_) (fun hc60 => ?_)
    · have hw := hw.1 hc60
      exact V_.sub (kE y3 _ hw hT59) [0, 1, 2] rfl
    · have hw := hw.2 hc60
      refine r_lload_n g dX10_digestOfFrames_110 rfl 1 rfl ?_
      refine r_aload g dX10_digestOfFrames_111 3 rfl ?_
      obtain ⟨hk61, hw⟩ := hw
      refine r_gtR (C := RX0) (T := TX0) (N := 4) g (ci := 1) rfl tc_X0 hk58 1 (by decide) tw_146 (fun _ h => h) rfl (k_ne hk61 (by decide)) dX10_digestOfFrames_113 ?_
      refine r_iload g dX10_digestOfFrames_116 4 rfl ?_
      obtain ⟨hi62, hw⟩ := hw
      obtain ⟨hk63, hw⟩ := hw
      refine r_aald (t := 3) g (by decide) (by decide) hk61 hi62 dX10_digestOfFrames_118 ?_
      refine r_rv (k_ne hk63 (by decide)) ?_
      refine r_callSl (As := [.long y3, .ref (rf_ M53 (rf_ M53 a6 1) (ix_ x7))]) g (fun sz => mt_X10_digestOfZone hw sz) tw_657 tw_659 tw_1 tw_658 hy_X10_digestOfZone ⟨rfl, rfl⟩ (Nat.le_of_ble_eq_true rfl) (Nat.le_of_ble_eq_true rfl) (Nat.le_of_ble_eq_true rfl) (Nat.le_of_ble_eq_true rfl) (Nat.le_of_ble_eq_true rfl) rfl dX10_digestOfFrames_119 (fun M64 r65 hK66 hN67 => ?_)
      have hw := hK66 hN67
      have hk68 := Nk_.k hN67 hk57 (by decide)
      have hk69 := Nk_.k hN67 hk58 (by decide)
      have hT70 := Nk_.tr hT59 hN67
      refine r_lstore_n (L' := [(3, .long r65), (0, .ref a0), (5, .int x5), (6, .ref a6), (7, .int x7)]) g dX10_digestOfFrames_122 rfl (by decide) rfl ?_
      refine r_iinc (v := x7 + (1 : Int32)) (L' := [(7, .int (x7 + (1 : Int32))), (3, .long r65), (0, .ref a0), (5, .int x5), (6, .ref a6)]) g dX10_digestOfFrames_123 4 rfl rfl (by decide) rfl ?_
      refine r_goto (tgt := 95) g dX10_digestOfFrames_126 (by decide) ?_
      exact V_.sub (ih E r65 (x7 + (1 : Int32)) _ hw hk68 hk69 (fun e9_3 M9 hE9 hN9 => kE e9_3 M9 hE9 (Nk_.tr hT70 hN9))) [2, 1, 3, 4, 0] rfl
set_option maxHeartbeats 4000000 in
set_option maxRecDepth 100000 in
theorem lo_X10_digestOfFrames_5 {p : Program} {l : Launch} {e : Env} {s : State} {m : MethodId} {args : Array Value} {below : List Frame} {meth : Method} {c : Code} {D : Dd_} {M0 : Mm} {Q : State → Prop} {K : Mm → Int64 → Prop} (g : G_ p s m args meth c cX10_digestOfFrames 8 RX10 D M0) (hr : meth.sig.returnType = some .long) (hQ : Q = MQ below (va_Ql (fun r M' => K M' r) (cB_ D M0 s.heap.size) (Aw_ M0 s.heap.size)) args s 0 0 (Aw_ M0 s.heap.size)) {a0 : Nat} : ∀ (n : Nat) (E : Int64 → Mm → Prop) (y3 : Int64) (x5 : Int32) (M : Mm), lp_X10_digestOfFrames_5 a0 K E n y3 x5 M → kd_ M a0 = 12 → (∀ (e9_3 : Int64) (M' : Mm), E e9_3 M' → Nk_ M M' → V_ p l e rmX10_digestOfFrames s m args below meth c 8 D M0 Q 135 [(3, .long e9_3)] [] M' 0 0) → V_ p l e rmX10_digestOfFrames s m args below meth c 8 D M0 Q 5 [(0, .ref a0), (3, .long y3), (5, .int x5)] [] M 0 0 := by
  intro n
  induction n with
  | zero =>
    intro E y3 x5 M hw
    exact hw.elim
  | succ n ih =>
    intro E y3 x5 M hw hp0 kE
    refine r_iload g dX10_digestOfFrames_5 2 rfl ?_
    refine r_aload_n g dX10_digestOfFrames_7 rfl 0 rfl ?_
    obtain ⟨hk1, hw⟩ := hw
    refine r_gtR (C := RX10) (T := TX10) (N := 6) g (ci := 11) rfl tc_X10 hp0 0 (by decide) tw_334 (fun _ h => h) rfl (k_ne hk1 (by decide)) dX10_digestOfFrames_8 ?_
    obtain ⟨hk2, hw⟩ := hw
    refine r_gtR (C := RX8) (T := TX8) (N := 11) g (ci := 9) rfl tc_X8 hk1 1 (by decide) tw_168 (fun _ h => h) rfl (k_ne hk2 (by decide)) dX10_digestOfFrames_11 ?_
    refine r_callVi (As := []) g (fun sz => mt_Jx4a65c_size_8abf5 hw sz) tw_357 tw_360 tw_5 tw_358 tw_359 (ci := 0) (T := TJx4a65c) (N := 3) rfl hk2 hy_Jx4a65c_size_8abf5 ⟨rfl, rfl⟩ (Nat.le_of_ble_eq_true rfl) (Nat.le_of_ble_eq_true rfl) (Nat.le_of_ble_eq_true rfl) (Nat.le_of_ble_eq_true rfl) (Nat.le_of_ble_eq_true rfl) rfl dX10_digestOfFrames_14 (fun M3 r4 hK5 hN6 => ?_)
    have hw := hK5 hN6
    have hk7 := Nk_.k hN6 hp0 (by decide)
    have hT8 := Nk_.tr (Nk_.rf _) hN6
    refine r_icmp_ge (tgt := 135) g dX10_digestOfFrames_17 (by decide) (fun hc9 => ?_) (fun hc9 => ?_)
    · have hw := hw.1 hc9
      exact V_.sub (kE y3 _ hw hT8) [1] rfl
    · have hw := hw.2 hc9
      refine r_aload_n g dX10_digestOfFrames_20 rfl 0 rfl ?_
      obtain ⟨hk10, hw⟩ := hw
      refine r_gtR (C := RX10) (T := TX10) (N := 6) g (ci := 11) rfl tc_X10 hk7 0 (by decide) tw_334 (fun _ h => h) rfl (k_ne hk10 (by decide)) dX10_digestOfFrames_21 ?_
      obtain ⟨hk11, hw⟩ := hw
      refine r_gtR (C := RX8) (T := TX8) (N := 11) g (ci := 9) rfl tc_X8 hk10 1 (by decide) tw_168 (fun _ h => h) rfl (k_ne hk11 (by decide)) dX10_digestOfFrames_24 ?_
      refine r_iload g dX10_digestOfFrames_27 2 rfl ?_
      refine r_callVr (As := [.int x5]) g (fun sz => mt_Jx4a65c_get_915e3 hw sz) tw_651 tw_543 tw_5 tw_541 tw_542 (ci := 0) (T := TJx4a65c) (N := 3) rfl hk11 hy_Jx4a65c_get_915e3 ⟨rfl, rfl⟩ (Nat.le_of_ble_eq_true rfl) (Nat.le_of_ble_eq_true rfl) (Nat.le_of_ble_eq_true rfl) (Nat.le_of_ble_eq_true rfl) (Nat.le_of_ble_eq_true rfl) rfl dX10_digestOfFrames_29 (fun M12 r13 hK14 h16 hN15 => ?_)
      have hw := hK14 hN15
      have hk17 := Nk_.k hN15 hk7 (by decide)
      have hT18 := Nk_.tr hT8 hN15
      obtain ⟨hk19, hw⟩ := hw
      refine r_cast (C := RX0) (T := TX0) (N := 4) g (ci := 1) rfl tw_656 hk19 dX10_digestOfFrames_32 ?_
      refine r_astore (L' := [(6, .ref r13), (0, .ref a0), (3, .long y3), (5, .int x5)]) g dX10_digestOfFrames_35 (by decide) rfl ?_
      refine r_lload_n g dX10_digestOfFrames_37 rfl 2 rfl ?_
      refine r_aload g dX10_digestOfFrames_38 0 rfl ?_
      refine r_gt (C := RX0) (T := TX0) (N := 4) g (ci := 1) rfl tc_X0 hk19 2 (by decide) tw_150 (fun _ h => h) rfl dX10_digestOfFrames_40 ?_
      refine r_i2l g dX10_digestOfFrames_43 ?_
      refine r_callSl (As := [.long y3, .long ((it_ M12 r13 2).toInt64)]) g (fun sz => mt_X10_mixed hw sz) tw_628 tw_630 tw_1 tw_629 hy_X10_mixed ⟨rfl, rfl⟩ (Nat.le_of_ble_eq_true rfl) (Nat.le_of_ble_eq_true rfl) (Nat.le_of_ble_eq_true rfl) (Nat.le_of_ble_eq_true rfl) (Nat.le_of_ble_eq_true rfl) rfl dX10_digestOfFrames_44 (fun M20 r21 hK22 hN23 => ?_)
      have hw := hK22 hN23
      have hk24 := Nk_.k hN23 hk19 (by decide)
      have hk25 := Nk_.k hN23 hk17 (by decide)
      have hT26 := Nk_.tr hT18 hN23
      refine r_lstore_n (L' := [(3, .long r21), (6, .ref r13), (0, .ref a0), (5, .int x5)]) g dX10_digestOfFrames_47 rfl (by decide) rfl ?_
      refine r_iconst (v := 0) g dX10_digestOfFrames_48 (by decide) ?_
      refine r_istore (L' := [(7, .int (0 : Int32)), (3, .long r21), (6, .ref r13), (0, .ref a0), (5, .int x5)]) g dX10_digestOfFrames_49 (by decide) rfl ?_
      obtain ⟨n37, hw⟩ := hw
      refine V_.sub (lo_X10_digestOfFrames_51 g hr hQ n37 _ r21 (0 : Int32) _ hw hk25 hk24 (fun yv40 M38 hE hN39 => ?_)) [3, 1, 4, 2, 0] rfl
      have hw := hE hN39
      have hk41 := Nk_.k hN39 hk25 (by decide)
      have hk42 := Nk_.k hN39 hk24 (by decide)
      have hT43 := Nk_.tr hT26 hN39
      refine r_lload_n g dX10_digestOfFrames_81 rfl 1 rfl ?_
      refine r_aload g dX10_digestOfFrames_82 3 rfl ?_
      refine r_gt (C := RX0) (T := TX0) (N := 4) g (ci := 1) rfl tc_X0 hk42 3 (by decide) tw_153 (fun _ h => h) rfl dX10_digestOfFrames_84 ?_
      refine r_i2l g dX10_digestOfFrames_87 ?_
      refine r_callSl (As := [.long yv40, .long ((it_ M38 r13 3).toInt64)]) g (fun sz => mt_X10_mixed hw sz) tw_628 tw_630 tw_1 tw_629 hy_X10_mixed ⟨rfl, rfl⟩ (Nat.le_of_ble_eq_true rfl) (Nat.le_of_ble_eq_true rfl) (Nat.le_of_ble_eq_true rfl) (Nat.le_of_ble_eq_true rfl) (Nat.le_of_ble_eq_true rfl) rfl dX10_digestOfFrames_88 (fun M44 r45 hK46 hN47 => ?_)
      have hw := hK46 hN47
      have hk48 := Nk_.k hN47 hk41 (by decide)
      have hk49 := Nk_.k hN47 hk42 (by decide)
      have hT50 := Nk_.tr hT43 hN47
      refine r_lstore_n (L' := [(3, .long r45), (0, .ref a0), (5, .int x5), (6, .ref r13)]) g dX10_digestOfFrames_91 rfl (by decide) rfl ?_
      refine r_iconst (v := 0) g dX10_digestOfFrames_92 (by decide) ?_
      refine r_istore (L' := [(7, .int (0 : Int32)), (3, .long r45), (0, .ref a0), (5, .int x5), (6, .ref r13)]) g dX10_digestOfFrames_93 (by decide) rfl ?_
      obtain ⟨n71, hw⟩ := hw
      refine V_.sub (lo_X10_digestOfFrames_95 g hr hQ n71 _ r45 (0 : Int32) _ hw hk48 hk49 (fun yv74 M72 hE hN73 => ?_)) [2, 1, 3, 4, 0] rfl
      have hw := hE hN73
      have hk75 := Nk_.k hN73 hk48 (by decide)
      have hT76 := Nk_.tr hT50 hN73
      refine r_iinc (v := x5 + (1 : Int32)) (L' := [(5, .int (x5 + (1 : Int32))), (0, .ref a0), (3, .long yv74)]) g dX10_digestOfFrames_129 2 rfl rfl (by decide) rfl ?_
      refine r_goto (tgt := 5) g dX10_digestOfFrames_132 (by decide) ?_
      exact V_.sub (ih E yv74 (x5 + (1 : Int32)) _ hw hk75 (fun e9_3 M9 hE9 hN9 => kE e9_3 M9 hE9 (Nk_.tr hT76 hN9))) [1, 2, 0] rfl
set_option maxHeartbeats 4000000 in
set_option maxRecDepth 100000 in
theorem mt_X10_digestOfFrames {l : Launch} {D : Dd_} {M : Mm} {a0 : Nat} {y1 : Int64} {K : Mm → Int64 → Prop} (hw : wp_X10_digestOfFrames a0 y1 M K) (sz : Nat) : Met l yX10_digestOfFrames (Cond.code yX10_digestOfFrames cX10_digestOfFrames 8 (some .long) :: tbG_) rmX10_digestOfFrames (cPc_ D M sz [.ref a0, .long y1]) (va_Ql (fun r M' => K M' r) (cB_ D M sz) (Aw_ M sz)) 0 0 (Aw_ M sz) := by
  refine ofV (by decide) (Nat.le_of_ble_eq_true rfl) ?_
  intro p e s m below meth c g hr hin hsz
  subst hsz
  obtain ⟨hp0, hw⟩ := hw
  refine r_lload_n g dX10_digestOfFrames_0 rfl 1 rfl ?_
  refine r_lstore_n (L' := [(3, .long y1), (0, .ref a0), (1, .long y1)]) g dX10_digestOfFrames_1 rfl (by decide) rfl ?_
  refine r_iconst (v := 0) g dX10_digestOfFrames_2 (by decide) ?_
  refine r_istore (L' := [(5, .int (0 : Int32)), (3, .long y1), (0, .ref a0), (1, .long y1)]) g dX10_digestOfFrames_3 (by decide) rfl ?_
  obtain ⟨n77, hw⟩ := hw
  refine V_.sub (lo_X10_digestOfFrames_5 g hr rfl n77 _ y1 (0 : Int32) _ hw hp0 (fun yv80 M78 hE hN79 => ?_)) [2, 1, 0] rfl
  have hw := hE hN79
  have hT81 := Nk_.tr (Nk_.rf _) hN79
  refine r_lload_n g dX10_digestOfFrames_135 rfl 0 rfl ?_
  exact r_lret g hr (Nat.le_of_ble_eq_true rfl) (Nat.le_of_ble_eq_true rfl) rfl dX10_digestOfFrames_136 hw
def rmX10_digest : Room := { frames := 5, cells := 0, slots := 0, locals := 112 }
theorem hy_X10_digest : yX10_digest.cls ≠ "java/lang/invoke/MethodHandle" ∧ yX10_digest.cls ≠ "java/lang/invoke/VarHandle" ∧ (parseMethodDescriptor yX10_digest.desc).map (fun d => d.parameters.length) = some 0 := by decide +kernel
def wp_X10_digest (a0 : Nat) (M : Mm) (K : Mm → Int64 → Prop) : Prop := kd_ M a0 = 12 ∧ (wp_X10_digestOfCounts a0 (58023 : Int64) M (fun M1 r2 => Nk_ M M1 → (wp_X10_digestOfRows a0 r2 M1 (fun M7 r8 => Nk_ M1 M7 → (wp_X10_digestOfFrames a0 r8 M7 (fun M13 r14 => Nk_ M7 M13 → (K M13 r14)))))))
set_option maxHeartbeats 4000000 in
set_option maxRecDepth 100000 in
theorem mt_X10_digest {l : Launch} {D : Dd_} {M : Mm} {a0 : Nat} {K : Mm → Int64 → Prop} (hw : wp_X10_digest a0 M K) (sz : Nat) : Met l yX10_digest (Cond.code yX10_digest cX10_digest 1 (some .long) :: tbG_) rmX10_digest (cPc_ D M sz [.ref a0]) (va_Ql (fun r M' => K M' r) (cB_ D M sz) (Aw_ M sz)) 0 0 (Aw_ M sz) := by
  refine ofV (by decide) (Nat.le_of_ble_eq_true rfl) ?_
  intro p e s m below meth c g hr hin hsz
  subst hsz
  obtain ⟨hp0, hw⟩ := hw
  refine r_aload_n g dX10_digest_0 rfl 0 rfl ?_
  refine r_aload_n g dX10_digest_1 rfl 0 rfl ?_
  refine r_aload_n g dX10_digest_2 rfl 0 rfl ?_
  refine r_ldc2 (v := 58023) g tw_623 dX10_digest_3 ?_
  refine r_callVl (As := [.long (58023 : Int64)]) g (fun sz => mt_X10_digestOfCounts hw sz) tw_624 tw_627 tw_1 tw_626 tp_12 (ci := 11) (T := TX10) (N := 6) rfl hp0 hy_X10_digestOfCounts ⟨rfl, rfl⟩ (Nat.le_of_ble_eq_true rfl) (Nat.le_of_ble_eq_true rfl) (Nat.le_of_ble_eq_true rfl) (Nat.le_of_ble_eq_true rfl) (Nat.le_of_ble_eq_true rfl) rfl dX10_digest_6 (fun M1 r2 hK3 hN4 => ?_)
  have hw := hK3 hN4
  have hk5 := Nk_.k hN4 hp0 (by decide)
  have hT6 := Nk_.tr (Nk_.rf _) hN4
  refine r_callVl (As := [.long r2]) g (fun sz => mt_X10_digestOfRows hw sz) tw_647 tw_650 tw_1 tw_649 tp_13 (ci := 11) (T := TX10) (N := 6) rfl hk5 hy_X10_digestOfRows ⟨rfl, rfl⟩ (Nat.le_of_ble_eq_true rfl) (Nat.le_of_ble_eq_true rfl) (Nat.le_of_ble_eq_true rfl) (Nat.le_of_ble_eq_true rfl) (Nat.le_of_ble_eq_true rfl) rfl dX10_digest_9 (fun M7 r8 hK9 hN10 => ?_)
  have hw := hK9 hN10
  have hk11 := Nk_.k hN10 hk5 (by decide)
  have hT12 := Nk_.tr hT6 hN10
  refine r_callVl (As := [.long r8]) g (fun sz => mt_X10_digestOfFrames hw sz) tw_652 tw_655 tw_1 tw_654 tp_14 (ci := 11) (T := TX10) (N := 6) rfl hk11 hy_X10_digestOfFrames ⟨rfl, rfl⟩ (Nat.le_of_ble_eq_true rfl) (Nat.le_of_ble_eq_true rfl) (Nat.le_of_ble_eq_true rfl) (Nat.le_of_ble_eq_true rfl) (Nat.le_of_ble_eq_true rfl) rfl dX10_digest_12 (fun M13 r14 hK15 hN16 => ?_)
  have hw := hK15 hN16
  have hk17 := Nk_.k hN16 hk11 (by decide)
  have hT18 := Nk_.tr hT12 hN16
  exact r_lret g hr (Nat.le_of_ble_eq_true rfl) (Nat.le_of_ble_eq_true rfl) rfl dX10_digest_15 hw
