/-! walks by program: 19.framex -/
def rmxX10_needRow : Room := { frames := 6, cells := 1, slots := 6, locals := 82 }
def wx_X10_needRow (a0 : Nat) (x1 : Int32) (M : Mm) (K : Mm → Prop) (X : Nat → Mm → Prop) : Prop := kd_ M a0 = 12 ∧ ((x1 < 0 → (X 0 M)) ∧ (¬ x1 < 0 → (kd_ M (rf_ M a0 0) = 10 ∧ ((x1 < (it_ M (rf_ M a0 0) 7) → K M) ∧ (¬ x1 < (it_ M (rf_ M a0 0) 7) → (X 0 M))))))
set_option maxHeartbeats 4000000 in
set_option maxRecDepth 100000 in
theorem mx_X10_needRow {l : Launch} (hfl : l.stackTraces = false) {D : Dd_} {M : Mm} {a0 : Nat} {x1 : Int32} {K : Mm → Prop} {X : Nat → Mm → Prop} (hw : wx_X10_needRow a0 x1 M K X) (sz : Nat) : vx_Met l yX10_needRow (Cond.code yX10_needRow cX10_needRow 2 none :: tbG_) rmxX10_needRow (cPc_ D M sz [.ref a0, .int x1]) (va_Qv (fun M' => K M') (cB_ D M sz) (Aw_ M sz)) (XC_ D M sz X) 1 6 (Aw_ M sz) := by
  refine ofX (by decide) (Nat.le_of_ble_eq_true rfl) ?_
  intro p e s m below meth c g hr hin hto hsz
  subst hsz
  obtain ⟨hp0, hw⟩ := hw
  refine r_iload_n g dX10_needRow_0 rfl 1 rfl ?_
  refine r_if_lt (tgt := 15) g dX10_needRow_1 (by decide) (fun hc1 => ?_) (fun hc1 => ?_)
  · have hw := hw.1 hc1
    exact r_throwW0 hfl g rfl (is := 350) (text := "no such row") (by decide +kernel) tw_690 tw_23 dX10_needRow_15 dX10_needRow_18 dX10_needRow_19 dX10_needRow_22 dX10_needRow_25 hto (Nat.le_of_ble_eq_true rfl) (Nat.le_of_ble_eq_true rfl) (Nat.le_of_ble_eq_true rfl) (Nat.le_of_ble_eq_true rfl) (Nat.le_of_ble_eq_true rfl) (Nat.le_of_ble_eq_true rfl) rfl hw
  · have hw := hw.2 hc1
    refine r_iload_n g dX10_needRow_4 rfl 1 rfl ?_
    refine r_aload_n g dX10_needRow_5 rfl 0 rfl ?_
    obtain ⟨hk5, hw⟩ := hw
    refine r_gtR (C := RX10) (T := TX10) (N := 6) g (ci := 11) rfl tc_X10 hp0 0 (by decide) tw_334 (fun _ h => h) rfl (k_ne hk5 (by decide)) dX10_needRow_6 ?_
    refine r_gt (C := RX8) (T := TX8) (N := 11) g (ci := 9) rfl tc_X8 hk5 7 (by decide) tw_181 (fun _ h => h) rfl dX10_needRow_9 ?_
    refine r_icmp_lt (tgt := 26) g dX10_needRow_12 (by decide) (fun hc6 => ?_) (fun hc6 => ?_)
    · have hw := hw.1 hc6
      exact r_vretx g hr (Nat.le_of_ble_eq_true rfl) (Nat.le_of_ble_eq_true rfl) rfl dX10_needRow_26 hw
    · have hw := hw.2 hc6
      exact r_throwW0 hfl g rfl (is := 350) (text := "no such row") (by decide +kernel) tw_690 tw_23 dX10_needRow_15 dX10_needRow_18 dX10_needRow_19 dX10_needRow_22 dX10_needRow_25 hto (Nat.le_of_ble_eq_true rfl) (Nat.le_of_ble_eq_true rfl) (Nat.le_of_ble_eq_true rfl) (Nat.le_of_ble_eq_true rfl) (Nat.le_of_ble_eq_true rfl) (Nat.le_of_ble_eq_true rfl) rfl hw
def rmxX10_needFrame : Room := { frames := 6, cells := 1, slots := 6, locals := 82 }
def wx_X10_needFrame (a0 : Nat) (x1 : Int32) (M : Mm) (K : Mm → Prop) (X : Nat → Mm → Prop) : Prop := kd_ M a0 = 12 ∧ ((x1 < 0 → (X 0 M)) ∧ (¬ x1 < 0 → (kd_ M (rf_ M a0 0) = 10 ∧ (kd_ M (rf_ M (rf_ M a0 0) 1) = 1 ∧ (wp_Jx4a65c_size_8abf5 (rf_ M (rf_ M a0 0) 1) M (fun M7 r8 => Nk_ M M7 → ((x1 < r8 → K M7) ∧ (¬ x1 < r8 → (X 0 M7)))))))))
set_option maxHeartbeats 4000000 in
set_option maxRecDepth 100000 in
theorem mx_X10_needFrame {l : Launch} (hfl : l.stackTraces = false) {D : Dd_} {M : Mm} {a0 : Nat} {x1 : Int32} {K : Mm → Prop} {X : Nat → Mm → Prop} (hw : wx_X10_needFrame a0 x1 M K X) (sz : Nat) : vx_Met l yX10_needFrame (Cond.code yX10_needFrame cX10_needFrame 2 none :: tbG_) rmxX10_needFrame (cPc_ D M sz [.ref a0, .int x1]) (va_Qv (fun M' => K M') (cB_ D M sz) (Aw_ M sz)) (XC_ D M sz X) 1 6 (Aw_ M sz) := by
  refine ofX (by decide) (Nat.le_of_ble_eq_true rfl) ?_
  intro p e s m below meth c g hr hin hto hsz
  subst hsz
  obtain ⟨hp0, hw⟩ := hw
  refine r_iload_n g dX10_needFrame_0 rfl 1 rfl ?_
  refine r_if_lt (tgt := 18) g dX10_needFrame_1 (by decide) (fun hc1 => ?_) (fun hc1 => ?_)
  · have hw := hw.1 hc1
    exact r_throwW0 hfl g rfl (is := 352) (text := "no such frame") (by decide +kernel) tw_690 tw_23 dX10_needFrame_18 dX10_needFrame_21 dX10_needFrame_22 dX10_needFrame_25 dX10_needFrame_28 hto (Nat.le_of_ble_eq_true rfl) (Nat.le_of_ble_eq_true rfl) (Nat.le_of_ble_eq_true rfl) (Nat.le_of_ble_eq_true rfl) (Nat.le_of_ble_eq_true rfl) (Nat.le_of_ble_eq_true rfl) rfl hw
  · have hw := hw.2 hc1
    refine r_iload_n g dX10_needFrame_4 rfl 1 rfl ?_
    refine r_aload_n g dX10_needFrame_5 rfl 0 rfl ?_
    obtain ⟨hk5, hw⟩ := hw
    refine r_gtR (C := RX10) (T := TX10) (N := 6) g (ci := 11) rfl tc_X10 hp0 0 (by decide) tw_334 (fun _ h => h) rfl (k_ne hk5 (by decide)) dX10_needFrame_6 ?_
    obtain ⟨hk6, hw⟩ := hw
    refine r_gtR (C := RX8) (T := TX8) (N := 11) g (ci := 9) rfl tc_X8 hk5 1 (by decide) tw_168 (fun _ h => h) rfl (k_ne hk6 (by decide)) dX10_needFrame_9 ?_
    refine r_callVi (As := []) g (fun sz => mt_Jx4a65c_size_8abf5 hw sz) tw_357 tw_360 tw_5 tw_358 tw_359 (ci := 0) (T := TJx4a65c) (N := 3) rfl hk6 hy_Jx4a65c_size_8abf5 ⟨rfl, rfl⟩ (Nat.le_of_ble_eq_true rfl) (Nat.le_of_ble_eq_true rfl) (Nat.le_of_ble_eq_true rfl) (Nat.le_of_ble_eq_true rfl) (Nat.le_of_ble_eq_true rfl) rfl dX10_needFrame_12 (fun M7 r8 hK9 hN10 => ?_)
    have hw := hK9 hN10
    have hk11 := Nk_.k hN10 hp0 (by decide)
    have hT12 := Nk_.tr (Nk_.rf _) hN10
    refine r_icmp_lt (tgt := 29) g dX10_needFrame_15 (by decide) (fun hc13 => ?_) (fun hc13 => ?_)
    · have hw := hw.1 hc13
      exact r_vretx g hr (Nat.le_of_ble_eq_true rfl) (Nat.le_of_ble_eq_true rfl) rfl dX10_needFrame_29 hw
    · have hw := hw.2 hc13
      exact r_throwW0 hfl g rfl (is := 352) (text := "no such frame") (by decide +kernel) tw_690 tw_23 dX10_needFrame_18 dX10_needFrame_21 dX10_needFrame_22 dX10_needFrame_25 dX10_needFrame_28 hto (Nat.le_of_ble_eq_true rfl) (Nat.le_of_ble_eq_true rfl) (Nat.le_of_ble_eq_true rfl) (Nat.le_of_ble_eq_true rfl) (Nat.le_of_ble_eq_true rfl) (Nat.le_of_ble_eq_true rfl) rfl hw
def rmxX10_delete : Room := { frames := 7, cells := 1, slots := 6, locals := 103 }
theorem hy_X10_delete : yX10_delete.cls ≠ "java/lang/invoke/MethodHandle" ∧ yX10_delete.cls ≠ "java/lang/invoke/VarHandle" ∧ (parseMethodDescriptor yX10_delete.desc).map (fun d => d.parameters.length) = some 1 := by decide +kernel
def wx_X10_delete (a0 : Nat) (x1 : Int32) (M : Mm) (K : Mm → Int32 → Prop) (X : Nat → Mm → Prop) : Prop := kd_ M a0 = 12 ∧ (wx_X10_needRow a0 x1 M (fun M1 => Nk_ M M1 → (kd_ M1 (rf_ M1 a0 0) = 10 ∧ (wp_X8_kill (rf_ M1 a0 0) x1 M1 (fun M8 r9 => Nk_ M1 M8 → bz_ r9 → (K M8 r9))))) (fun e9 M9 => Nk_ M M9 → X e9 M9))
set_option maxHeartbeats 4000000 in
set_option maxRecDepth 100000 in
theorem mx_X10_delete {l : Launch} (hfl : l.stackTraces = false) {D : Dd_} {M : Mm} {a0 : Nat} {x1 : Int32} {K : Mm → Int32 → Prop} {X : Nat → Mm → Prop} (hw : wx_X10_delete a0 x1 M K X) (sz : Nat) : vx_Met l yX10_delete (Cond.code yX10_delete cX10_delete 2 (some .boolean) :: tbG_) rmxX10_delete (cPc_ D M sz [.ref a0, .int x1]) (va_Qi (fun r M' => K M' r ∧ bz_ r) (cB_ D M sz) (Aw_ M sz)) (XC_ D M sz X) 1 6 (Aw_ M sz) := by
  refine ofX (by decide) (Nat.le_of_ble_eq_true rfl) ?_
  intro p e s m below meth c g hr hin hto hsz
  subst hsz
  obtain ⟨hp0, hw⟩ := hw
  refine r_aload_n g dX10_delete_0 rfl 0 rfl ?_
  refine r_iload_n g dX10_delete_1 rfl 1 rfl ?_
  refine x_callVv (As := [.int x1]) g (fun sz => mx_X10_needRow hfl hw sz) tw_686 tw_689 tw_1 tw_688 tp_15 (ci := 11) (T := TX10) (N := 6) rfl hp0 hy_X10_needRow ⟨rfl, rfl⟩ (Nat.le_of_ble_eq_true rfl) (Nat.le_of_ble_eq_true rfl) (Nat.le_of_ble_eq_true rfl) (Nat.le_of_ble_eq_true rfl) (Nat.le_of_ble_eq_true rfl) rfl dX10_delete_2 (fun e9 M9 hX9 hN9 he9 => r_outx g hto (Nat.le_of_ble_eq_true rfl) (Nat.le_of_ble_eq_true rfl) rfl he9 (hX9 hN9)) (fun M1 hK2 hN3 => ?_)
  have hw := hK2 hN3
  have hk5 := Nk_.k hN3 hp0 (by decide)
  have hT6 := Nk_.tr (Nk_.rf _) hN3
  refine r_aload_n g dX10_delete_5 rfl 0 rfl ?_
  obtain ⟨hk7, hw⟩ := hw
  refine r_gtR (C := RX10) (T := TX10) (N := 6) g (ci := 11) rfl tc_X10 hk5 0 (by decide) tw_334 (fun _ h => h) rfl (k_ne hk7 (by decide)) dX10_delete_6 ?_
  refine r_iload_n g dX10_delete_9 rfl 1 rfl ?_
  refine r_callVz (As := [.int x1]) g (fun sz => mt_X8_kill hw sz) tw_706 tw_709 tw_2 tw_707 tw_708 (ci := 9) (T := TX8) (N := 11) rfl hk7 hy_X8_kill ⟨rfl, rfl⟩ (Nat.le_of_ble_eq_true rfl) (Nat.le_of_ble_eq_true rfl) (Nat.le_of_ble_eq_true rfl) (Nat.le_of_ble_eq_true rfl) (Nat.le_of_ble_eq_true rfl) rfl dX10_delete_10 (fun M8 r9 hK10 hb12 hN11 => ?_)
  have hw := hK10 hN11 hb12
  have hk13 := Nk_.k hN11 hk5 (by decide)
  have hT14 := Nk_.tr hT6 hN11
  exact r_zretx g hr (Nat.le_of_ble_eq_true rfl) (Nat.le_of_ble_eq_true rfl) rfl hb12 dX10_delete_13 hw
def rmxX10_change : Room := { frames := 9, cells := 21, slots := 482, locals := 232 }
theorem hy_X10_change : yX10_change.cls ≠ "java/lang/invoke/MethodHandle" ∧ yX10_change.cls ≠ "java/lang/invoke/VarHandle" ∧ (parseMethodDescriptor yX10_change.desc).map (fun d => d.parameters.length) = some 3 := by decide +kernel
def wx_X10_change (a0 : Nat) (x1 : Int32) (x2 : Int32) (x3 : Int32) (M : Mm) (K : Mm → Int32 → Prop) (X : Nat → Mm → Prop) : Prop := kd_ M a0 = 12 ∧ (wx_X10_needRow a0 x1 M (fun M1 => Nk_ M M1 → (wp_X10_needColumn a0 x2 M1 (fun M7 => Nk_ M1 M7 → (kd_ M7 (rf_ M7 a0 0) = 10 ∧ (kd_ M7 (rf_ M7 (rf_ M7 a0 0) 2) = 21 ∧ (vp_in x1 (ln_ M7 (rf_ M7 (rf_ M7 a0 0) 2)) ∧ (bz_ (it_ M7 (rf_ M7 (rf_ M7 a0 0) 2) (ix_ x1)) → (((it_ M7 (rf_ M7 (rf_ M7 a0 0) 2) (ix_ x1)) = 0 → (X 1 M7)) ∧ (¬ (it_ M7 (rf_ M7 (rf_ M7 a0 0) 2) (ix_ x1)) = 0 → (wp_X10_needRoom a0 M7 (fun M17 => Nk_ M7 M17 → (kd_ M17 (rf_ M17 a0 0) = 10 ∧ (wp_X8_appendChanged (rf_ M17 a0 0) x1 x2 x3 M17 (fun M23 r24 => Nk_ M17 M23 → (kd_ M23 (rf_ M23 a0 0) = 10 ∧ (wp_X8_sealIfFull (rf_ M23 a0 0) M23 (fun M30 => Nk_ M23 M30 → (K M30 r24)))))))))))))))))) (fun e9 M9 => Nk_ M M9 → X e9 M9))
set_option maxHeartbeats 4000000 in
set_option maxRecDepth 100000 in
theorem mx_X10_change {l : Launch} (hfl : l.stackTraces = false) {D : Dd_} {M : Mm} {a0 : Nat} {x1 : Int32} {x2 : Int32} {x3 : Int32} {K : Mm → Int32 → Prop} {X : Nat → Mm → Prop} (hw : wx_X10_change a0 x1 x2 x3 M K X) (sz : Nat) : vx_Met l yX10_change (Cond.code yX10_change cX10_change 5 (some .int) :: tbG_) rmxX10_change (cPc_ D M sz [.ref a0, .int x1, .int x2, .int x3]) (va_Qi (fun r M' => K M' r) (cB_ D M sz) (Aw_ M sz)) (XC_ D M sz X) 21 482 (Aw_ M sz) := by
  refine ofX (by decide) (Nat.le_of_ble_eq_true rfl) ?_
  intro p e s m below meth c g hr hin hto hsz
  subst hsz
  obtain ⟨hp0, hw⟩ := hw
  refine r_aload_n g dX10_change_0 rfl 0 rfl ?_
  refine r_iload_n g dX10_change_1 rfl 1 rfl ?_
  refine x_callVv (As := [.int x1]) g (fun sz => mx_X10_needRow hfl hw sz) tw_686 tw_689 tw_1 tw_688 tp_15 (ci := 11) (T := TX10) (N := 6) rfl hp0 hy_X10_needRow ⟨rfl, rfl⟩ (Nat.le_of_ble_eq_true rfl) (Nat.le_of_ble_eq_true rfl) (Nat.le_of_ble_eq_true rfl) (Nat.le_of_ble_eq_true rfl) (Nat.le_of_ble_eq_true rfl) rfl dX10_change_2 (fun e9 M9 hX9 hN9 he9 => r_outx g hto (Nat.le_of_ble_eq_true rfl) (Nat.le_of_ble_eq_true rfl) rfl he9 (hX9 hN9)) (fun M1 hK2 hN3 => ?_)
  have hw := hK2 hN3
  have hk5 := Nk_.k hN3 hp0 (by decide)
  have hT6 := Nk_.tr (Nk_.rf _) hN3
  refine r_aload_n g dX10_change_5 rfl 0 rfl ?_
  refine r_iload_n g dX10_change_6 rfl 2 rfl ?_
  refine r_callVv (As := [.int x2]) g (fun sz => mt_X10_needColumn hw sz) tw_714 tw_717 tw_1 tw_716 tp_16 (ci := 11) (T := TX10) (N := 6) rfl hk5 hy_X10_needColumn ⟨rfl, rfl⟩ (Nat.le_of_ble_eq_true rfl) (Nat.le_of_ble_eq_true rfl) (Nat.le_of_ble_eq_true rfl) (Nat.le_of_ble_eq_true rfl) (Nat.le_of_ble_eq_true rfl) rfl dX10_change_7 (fun M7 hK8 hN9 => ?_)
  have hw := hK8 hN9
  have hk10 := Nk_.k hN9 hk5 (by decide)
  have hT11 := Nk_.tr hT6 hN9
  refine r_aload_n g dX10_change_10 rfl 0 rfl ?_
  obtain ⟨hk12, hw⟩ := hw
  refine r_gtR (C := RX10) (T := TX10) (N := 6) g (ci := 11) rfl tc_X10 hk10 0 (by decide) tw_334 (fun _ h => h) rfl (k_ne hk12 (by decide)) dX10_change_11 ?_
  obtain ⟨hk13, hw⟩ := hw
  refine r_gtR (C := RX8) (T := TX8) (N := 11) g (ci := 9) rfl tc_X8 hk12 2 (by decide) tw_170 (fun _ h => h) rfl (k_ne hk13 (by decide)) dX10_change_14 ?_
  refine r_iload_n g dX10_change_17 rfl 1 rfl ?_
  obtain ⟨hi14, hw⟩ := hw
  refine r_zald g hk13 hi14 dX10_change_18 (fun hb15 => ?_)
  have hw := hw hb15
  refine r_if_ne (tgt := 32) g dX10_change_19 (by decide) (fun hc16 => ?_) (fun hc16 => ?_)
  · have hw := hw.2 hc16
    refine r_aload_n g dX10_change_32 rfl 0 rfl ?_
    refine r_callVv (As := []) g (fun sz => mt_X10_needRoom hw sz) tw_720 tw_723 tw_1 tw_722 tp_17 (ci := 11) (T := TX10) (N := 6) rfl hk10 hy_X10_needRoom ⟨rfl, rfl⟩ (Nat.le_of_ble_eq_true rfl) (Nat.le_of_ble_eq_true rfl) (Nat.le_of_ble_eq_true rfl) (Nat.le_of_ble_eq_true rfl) (Nat.le_of_ble_eq_true rfl) rfl dX10_change_33 (fun M17 hK18 hN19 => ?_)
    have hw := hK18 hN19
    have hk20 := Nk_.k hN19 hk10 (by decide)
    have hT21 := Nk_.tr hT11 hN19
    refine r_aload_n g dX10_change_36 rfl 0 rfl ?_
    obtain ⟨hk22, hw⟩ := hw
    refine r_gtR (C := RX10) (T := TX10) (N := 6) g (ci := 11) rfl tc_X10 hk20 0 (by decide) tw_334 (fun _ h => h) rfl (k_ne hk22 (by decide)) dX10_change_37 ?_
    refine r_iload_n g dX10_change_40 rfl 1 rfl ?_
    refine r_iload_n g dX10_change_41 rfl 2 rfl ?_
    refine r_iload_n g dX10_change_42 rfl 3 rfl ?_
    refine r_callVi (As := [.int x1, .int x2, .int x3]) g (fun sz => mt_X8_appendChanged hw sz) tw_725 tw_728 tw_2 tw_726 tw_727 (ci := 9) (T := TX8) (N := 11) rfl hk22 hy_X8_appendChanged ⟨rfl, rfl⟩ (Nat.le_of_ble_eq_true rfl) (Nat.le_of_ble_eq_true rfl) (Nat.le_of_ble_eq_true rfl) (Nat.le_of_ble_eq_true rfl) (Nat.le_of_ble_eq_true rfl) rfl dX10_change_43 (fun M23 r24 hK25 hN26 => ?_)
    have hw := hK25 hN26
    have hk27 := Nk_.k hN26 hk20 (by decide)
    have hT28 := Nk_.tr hT21 hN26
    refine r_istore (L' := [(4, .int r24), (0, .ref a0), (1, .int x1), (2, .int x2), (3, .int x3)]) g dX10_change_46 (by decide) rfl ?_
    refine r_aload_n g dX10_change_48 rfl 1 rfl ?_
    obtain ⟨hk29, hw⟩ := hw
    refine r_gtR (C := RX10) (T := TX10) (N := 6) g (ci := 11) rfl tc_X10 hk27 0 (by decide) tw_334 (fun _ h => h) rfl (k_ne hk29 (by decide)) dX10_change_49 ?_
    refine r_callVv (As := []) g (fun sz => mt_X8_sealIfFull hw sz) tw_746 tw_749 tw_2 tw_747 tw_748 (ci := 9) (T := TX8) (N := 11) rfl hk29 hy_X8_sealIfFull ⟨rfl, rfl⟩ (Nat.le_of_ble_eq_true rfl) (Nat.le_of_ble_eq_true rfl) (Nat.le_of_ble_eq_true rfl) (Nat.le_of_ble_eq_true rfl) (Nat.le_of_ble_eq_true rfl) rfl dX10_change_52 (fun M30 hK31 hN32 => ?_)
    have hw := hK31 hN32
    have hk33 := Nk_.k hN32 hk27 (by decide)
    have hT34 := Nk_.tr hT28 hN32
    refine r_iload g dX10_change_55 0 rfl ?_
    exact r_iretx g hr (Nat.le_of_ble_eq_true rfl) (Nat.le_of_ble_eq_true rfl) rfl dX10_change_57 hw
  · have hw := hw.1 hc16
    exact r_throw1 hfl g rfl (is := 107) (text := "the row is not alive") (by decide +kernel) tw_361 tw_17 dX10_change_22 dX10_change_25 dX10_change_26 dX10_change_28 dX10_change_31 hto (Nat.le_of_ble_eq_true rfl) (Nat.le_of_ble_eq_true rfl) (Nat.le_of_ble_eq_true rfl) (Nat.le_of_ble_eq_true rfl) (Nat.le_of_ble_eq_true rfl) (Nat.le_of_ble_eq_true rfl) rfl hw
def rmxX10_seal : Room := { frames := 8, cells := 20, slots := 476, locals := 212 }
theorem hy_X10_seal : yX10_seal.cls ≠ "java/lang/invoke/MethodHandle" ∧ yX10_seal.cls ≠ "java/lang/invoke/VarHandle" ∧ (parseMethodDescriptor yX10_seal.desc).map (fun d => d.parameters.length) = some 0 := by decide +kernel
def wx_X10_seal (a0 : Nat) (M : Mm) (K : Mm → Int32 → Prop) (X : Nat → Mm → Prop) : Prop := kd_ M a0 = 12 ∧ (kd_ M (rf_ M a0 0) = 10 ∧ (kd_ M (rf_ M (rf_ M a0 0) 5) = 2 ∧ (((it_ M (rf_ M (rf_ M a0 0) 5) 2) = 0 → (X 1 M)) ∧ (¬ (it_ M (rf_ M (rf_ M a0 0) 5) 2) = 0 → (wp_X8_sealBuffer (rf_ M a0 0) M (fun M4 r5 => Nk_ M M4 → (K M4 r5)))))))
set_option maxHeartbeats 4000000 in
set_option maxRecDepth 100000 in
theorem mx_X10_seal {l : Launch} (hfl : l.stackTraces = false) {D : Dd_} {M : Mm} {a0 : Nat} {K : Mm → Int32 → Prop} {X : Nat → Mm → Prop} (hw : wx_X10_seal a0 M K X) (sz : Nat) : vx_Met l yX10_seal (Cond.code yX10_seal cX10_seal 1 (some .int) :: tbG_) rmxX10_seal (cPc_ D M sz [.ref a0]) (va_Qi (fun r M' => K M' r) (cB_ D M sz) (Aw_ M sz)) (XC_ D M sz X) 20 476 (Aw_ M sz) := by
  refine ofX (by decide) (Nat.le_of_ble_eq_true rfl) ?_
  intro p e s m below meth c g hr hin hto hsz
  subst hsz
  obtain ⟨hp0, hw⟩ := hw
  refine r_aload_n g dX10_seal_0 rfl 0 rfl ?_
  obtain ⟨hk1, hw⟩ := hw
  refine r_gtR (C := RX10) (T := TX10) (N := 6) g (ci := 11) rfl tc_X10 hp0 0 (by decide) tw_334 (fun _ h => h) rfl (k_ne hk1 (by decide)) dX10_seal_1 ?_
  obtain ⟨hk2, hw⟩ := hw
  refine r_gtR (C := RX8) (T := TX8) (N := 11) g (ci := 9) rfl tc_X8 hk1 5 (by decide) tw_178 (fun _ h => h) rfl (k_ne hk2 (by decide)) dX10_seal_4 ?_
  refine r_gt (C := RX0) (T := TX0) (N := 4) g (ci := 1) rfl tc_X0 hk2 2 (by decide) tw_150 (fun _ h => h) rfl dX10_seal_7 ?_
  refine r_if_ne (tgt := 23) g dX10_seal_10 (by decide) (fun hc3 => ?_) (fun hc3 => ?_)
  · have hw := hw.2 hc3
    refine r_aload_n g dX10_seal_23 rfl 0 rfl ?_
    refine r_gtR (C := RX10) (T := TX10) (N := 6) g (ci := 11) rfl tc_X10 hp0 0 (by decide) tw_334 (fun _ h => h) rfl (k_ne hk1 (by decide)) dX10_seal_24 ?_
    refine r_callVi (As := []) g (fun sz => mt_X8_sealBuffer hw sz) tw_841 tw_753 tw_2 tw_751 tw_752 (ci := 9) (T := TX8) (N := 11) rfl hk1 hy_X8_sealBuffer ⟨rfl, rfl⟩ (Nat.le_of_ble_eq_true rfl) (Nat.le_of_ble_eq_true rfl) (Nat.le_of_ble_eq_true rfl) (Nat.le_of_ble_eq_true rfl) (Nat.le_of_ble_eq_true rfl) rfl dX10_seal_27 (fun M4 r5 hK6 hN7 => ?_)
    have hw := hK6 hN7
    have hk8 := Nk_.k hN7 hp0 (by decide)
    have hT9 := Nk_.tr (Nk_.rf _) hN7
    exact r_iretx g hr (Nat.le_of_ble_eq_true rfl) (Nat.le_of_ble_eq_true rfl) rfl dX10_seal_30 hw
  · have hw := hw.1 hc3
    exact r_throw1 hfl g rfl (is := 129) (text := "the buffer has no rows") (by decide +kernel) tw_361 tw_17 dX10_seal_13 dX10_seal_16 dX10_seal_17 dX10_seal_19 dX10_seal_22 hto (Nat.le_of_ble_eq_true rfl) (Nat.le_of_ble_eq_true rfl) (Nat.le_of_ble_eq_true rfl) (Nat.le_of_ble_eq_true rfl) (Nat.le_of_ble_eq_true rfl) (Nat.le_of_ble_eq_true rfl) rfl hw
def rmxX10_cluster : Room := { frames := 7, cells := 1, slots := 6, locals := 151 }
theorem hy_X10_cluster : yX10_cluster.cls ≠ "java/lang/invoke/MethodHandle" ∧ yX10_cluster.cls ≠ "java/lang/invoke/VarHandle" ∧ (parseMethodDescriptor yX10_cluster.desc).map (fun d => d.parameters.length) = some 2 := by decide +kernel
def wx_X10_cluster (a0 : Nat) (x1 : Int32) (x2 : Int32) (M : Mm) (K : Mm → Int32 → Prop) (X : Nat → Mm → Prop) : Prop := kd_ M a0 = 12 ∧ (wx_X10_needFrame a0 x1 M (fun M1 => Nk_ M M1 → (wp_X10_needColumn a0 x2 M1 (fun M7 => Nk_ M1 M7 → (kd_ M7 (rf_ M7 a0 0) = 10 ∧ (wp_X8_clusterBy (rf_ M7 a0 0) x1 x2 M7 (fun M13 r14 => Nk_ M7 M13 → (K M13 r14))))))) (fun e9 M9 => Nk_ M M9 → X e9 M9))
set_option maxHeartbeats 4000000 in
set_option maxRecDepth 100000 in
theorem mx_X10_cluster {l : Launch} (hfl : l.stackTraces = false) {D : Dd_} {M : Mm} {a0 : Nat} {x1 : Int32} {x2 : Int32} {K : Mm → Int32 → Prop} {X : Nat → Mm → Prop} (hw : wx_X10_cluster a0 x1 x2 M K X) (sz : Nat) : vx_Met l yX10_cluster (Cond.code yX10_cluster cX10_cluster 3 (some .int) :: tbG_) rmxX10_cluster (cPc_ D M sz [.ref a0, .int x1, .int x2]) (va_Qi (fun r M' => K M' r) (cB_ D M sz) (Aw_ M sz)) (XC_ D M sz X) 1 6 (Aw_ M sz) := by
  refine ofX (by decide) (Nat.le_of_ble_eq_true rfl) ?_
  intro p e s m below meth c g hr hin hto hsz
  subst hsz
  obtain ⟨hp0, hw⟩ := hw
  refine r_aload_n g dX10_cluster_0 rfl 0 rfl ?_
  refine r_iload_n g dX10_cluster_1 rfl 1 rfl ?_
  refine x_callVv (As := [.int x1]) g (fun sz => mx_X10_needFrame hfl hw sz) tw_846 tw_849 tw_1 tw_848 tp_25 (ci := 11) (T := TX10) (N := 6) rfl hp0 hy_X10_needFrame ⟨rfl, rfl⟩ (Nat.le_of_ble_eq_true rfl) (Nat.le_of_ble_eq_true rfl) (Nat.le_of_ble_eq_true rfl) (Nat.le_of_ble_eq_true rfl) (Nat.le_of_ble_eq_true rfl) rfl dX10_cluster_2 (fun e9 M9 hX9 hN9 he9 => r_outx g hto (Nat.le_of_ble_eq_true rfl) (Nat.le_of_ble_eq_true rfl) rfl he9 (hX9 hN9)) (fun M1 hK2 hN3 => ?_)
  have hw := hK2 hN3
  have hk5 := Nk_.k hN3 hp0 (by decide)
  have hT6 := Nk_.tr (Nk_.rf _) hN3
  refine r_aload_n g dX10_cluster_5 rfl 0 rfl ?_
  refine r_iload_n g dX10_cluster_6 rfl 2 rfl ?_
  refine r_callVv (As := [.int x2]) g (fun sz => mt_X10_needColumn hw sz) tw_714 tw_717 tw_1 tw_716 tp_16 (ci := 11) (T := TX10) (N := 6) rfl hk5 hy_X10_needColumn ⟨rfl, rfl⟩ (Nat.le_of_ble_eq_true rfl) (Nat.le_of_ble_eq_true rfl) (Nat.le_of_ble_eq_true rfl) (Nat.le_of_ble_eq_true rfl) (Nat.le_of_ble_eq_true rfl) rfl dX10_cluster_7 (fun M7 hK8 hN9 => ?_)
  have hw := hK8 hN9
  have hk10 := Nk_.k hN9 hk5 (by decide)
  have hT11 := Nk_.tr hT6 hN9
  refine r_aload_n g dX10_cluster_10 rfl 0 rfl ?_
  obtain ⟨hk12, hw⟩ := hw
  refine r_gtR (C := RX10) (T := TX10) (N := 6) g (ci := 11) rfl tc_X10 hk10 0 (by decide) tw_334 (fun _ h => h) rfl (k_ne hk12 (by decide)) dX10_cluster_11 ?_
  refine r_iload_n g dX10_cluster_14 rfl 1 rfl ?_
  refine r_iload_n g dX10_cluster_15 rfl 2 rfl ?_
  refine r_callVi (As := [.int x1, .int x2]) g (fun sz => mt_X8_clusterBy hw sz) tw_851 tw_854 tw_2 tw_852 tw_853 (ci := 9) (T := TX8) (N := 11) rfl hk12 hy_X8_clusterBy ⟨rfl, rfl⟩ (Nat.le_of_ble_eq_true rfl) (Nat.le_of_ble_eq_true rfl) (Nat.le_of_ble_eq_true rfl) (Nat.le_of_ble_eq_true rfl) (Nat.le_of_ble_eq_true rfl) rfl dX10_cluster_16 (fun M13 r14 hK15 hN16 => ?_)
  have hw := hK15 hN16
  have hk17 := Nk_.k hN16 hk10 (by decide)
  have hT18 := Nk_.tr hT11 hN16
  exact r_iretx g hr (Nat.le_of_ble_eq_true rfl) (Nat.le_of_ble_eq_true rfl) rfl dX10_cluster_19 hw
def rmxX10_merge : Room := { frames := 7, cells := 2, slots := 12, locals := 151 }
theorem hy_X10_merge : yX10_merge.cls ≠ "java/lang/invoke/MethodHandle" ∧ yX10_merge.cls ≠ "java/lang/invoke/VarHandle" ∧ (parseMethodDescriptor yX10_merge.desc).map (fun d => d.parameters.length) = some 1 := by decide +kernel
def wx_X10_merge (a0 : Nat) (x1 : Int32) (M : Mm) (K : Mm → Int32 → Prop) (X : Nat → Mm → Prop) : Prop := kd_ M a0 = 12 ∧ (wx_X10_needFrame a0 x1 M (fun M1 => Nk_ M M1 → (kd_ M1 (rf_ M1 a0 0) = 10 ∧ (kd_ M1 (rf_ M1 (rf_ M1 a0 0) 1) = 1 ∧ (wp_Jx4a65c_size_8abf5 (rf_ M1 (rf_ M1 a0 0) 1) M1 (fun M9 r10 => Nk_ M1 M9 → ((x1 < (r10 - (1 : Int32)) → (kd_ M9 (rf_ M9 a0 0) = 10 ∧ (wp_X8_livingIn (rf_ M9 a0 0) x1 M9 (fun M17 r18 => Nk_ M9 M17 → (kd_ M17 (rf_ M17 a0 0) = 10 ∧ (wp_X8_livingIn (rf_ M17 a0 0) (x1 + (1 : Int32)) M17 (fun M24 r25 => Nk_ M17 M24 → (((r18 + r25) ≤ (64 : Int32) → (kd_ M24 (rf_ M24 a0 0) = 10 ∧ (wp_X8_mergeNext (rf_ M24 a0 0) x1 M24 (fun M32 r33 => Nk_ M24 M32 → (K M32 r33))))) ∧ (¬ (r18 + r25) ≤ (64 : Int32) → (X 1 M24)))))))))) ∧ (¬ x1 < (r10 - (1 : Int32)) → (X 0 M9)))))))) (fun e9 M9 => Nk_ M M9 → X e9 M9))
set_option maxHeartbeats 4000000 in
set_option maxRecDepth 100000 in
theorem mx_X10_merge {l : Launch} (hfl : l.stackTraces = false) {D : Dd_} {M : Mm} {a0 : Nat} {x1 : Int32} {K : Mm → Int32 → Prop} {X : Nat → Mm → Prop} (hw : wx_X10_merge a0 x1 M K X) (sz : Nat) : vx_Met l yX10_merge (Cond.code yX10_merge cX10_merge 2 (some .int) :: tbG_) rmxX10_merge (cPc_ D M sz [.ref a0, .int x1]) (va_Qi (fun r M' => K M' r) (cB_ D M sz) (Aw_ M sz)) (XC_ D M sz X) 2 12 (Aw_ M sz) := by
  refine ofX (by decide) (Nat.le_of_ble_eq_true rfl) ?_
  intro p e s m below meth c g hr hin hto hsz
  subst hsz
  obtain ⟨hp0, hw⟩ := hw
  refine r_aload_n g dX10_merge_0 rfl 0 rfl ?_
  refine r_iload_n g dX10_merge_1 rfl 1 rfl ?_
  refine x_callVv (As := [.int x1]) g (fun sz => mx_X10_needFrame hfl hw sz) tw_846 tw_849 tw_1 tw_848 tp_25 (ci := 11) (T := TX10) (N := 6) rfl hp0 hy_X10_needFrame ⟨rfl, rfl⟩ (Nat.le_of_ble_eq_true rfl) (Nat.le_of_ble_eq_true rfl) (Nat.le_of_ble_eq_true rfl) (Nat.le_of_ble_eq_true rfl) (Nat.le_of_ble_eq_true rfl) rfl dX10_merge_2 (fun e9 M9 hX9 hN9 he9 => r_outx g hto (Nat.le_of_ble_eq_true rfl) (Nat.le_of_ble_eq_true rfl) rfl he9 (hX9 hN9)) (fun M1 hK2 hN3 => ?_)
  have hw := hK2 hN3
  have hk5 := Nk_.k hN3 hp0 (by decide)
  have hT6 := Nk_.tr (Nk_.rf _) hN3
  refine r_iload_n g dX10_merge_5 rfl 1 rfl ?_
  refine r_aload_n g dX10_merge_6 rfl 0 rfl ?_
  obtain ⟨hk7, hw⟩ := hw
  refine r_gtR (C := RX10) (T := TX10) (N := 6) g (ci := 11) rfl tc_X10 hk5 0 (by decide) tw_334 (fun _ h => h) rfl (k_ne hk7 (by decide)) dX10_merge_7 ?_
  obtain ⟨hk8, hw⟩ := hw
  refine r_gtR (C := RX8) (T := TX8) (N := 11) g (ci := 9) rfl tc_X8 hk7 1 (by decide) tw_168 (fun _ h => h) rfl (k_ne hk8 (by decide)) dX10_merge_10 ?_
  refine r_callVi (As := []) g (fun sz => mt_Jx4a65c_size_8abf5 hw sz) tw_357 tw_360 tw_5 tw_358 tw_359 (ci := 0) (T := TJx4a65c) (N := 3) rfl hk8 hy_Jx4a65c_size_8abf5 ⟨rfl, rfl⟩ (Nat.le_of_ble_eq_true rfl) (Nat.le_of_ble_eq_true rfl) (Nat.le_of_ble_eq_true rfl) (Nat.le_of_ble_eq_true rfl) (Nat.le_of_ble_eq_true rfl) rfl dX10_merge_13 (fun M9 r10 hK11 hN12 => ?_)
  have hw := hK11 hN12
  have hk13 := Nk_.k hN12 hk5 (by decide)
  have hT14 := Nk_.tr hT6 hN12
  refine r_iconst (v := 1) g dX10_merge_16 (by decide) ?_
  refine r_isub g dX10_merge_17 ?_
  refine r_icmp_lt (tgt := 31) g dX10_merge_18 (by decide) (fun hc15 => ?_) (fun hc15 => ?_)
  · have hw := hw.1 hc15
    refine r_aload_n g dX10_merge_31 rfl 0 rfl ?_
    obtain ⟨hk16, hw⟩ := hw
    refine r_gtR (C := RX10) (T := TX10) (N := 6) g (ci := 11) rfl tc_X10 hk13 0 (by decide) tw_334 (fun _ h => h) rfl (k_ne hk16 (by decide)) dX10_merge_32 ?_
    refine r_iload_n g dX10_merge_35 rfl 1 rfl ?_
    refine r_callVi (As := [.int x1]) g (fun sz => mt_X8_livingIn hw sz) tw_874 tw_877 tw_2 tw_875 tw_876 (ci := 9) (T := TX8) (N := 11) rfl hk16 hy_X8_livingIn ⟨rfl, rfl⟩ (Nat.le_of_ble_eq_true rfl) (Nat.le_of_ble_eq_true rfl) (Nat.le_of_ble_eq_true rfl) (Nat.le_of_ble_eq_true rfl) (Nat.le_of_ble_eq_true rfl) rfl dX10_merge_36 (fun M17 r18 hK19 hN20 => ?_)
    have hw := hK19 hN20
    have hk21 := Nk_.k hN20 hk13 (by decide)
    have hT22 := Nk_.tr hT14 hN20
    refine r_aload_n g dX10_merge_39 rfl 0 rfl ?_
    obtain ⟨hk23, hw⟩ := hw
    refine r_gtR (C := RX10) (T := TX10) (N := 6) g (ci := 11) rfl tc_X10 hk21 0 (by decide) tw_334 (fun _ h => h) rfl (k_ne hk23 (by decide)) dX10_merge_40 ?_
    refine r_iload_n g dX10_merge_43 rfl 1 rfl ?_
    refine r_iconst (v := 1) g dX10_merge_44 (by decide) ?_
    refine r_iadd g dX10_merge_45 ?_
    refine r_callVi (As := [.int (x1 + (1 : Int32))]) g (fun sz => mt_X8_livingIn hw sz) tw_874 tw_877 tw_2 tw_875 tw_876 (ci := 9) (T := TX8) (N := 11) rfl hk23 hy_X8_livingIn ⟨rfl, rfl⟩ (Nat.le_of_ble_eq_true rfl) (Nat.le_of_ble_eq_true rfl) (Nat.le_of_ble_eq_true rfl) (Nat.le_of_ble_eq_true rfl) (Nat.le_of_ble_eq_true rfl) rfl dX10_merge_46 (fun M24 r25 hK26 hN27 => ?_)
    have hw := hK26 hN27
    have hk28 := Nk_.k hN27 hk21 (by decide)
    have hT29 := Nk_.tr hT22 hN27
    refine r_iadd g dX10_merge_49 ?_
    refine r_bipush (v := 64) g dX10_merge_50 (by decide) ?_
    refine r_icmp_le (tgt := 65) g dX10_merge_52 (by decide) (fun hc30 => ?_) (fun hc30 => ?_)
    · have hw := hw.1 hc30
      refine r_aload_n g dX10_merge_65 rfl 0 rfl ?_
      obtain ⟨hk31, hw⟩ := hw
      refine r_gtR (C := RX10) (T := TX10) (N := 6) g (ci := 11) rfl tc_X10 hk28 0 (by decide) tw_334 (fun _ h => h) rfl (k_ne hk31 (by decide)) dX10_merge_66 ?_
      refine r_iload_n g dX10_merge_69 rfl 1 rfl ?_
      refine r_callVi (As := [.int x1]) g (fun sz => mt_X8_mergeNext hw sz) tw_879 tw_882 tw_2 tw_880 tw_881 (ci := 9) (T := TX8) (N := 11) rfl hk31 hy_X8_mergeNext ⟨rfl, rfl⟩ (Nat.le_of_ble_eq_true rfl) (Nat.le_of_ble_eq_true rfl) (Nat.le_of_ble_eq_true rfl) (Nat.le_of_ble_eq_true rfl) (Nat.le_of_ble_eq_true rfl) rfl dX10_merge_70 (fun M32 r33 hK34 hN35 => ?_)
      have hw := hK34 hN35
      have hk36 := Nk_.k hN35 hk28 (by decide)
      have hT37 := Nk_.tr hT29 hN35
      exact r_iretx g hr (Nat.le_of_ble_eq_true rfl) (Nat.le_of_ble_eq_true rfl) rfl dX10_merge_73 hw
    · have hw := hw.2 hc30
      exact r_throw1 hfl g rfl (is := 153) (text := "one frame takes at most 64 rows") (by decide +kernel) tw_361 tw_17 dX10_merge_55 dX10_merge_58 dX10_merge_59 dX10_merge_61 dX10_merge_64 hto (Nat.le_of_ble_eq_true rfl) (Nat.le_of_ble_eq_true rfl) (Nat.le_of_ble_eq_true rfl) (Nat.le_of_ble_eq_true rfl) (Nat.le_of_ble_eq_true rfl) (Nat.le_of_ble_eq_true rfl) rfl hw
  · have hw := hw.2 hc15
    exact r_throw0 hfl g rfl (is := 146) (text := "no frame is behind it") (by decide +kernel) tw_690 tw_23 dX10_merge_21 dX10_merge_24 dX10_merge_25 dX10_merge_27 dX10_merge_30 hto (Nat.le_of_ble_eq_true rfl) (Nat.le_of_ble_eq_true rfl) (Nat.le_of_ble_eq_true rfl) (Nat.le_of_ble_eq_true rfl) (Nat.le_of_ble_eq_true rfl) (Nat.le_of_ble_eq_true rfl) rfl hw
def rmxX10_where : Room := { frames := 6, cells := 1, slots := 6, locals := 82 }
theorem hy_X10_where : yX10_where.cls ≠ "java/lang/invoke/MethodHandle" ∧ yX10_where.cls ≠ "java/lang/invoke/VarHandle" ∧ (parseMethodDescriptor yX10_where.desc).map (fun d => d.parameters.length) = some 3 := by decide +kernel
def wx_X10_where (a0 : Nat) (x1 : Int32) (x2 : Int32) (x3 : Int32) (M : Mm) (K : Mm → Int32 → Prop) (X : Nat → Mm → Prop) : Prop := kd_ M a0 = 12 ∧ (wp_X10_needColumn a0 x1 M (fun M1 => Nk_ M M1 → ((x2 < 0 → False) ∧ (¬ x2 < 0 → ((x2 < (8 : Int32) → (kd_ M1 (rf_ M1 a0 1) = 6 ∧ (wp_X4_latest (rf_ M1 a0 1) M1 (fun M12 r13 => Nk_ M1 M12 → (kd_ M12 r13 = 5 ∧ (((it_ M12 r13 1) < (4 : Int32) → (kd_ M12 (rf_ M12 a0 1) = 6 ∧ (wp_X4_latest (rf_ M12 a0 1) M12 (fun M22 r23 => Nk_ M12 M22 → (kd_ M22 r23 = 5 ∧ (wp_X3_state r23 x1 x2 x3 M22 (fun M30 r31 => Nk_ M22 M30 → (K M30 r31)))))))) ∧ (¬ (it_ M12 r13 1) < (4 : Int32) → (X 1 M12)))))))) ∧ (¬ x2 < (8 : Int32) → False))))))
set_option maxHeartbeats 4000000 in
set_option maxRecDepth 100000 in
theorem mx_X10_where {l : Launch} (hfl : l.stackTraces = false) {D : Dd_} {M : Mm} {a0 : Nat} {x1 : Int32} {x2 : Int32} {x3 : Int32} {K : Mm → Int32 → Prop} {X : Nat → Mm → Prop} (hw : wx_X10_where a0 x1 x2 x3 M K X) (sz : Nat) : vx_Met l yX10_where (Cond.code yX10_where cX10_where 4 (some .int) :: tbG_) rmxX10_where (cPc_ D M sz [.ref a0, .int x1, .int x2, .int x3]) (va_Qi (fun r M' => K M' r) (cB_ D M sz) (Aw_ M sz)) (XC_ D M sz X) 1 6 (Aw_ M sz) := by
  refine ofX (by decide) (Nat.le_of_ble_eq_true rfl) ?_
  intro p e s m below meth c g hr hin hto hsz
  subst hsz
  obtain ⟨hp0, hw⟩ := hw
  refine r_aload_n g dX10_where_0 rfl 0 rfl ?_
  refine r_iload_n g dX10_where_1 rfl 1 rfl ?_
  refine r_callVv (As := [.int x1]) g (fun sz => mt_X10_needColumn hw sz) tw_714 tw_717 tw_1 tw_716 tp_16 (ci := 11) (T := TX10) (N := 6) rfl hp0 hy_X10_needColumn ⟨rfl, rfl⟩ (Nat.le_of_ble_eq_true rfl) (Nat.le_of_ble_eq_true rfl) (Nat.le_of_ble_eq_true rfl) (Nat.le_of_ble_eq_true rfl) (Nat.le_of_ble_eq_true rfl) rfl dX10_where_2 (fun M1 hK2 hN3 => ?_)
  have hw := hK2 hN3
  have hk4 := Nk_.k hN3 hp0 (by decide)
  have hT5 := Nk_.tr (Nk_.rf _) hN3
  refine r_iload_n g dX10_where_5 rfl 2 rfl ?_
  refine r_if_lt (tgt := 15) g dX10_where_6 (by decide) (fun hc6 => ?_) (fun hc6 => ?_)
  · have hw := hw.1 hc6
    exact hw.elim
  · have hw := hw.2 hc6
    refine r_iload_n g dX10_where_9 rfl 2 rfl ?_
    refine r_bipush (v := 8) g dX10_where_10 (by decide) ?_
    refine r_icmp_lt (tgt := 25) g dX10_where_12 (by decide) (fun hc10 => ?_) (fun hc10 => ?_)
    · have hw := hw.1 hc10
      refine r_aload_n g dX10_where_25 rfl 0 rfl ?_
      obtain ⟨hk11, hw⟩ := hw
      refine r_gtR (C := RX10) (T := TX10) (N := 6) g (ci := 11) rfl tc_X10 hk4 1 (by decide) tw_335 (fun _ h => h) rfl (k_ne hk11 (by decide)) dX10_where_26 ?_
      refine r_callVr (As := []) g (fun sz => mt_X4_latest hw sz) tw_892 tw_895 tw_9 tw_893 tw_894 (ci := 5) (T := TX4) (N := 2) rfl hk11 hy_X4_latest ⟨rfl, rfl⟩ (Nat.le_of_ble_eq_true rfl) (Nat.le_of_ble_eq_true rfl) (Nat.le_of_ble_eq_true rfl) (Nat.le_of_ble_eq_true rfl) (Nat.le_of_ble_eq_true rfl) rfl dX10_where_29 (fun M12 r13 hK14 h16 hN15 => ?_)
      have hw := hK14 hN15
      have hk17 := Nk_.k hN15 hk4 (by decide)
      have hT18 := Nk_.tr hT5 hN15
      obtain ⟨hk19, hw⟩ := hw
      refine r_gt (C := RX3) (T := TX3) (N := 2) g (ci := 4) rfl tc_X3 hk19 1 (by decide) tw_246 (fun _ h => h) rfl dX10_where_32 ?_
      refine r_iconst (v := 4) g dX10_where_35 (by decide) ?_
      refine r_icmp_lt (tgt := 49) g dX10_where_36 (by decide) (fun hc20 => ?_) (fun hc20 => ?_)
      · have hw := hw.1 hc20
        refine r_aload_n g dX10_where_49 rfl 0 rfl ?_
        obtain ⟨hk21, hw⟩ := hw
        refine r_gtR (C := RX10) (T := TX10) (N := 6) g (ci := 11) rfl tc_X10 hk17 1 (by decide) tw_335 (fun _ h => h) rfl (k_ne hk21 (by decide)) dX10_where_50 ?_
        refine r_callVr (As := []) g (fun sz => mt_X4_latest hw sz) tw_892 tw_895 tw_9 tw_893 tw_894 (ci := 5) (T := TX4) (N := 2) rfl hk21 hy_X4_latest ⟨rfl, rfl⟩ (Nat.le_of_ble_eq_true rfl) (Nat.le_of_ble_eq_true rfl) (Nat.le_of_ble_eq_true rfl) (Nat.le_of_ble_eq_true rfl) (Nat.le_of_ble_eq_true rfl) rfl dX10_where_53 (fun M22 r23 hK24 h26 hN25 => ?_)
        have hw := hK24 hN25
        have hk27 := Nk_.k hN25 hk17 (by decide)
        have hT28 := Nk_.tr hT18 hN25
        obtain ⟨hk29, hw⟩ := hw
        refine r_iload_n g dX10_where_56 rfl 1 rfl ?_
        refine r_iload_n g dX10_where_57 rfl 2 rfl ?_
        refine r_iload_n g dX10_where_58 rfl 3 rfl ?_
        refine r_callVi (As := [.int x1, .int x2, .int x3]) g (fun sz => mt_X3_state hw sz) tw_897 tw_900 tw_10 tw_898 tw_899 (ci := 4) (T := TX3) (N := 2) rfl hk29 hy_X3_state ⟨rfl, rfl⟩ (Nat.le_of_ble_eq_true rfl) (Nat.le_of_ble_eq_true rfl) (Nat.le_of_ble_eq_true rfl) (Nat.le_of_ble_eq_true rfl) (Nat.le_of_ble_eq_true rfl) rfl dX10_where_59 (fun M30 r31 hK32 hN33 => ?_)
        have hw := hK32 hN33
        have hk34 := Nk_.k hN33 hk27 (by decide)
        have hT35 := Nk_.tr hT28 hN33
        exact r_iretx g hr (Nat.le_of_ble_eq_true rfl) (Nat.le_of_ble_eq_true rfl) rfl dX10_where_62 hw
      · have hw := hw.2 hc20
        exact r_throw1 hfl g rfl (is := 224) (text := "the group has 4 conditions") (by decide +kernel) tw_361 tw_17 dX10_where_39 dX10_where_42 dX10_where_43 dX10_where_45 dX10_where_48 hto (Nat.le_of_ble_eq_true rfl) (Nat.le_of_ble_eq_true rfl) (Nat.le_of_ble_eq_true rfl) (Nat.le_of_ble_eq_true rfl) (Nat.le_of_ble_eq_true rfl) (Nat.le_of_ble_eq_true rfl) rfl hw
    · have hw := hw.2 hc10
      exact hw.elim
def rmxX10_orElse : Room := { frames := 6, cells := 1, slots := 6, locals := 82 }
theorem hy_X10_orElse : yX10_orElse.cls ≠ "java/lang/invoke/MethodHandle" ∧ yX10_orElse.cls ≠ "java/lang/invoke/VarHandle" ∧ (parseMethodDescriptor yX10_orElse.desc).map (fun d => d.parameters.length) = some 0 := by decide +kernel
def wx_X10_orElse (a0 : Nat) (M : Mm) (K : Mm → Int32 → Prop) (X : Nat → Mm → Prop) : Prop := kd_ M a0 = 12 ∧ (kd_ M (rf_ M a0 1) = 6 ∧ (((it_ M (rf_ M a0 1) 1) < (4 : Int32) → (wp_X4_latest (rf_ M a0 1) M (fun M3 r4 => Nk_ M M3 → (kd_ M3 r4 = 5 ∧ (((it_ M3 r4 1) = 0 → (X 1 M3)) ∧ (¬ (it_ M3 r4 1) = 0 → (kd_ M3 (rf_ M3 a0 1) = 6 ∧ (wp_X4_begin (rf_ M3 a0 1) M3 (fun M13 r14 => Nk_ M3 M13 → (K M13 r14)))))))))) ∧ (¬ (it_ M (rf_ M a0 1) 1) < (4 : Int32) → (X 1 M))))
set_option maxHeartbeats 4000000 in
set_option maxRecDepth 100000 in
theorem mx_X10_orElse {l : Launch} (hfl : l.stackTraces = false) {D : Dd_} {M : Mm} {a0 : Nat} {K : Mm → Int32 → Prop} {X : Nat → Mm → Prop} (hw : wx_X10_orElse a0 M K X) (sz : Nat) : vx_Met l yX10_orElse (Cond.code yX10_orElse cX10_orElse 1 (some .int) :: tbG_) rmxX10_orElse (cPc_ D M sz [.ref a0]) (va_Qi (fun r M' => K M' r) (cB_ D M sz) (Aw_ M sz)) (XC_ D M sz X) 1 6 (Aw_ M sz) := by
  refine ofX (by decide) (Nat.le_of_ble_eq_true rfl) ?_
  intro p e s m below meth c g hr hin hto hsz
  subst hsz
  obtain ⟨hp0, hw⟩ := hw
  refine r_aload_n g dX10_orElse_0 rfl 0 rfl ?_
  obtain ⟨hk1, hw⟩ := hw
  refine r_gtR (C := RX10) (T := TX10) (N := 6) g (ci := 11) rfl tc_X10 hp0 1 (by decide) tw_335 (fun _ h => h) rfl (k_ne hk1 (by decide)) dX10_orElse_1 ?_
  refine r_gt (C := RX4) (T := TX4) (N := 2) g (ci := 5) rfl tc_X4 hk1 1 (by decide) tw_256 (fun _ h => h) rfl dX10_orElse_4 ?_
  refine r_iconst (v := 4) g dX10_orElse_7 (by decide) ?_
  refine r_icmp_lt (tgt := 21) g dX10_orElse_8 (by decide) (fun hc2 => ?_) (fun hc2 => ?_)
  · have hw := hw.1 hc2
    refine r_aload_n g dX10_orElse_21 rfl 0 rfl ?_
    refine r_gtR (C := RX10) (T := TX10) (N := 6) g (ci := 11) rfl tc_X10 hp0 1 (by decide) tw_335 (fun _ h => h) rfl (k_ne hk1 (by decide)) dX10_orElse_22 ?_
    refine r_callVr (As := []) g (fun sz => mt_X4_latest hw sz) tw_892 tw_895 tw_9 tw_893 tw_894 (ci := 5) (T := TX4) (N := 2) rfl hk1 hy_X4_latest ⟨rfl, rfl⟩ (Nat.le_of_ble_eq_true rfl) (Nat.le_of_ble_eq_true rfl) (Nat.le_of_ble_eq_true rfl) (Nat.le_of_ble_eq_true rfl) (Nat.le_of_ble_eq_true rfl) rfl dX10_orElse_25 (fun M3 r4 hK5 h7 hN6 => ?_)
    have hw := hK5 hN6
    have hk8 := Nk_.k hN6 hp0 (by decide)
    have hT9 := Nk_.tr (Nk_.rf _) hN6
    obtain ⟨hk10, hw⟩ := hw
    refine r_gt (C := RX3) (T := TX3) (N := 2) g (ci := 4) rfl tc_X3 hk10 1 (by decide) tw_246 (fun _ h => h) rfl dX10_orElse_28 ?_
    refine r_if_ne (tgt := 44) g dX10_orElse_31 (by decide) (fun hc11 => ?_) (fun hc11 => ?_)
    · have hw := hw.2 hc11
      refine r_aload_n g dX10_orElse_44 rfl 0 rfl ?_
      obtain ⟨hk12, hw⟩ := hw
      refine r_gtR (C := RX10) (T := TX10) (N := 6) g (ci := 11) rfl tc_X10 hk8 1 (by decide) tw_335 (fun _ h => h) rfl (k_ne hk12 (by decide)) dX10_orElse_45 ?_
      refine r_callVi (As := []) g (fun sz => mt_X4_begin hw sz) tw_911 tw_914 tw_9 tw_912 tw_913 (ci := 5) (T := TX4) (N := 2) rfl hk12 hy_X4_begin ⟨rfl, rfl⟩ (Nat.le_of_ble_eq_true rfl) (Nat.le_of_ble_eq_true rfl) (Nat.le_of_ble_eq_true rfl) (Nat.le_of_ble_eq_true rfl) (Nat.le_of_ble_eq_true rfl) rfl dX10_orElse_48 (fun M13 r14 hK15 hN16 => ?_)
      have hw := hK15 hN16
      have hk17 := Nk_.k hN16 hk8 (by decide)
      have hT18 := Nk_.tr hT9 hN16
      exact r_iretx g hr (Nat.le_of_ble_eq_true rfl) (Nat.le_of_ble_eq_true rfl) rfl dX10_orElse_51 hw
    · have hw := hw.1 hc11
      exact r_throw1 hfl g rfl (is := 232) (text := "the latest group is empty") (by decide +kernel) tw_361 tw_17 dX10_orElse_34 dX10_orElse_37 dX10_orElse_38 dX10_orElse_40 dX10_orElse_43 hto (Nat.le_of_ble_eq_true rfl) (Nat.le_of_ble_eq_true rfl) (Nat.le_of_ble_eq_true rfl) (Nat.le_of_ble_eq_true rfl) (Nat.le_of_ble_eq_true rfl) (Nat.le_of_ble_eq_true rfl) rfl hw
  · have hw := hw.2 hc2
    exact r_throw1 hfl g rfl (is := 230) (text := "there are 4 groups") (by decide +kernel) tw_361 tw_17 dX10_orElse_11 dX10_orElse_14 dX10_orElse_15 dX10_orElse_17 dX10_orElse_20 hto (Nat.le_of_ble_eq_true rfl) (Nat.le_of_ble_eq_true rfl) (Nat.le_of_ble_eq_true rfl) (Nat.le_of_ble_eq_true rfl) (Nat.le_of_ble_eq_true rfl) (Nat.le_of_ble_eq_true rfl) rfl hw
