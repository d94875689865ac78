/-! walks by program: 15.list -/
def rmJxa1e45_init_da8c8 : Room := { frames := 1, cells := 0, slots := 0, locals := 12 }
theorem hy_Jxa1e45_init_da8c8 : yJxa1e45_init_da8c8.cls ≠ "java/lang/invoke/MethodHandle" ∧ yJxa1e45_init_da8c8.cls ≠ "java/lang/invoke/VarHandle" ∧ (parseMethodDescriptor yJxa1e45_init_da8c8.desc).map (fun d => d.parameters.length) = some 0 := by decide +kernel
def wp_Jxa1e45_init_da8c8 (a0 : Nat) (M : Mm) (K : Mm → Prop) : Prop := kd_ M a0 = 1 ∧ K M
set_option maxHeartbeats 4000000 in
set_option maxRecDepth 100000 in
theorem mt_Jxa1e45_init_da8c8 {l : Launch} {D : Dd_} {M : Mm} {a0 : Nat} {K : Mm → Prop} (hw : wp_Jxa1e45_init_da8c8 a0 M K) (sz : Nat) : Met l yJxa1e45_init_da8c8 (Cond.code yJxa1e45_init_da8c8 cJxa1e45_init_da8c8 1 none :: tbG_) rmJxa1e45_init_da8c8 (cPc_ D M sz [.ref a0]) (va_Qv (fun M' => K M') (cB_ D M sz) (Aw_ M sz)) 0 0 (Aw_ M sz) := by
  refine ofV (by decide) (Nat.le_of_ble_eq_true rfl) ?_
  intro p e s m below meth c g hr hin hsz
  subst hsz
  have hin := hin rfl
  obtain ⟨hp0, hw⟩ := hw
  refine r_aload_n g dJxa1e45_init_da8c8_0 rfl 0 rfl ?_
  refine r_oinit g tw_52 tw_33 tw_34 dJxa1e45_init_da8c8_1 (Nat.le_of_ble_eq_true rfl) (Nat.le_of_ble_eq_true rfl) ?_
  exact r_vret g hr (Nat.le_of_ble_eq_true rfl) (Nat.le_of_ble_eq_true rfl) rfl dJxa1e45_init_da8c8_4 hw
def rmJxc12de_init_da8c8 : Room := { frames := 2, cells := 0, slots := 0, locals := 32 }
theorem hy_Jxc12de_init_da8c8 : yJxc12de_init_da8c8.cls ≠ "java/lang/invoke/MethodHandle" ∧ yJxc12de_init_da8c8.cls ≠ "java/lang/invoke/VarHandle" ∧ (parseMethodDescriptor yJxc12de_init_da8c8.desc).map (fun d => d.parameters.length) = some 0 := by decide +kernel
def wp_Jxc12de_init_da8c8 (a0 : Nat) (M : Mm) (K : Mm → Prop) : Prop := kd_ M a0 = 1 ∧ (wp_Jxa1e45_init_da8c8 a0 M (fun M1 => Nk_ M M1 → (∀ M6, M6 = sI_ M1 a0 0 (0 : Int32) → K M6)))
set_option maxHeartbeats 4000000 in
set_option maxRecDepth 100000 in
theorem mt_Jxc12de_init_da8c8 {l : Launch} {D : Dd_} {M : Mm} {a0 : Nat} {K : Mm → Prop} (hw : wp_Jxc12de_init_da8c8 a0 M K) (sz : Nat) : Met l yJxc12de_init_da8c8 (Cond.code yJxc12de_init_da8c8 cJxc12de_init_da8c8 1 none :: tbG_) rmJxc12de_init_da8c8 (cPc_ D M sz [.ref a0]) (va_Qv (fun M' => K M') (cB_ D M sz) (Aw_ M sz)) 0 0 (Aw_ M sz) := by
  refine ofV (by decide) (Nat.le_of_ble_eq_true rfl) ?_
  intro p e s m below meth c g hr hin hsz
  subst hsz
  have hin := hin rfl
  obtain ⟨hp0, hw⟩ := hw
  refine r_aload_n g dJxc12de_init_da8c8_0 rfl 0 rfl ?_
  refine r_callIv (As := []) g (fun sz => mt_Jxa1e45_init_da8c8 hw sz) tw_49 tw_51 tw_3 tw_50 rfl hy_Jxa1e45_init_da8c8 ⟨rfl, rfl⟩ (Nat.le_of_ble_eq_true rfl) (Nat.le_of_ble_eq_true rfl) (Nat.le_of_ble_eq_true rfl) (Nat.le_of_ble_eq_true rfl) (Nat.le_of_ble_eq_true rfl) rfl dJxc12de_init_da8c8_1 (fun M1 hK2 hN3 => ?_)
  have hw := hK2 hN3
  have hk4 := Nk_.k hN3 hp0 (by decide)
  have hT5 := Nk_.tr (Nk_.rf _) hN3
  refine r_aload_n g dJxc12de_init_da8c8_4 rfl 0 rfl ?_
  refine r_iconst (v := 0) g dJxc12de_init_da8c8_5 (by decide) ?_
  refine r_ptI (C := RJx4a65c) (T := TJx4a65c) (N := 3) g (ci := 0) rfl tc_Jx4a65c tyJx4a65c tyJx4a65c_ok nmJx4a65c hk4 0 (by decide) tw_57 (fun _ h => h) rfl rfl rfl rfl dJxc12de_init_da8c8_6 ?_
  have hw := hw _ rfl
  exact r_vret g hr (Nat.le_of_ble_eq_true rfl) (Nat.le_of_ble_eq_true rfl) rfl dJxc12de_init_da8c8_9 hw
def rmJx4a65c_init_da8c8 : Room := { frames := 3, cells := 0, slots := 0, locals := 52 }
theorem hy_Jx4a65c_init_da8c8 : yJx4a65c_init_da8c8.cls ≠ "java/lang/invoke/MethodHandle" ∧ yJx4a65c_init_da8c8.cls ≠ "java/lang/invoke/VarHandle" ∧ (parseMethodDescriptor yJx4a65c_init_da8c8.desc).map (fun d => d.parameters.length) = some 0 := by decide +kernel
def wp_Jx4a65c_init_da8c8 (a0 : Nat) (M : Mm) (K : Mm → Prop) : Prop := kd_ M a0 = 1 ∧ (wp_Jxc12de_init_da8c8 a0 M (fun M1 => Nk_ M M1 → (∀ q7, q7 ≠ nz_ M1 → (∀ a, kd_ M1 a = 36 ↔ a = q7) → ln_ M1 q7 = 0 → (∀ M10, M10 = sR_ M1 a0 1 q7 → K M10))))
set_option maxHeartbeats 4000000 in
set_option maxRecDepth 100000 in
theorem mt_Jx4a65c_init_da8c8 {l : Launch} {D : Dd_} {M : Mm} {a0 : Nat} {K : Mm → Prop} (hw : wp_Jx4a65c_init_da8c8 a0 M K) (sz : Nat) : Met l yJx4a65c_init_da8c8 (Cond.code yJx4a65c_init_da8c8 cJx4a65c_init_da8c8 1 none :: tbG_) rmJx4a65c_init_da8c8 (cPc_ D M sz [.ref a0]) (va_Qv (fun M' => K M') (cB_ D M sz) (Aw_ M sz)) 0 0 (Aw_ M sz) := by
  refine ofV (by decide) (Nat.le_of_ble_eq_true rfl) ?_
  intro p e s m below meth c g hr hin hsz
  subst hsz
  have hin := hin rfl
  obtain ⟨hp0, hw⟩ := hw
  refine r_aload_n g dJx4a65c_init_da8c8_0 rfl 0 rfl ?_
  refine r_callIv (As := []) g (fun sz => mt_Jxc12de_init_da8c8 hw sz) tw_46 tw_48 tw_4 tw_47 rfl hy_Jxc12de_init_da8c8 ⟨rfl, rfl⟩ (Nat.le_of_ble_eq_true rfl) (Nat.le_of_ble_eq_true rfl) (Nat.le_of_ble_eq_true rfl) (Nat.le_of_ble_eq_true rfl) (Nat.le_of_ble_eq_true rfl) rfl dJx4a65c_init_da8c8_1 (fun M1 hK2 hN3 => ?_)
  have hw := hK2 hN3
  have hk4 := Nk_.k hN3 hp0 (by decide)
  have hT5 := Nk_.tr (Nk_.rf _) hN3
  refine r_aload_n g dJx4a65c_init_da8c8_4 rfl 0 rfl ?_
  refine r_gets g tw_53 rfl dJx4a65c_init_da8c8_5 (fun q7 h6 h8 h9 => ?_)
  have hw := hw q7 h6 h8 h9
  refine r_ptRx (C := RJx4a65c) (T := TJx4a65c) (N := 3) g (ci := 0) rfl tc_Jx4a65c tyJx4a65c tyJx4a65c_ok nmJx4a65c hk4 1 (by decide) tw_55 (fun _ h => h) rfl rfl (by rw [(h8 q7).mpr rfl]; decide) rfl rfl dJx4a65c_init_da8c8_8 ?_
  have hw := hw _ rfl
  exact r_vret g hr (Nat.le_of_ble_eq_true rfl) (Nat.le_of_ble_eq_true rfl) rfl dJx4a65c_init_da8c8_11 hw
def rmJx4a65c_size_8abf5 : Room := { frames := 0, cells := 0, slots := 0, locals := 0 }
theorem hy_Jx4a65c_size_8abf5 : yJx4a65c_size_8abf5.cls ≠ "java/lang/invoke/MethodHandle" ∧ yJx4a65c_size_8abf5.cls ≠ "java/lang/invoke/VarHandle" ∧ (parseMethodDescriptor yJx4a65c_size_8abf5.desc).map (fun d => d.parameters.length) = some 0 := by decide +kernel
def wp_Jx4a65c_size_8abf5 (a0 : Nat) (M : Mm) (K : Mm → Int32 → Prop) : Prop := kd_ M a0 = 1 ∧ (K M (it_ M a0 2))
set_option maxHeartbeats 4000000 in
set_option maxRecDepth 100000 in
theorem mt_Jx4a65c_size_8abf5 {l : Launch} {D : Dd_} {M : Mm} {a0 : Nat} {K : Mm → Int32 → Prop} (hw : wp_Jx4a65c_size_8abf5 a0 M K) (sz : Nat) : Met l yJx4a65c_size_8abf5 (Cond.code yJx4a65c_size_8abf5 cJx4a65c_size_8abf5 1 (some .int) :: tbG_) rmJx4a65c_size_8abf5 (cPc_ D M sz [.ref a0]) (va_Qi (fun r M' => K M' r) (cB_ D M sz) (Aw_ M sz)) 0 0 (Aw_ M sz) := by
  refine ofV (by decide) (Nat.le_of_ble_eq_true rfl) ?_
  intro p e s m below meth c g hr hin hsz
  subst hsz
  obtain ⟨hp0, hw⟩ := hw
  refine r_aload_n g dJx4a65c_size_8abf5_0 rfl 0 rfl ?_
  refine r_gt (C := RJx4a65c) (T := TJx4a65c) (N := 3) g (ci := 0) rfl tc_Jx4a65c hp0 2 (by decide) tw_56 (fun _ h => h) rfl dJx4a65c_size_8abf5_1 ?_
  exact r_iret g hr (Nat.le_of_ble_eq_true rfl) (Nat.le_of_ble_eq_true rfl) rfl dJx4a65c_size_8abf5_4 hw
def rmJx4a65c_isEmpty_aae02 : Room := { frames := 0, cells := 0, slots := 0, locals := 0 }
theorem hy_Jx4a65c_isEmpty_aae02 : yJx4a65c_isEmpty_aae02.cls ≠ "java/lang/invoke/MethodHandle" ∧ yJx4a65c_isEmpty_aae02.cls ≠ "java/lang/invoke/VarHandle" ∧ (parseMethodDescriptor yJx4a65c_isEmpty_aae02.desc).map (fun d => d.parameters.length) = some 0 := by decide +kernel
def wp_Jx4a65c_isEmpty_aae02 (a0 : Nat) (M : Mm) (K : Mm → Int32 → Prop) : Prop := kd_ M a0 = 1 ∧ (((it_ M a0 2) = 0 → (K M (1 : Int32))) ∧ (¬ (it_ M a0 2) = 0 → (K M (0 : Int32))))
set_option maxHeartbeats 4000000 in
set_option maxRecDepth 100000 in
theorem mt_Jx4a65c_isEmpty_aae02 {l : Launch} {D : Dd_} {M : Mm} {a0 : Nat} {K : Mm → Int32 → Prop} (hw : wp_Jx4a65c_isEmpty_aae02 a0 M K) (sz : Nat) : Met l yJx4a65c_isEmpty_aae02 (Cond.code yJx4a65c_isEmpty_aae02 cJx4a65c_isEmpty_aae02 1 (some .boolean) :: tbG_) rmJx4a65c_isEmpty_aae02 (cPc_ D M sz [.ref a0]) (va_Qi (fun r M' => K M' r ∧ bz_ r) (cB_ D M sz) (Aw_ M sz)) 0 0 (Aw_ M sz) := by
  refine ofV (by decide) (Nat.le_of_ble_eq_true rfl) ?_
  intro p e s m below meth c g hr hin hsz
  subst hsz
  obtain ⟨hp0, hw⟩ := hw
  refine r_aload_n g dJx4a65c_isEmpty_aae02_0 rfl 0 rfl ?_
  refine r_gt (C := RJx4a65c) (T := TJx4a65c) (N := 3) g (ci := 0) rfl tc_Jx4a65c hp0 2 (by decide) tw_56 (fun _ h => h) rfl dJx4a65c_isEmpty_aae02_1 ?_
  refine r_if_ne (tgt := 11) g dJx4a65c_isEmpty_aae02_4 (by decide) (fun hc1 => ?_) (fun hc1 => ?_)
  · have hw := hw.2 hc1
    refine r_iconst (v := 0) g dJx4a65c_isEmpty_aae02_11 (by decide) ?_
    exact r_zret g hr (Nat.le_of_ble_eq_true rfl) (Nat.le_of_ble_eq_true rfl) rfl (Or.inl rfl) dJx4a65c_isEmpty_aae02_12 hw
  · have hw := hw.1 hc1
    refine r_iconst (v := 1) g dJx4a65c_isEmpty_aae02_7 (by decide) ?_
    refine r_goto (tgt := 12) g dJx4a65c_isEmpty_aae02_8 (by decide) ?_
    exact r_zret g hr (Nat.le_of_ble_eq_true rfl) (Nat.le_of_ble_eq_true rfl) rfl (Or.inr rfl) dJx4a65c_isEmpty_aae02_12 hw
def rmJ3_checkIndex_8e157 : Room := { frames := 0, cells := 0, slots := 0, locals := 0 }
theorem hy_J3_checkIndex_8e157 : yJ3_checkIndex_8e157.cls ≠ "java/lang/invoke/MethodHandle" ∧ yJ3_checkIndex_8e157.cls ≠ "java/lang/invoke/VarHandle" ∧ (parseMethodDescriptor yJ3_checkIndex_8e157.desc).map (fun d => d.parameters.length) = some 3 := by decide +kernel
def wp_J3_checkIndex_8e157 (x0 : Int32) (x1 : Int32) (M : Mm) (K : Mm → Int32 → Prop) : Prop := ((x0 < 0 → False) ∧ (¬ x0 < 0 → ((x0 < x1 → (K M x0)) ∧ (¬ x0 < x1 → False))))
set_option maxHeartbeats 4000000 in
set_option maxRecDepth 100000 in
theorem mt_J3_checkIndex_8e157 {l : Launch} {D : Dd_} {M : Mm} {x0 : Int32} {x1 : Int32} {K : Mm → Int32 → Prop} (hw : wp_J3_checkIndex_8e157 x0 x1 M K) (sz : Nat) : Met l yJ3_checkIndex_8e157 (Cond.code yJ3_checkIndex_8e157 cJ3_checkIndex_8e157 3 (some .int) :: tbG_) rmJ3_checkIndex_8e157 (cPc_ D M sz [.int x0, .int x1, .null]) (va_Qi (fun r M' => K M' r) (cB_ D M sz) (Aw_ M sz)) 0 0 (Aw_ M sz) := by
  refine ofV (by decide) (Nat.le_of_ble_eq_true rfl) ?_
  intro p e s m below meth c g hr hin hsz
  subst hsz
  refine r_iload_n g dJ3_checkIndex_8e157_0 rfl 0 rfl ?_
  refine r_if_lt (tgt := 9) g dJ3_checkIndex_8e157_1 (by decide) (fun hc1 => ?_) (fun hc1 => ?_)
  · have hw := hw.1 hc1
    exact hw.elim
  · have hw := hw.2 hc1
    refine r_iload_n g dJ3_checkIndex_8e157_4 rfl 0 rfl ?_
    refine r_iload_n g dJ3_checkIndex_8e157_5 rfl 1 rfl ?_
    refine r_icmp_lt (tgt := 16) g dJ3_checkIndex_8e157_6 (by decide) (fun hc2 => ?_) (fun hc2 => ?_)
    · have hw := hw.1 hc2
      refine r_iload_n g dJ3_checkIndex_8e157_16 rfl 0 rfl ?_
      exact r_iret g hr (Nat.le_of_ble_eq_true rfl) (Nat.le_of_ble_eq_true rfl) rfl dJ3_checkIndex_8e157_17 hw
    · have hw := hw.2 hc2
      exact hw.elim
def rmJ15_checkIndex_7cf53 : Room := { frames := 1, cells := 0, slots := 0, locals := 22 }
theorem hy_J15_checkIndex_7cf53 : yJ15_checkIndex_7cf53.cls ≠ "java/lang/invoke/MethodHandle" ∧ yJ15_checkIndex_7cf53.cls ≠ "java/lang/invoke/VarHandle" ∧ (parseMethodDescriptor yJ15_checkIndex_7cf53.desc).map (fun d => d.parameters.length) = some 2 := by decide +kernel
def wp_J15_checkIndex_7cf53 (x0 : Int32) (x1 : Int32) (M : Mm) (K : Mm → Int32 → Prop) : Prop := (wp_J3_checkIndex_8e157 x0 x1 M (fun M1 r2 => Nk_ M M1 → (K M1 r2)))
set_option maxHeartbeats 4000000 in
set_option maxRecDepth 100000 in
theorem mt_J15_checkIndex_7cf53 {l : Launch} {D : Dd_} {M : Mm} {x0 : Int32} {x1 : Int32} {K : Mm → Int32 → Prop} (hw : wp_J15_checkIndex_7cf53 x0 x1 M K) (sz : Nat) : Met l yJ15_checkIndex_7cf53 (Cond.code yJ15_checkIndex_7cf53 cJ15_checkIndex_7cf53 2 (some .int) :: tbG_) rmJ15_checkIndex_7cf53 (cPc_ D M sz [.int x0, .int x1]) (va_Qi (fun r M' => K M' r) (cB_ D M sz) (Aw_ M sz)) 0 0 (Aw_ M sz) := by
  refine ofV (by decide) (Nat.le_of_ble_eq_true rfl) ?_
  intro p e s m below meth c g hr hin hsz
  subst hsz
  refine r_iload_n g dJ15_checkIndex_7cf53_0 rfl 0 rfl ?_
  refine r_iload_n g dJ15_checkIndex_7cf53_1 rfl 1 rfl ?_
  refine r_null g dJ15_checkIndex_7cf53_2 ?_
  refine r_callSi (As := [.int x0, .int x1, .null]) g (fun sz => mt_J3_checkIndex_8e157 hw sz) tw_547 tw_549 tw_25 tw_548 hy_J3_checkIndex_8e157 ⟨rfl, rfl⟩ (Nat.le_of_ble_eq_true rfl) (Nat.le_of_ble_eq_true rfl) (Nat.le_of_ble_eq_true rfl) (Nat.le_of_ble_eq_true rfl) (Nat.le_of_ble_eq_true rfl) rfl dJ15_checkIndex_7cf53_3 (fun M1 r2 hK3 hN4 => ?_)
  have hw := hK3 hN4
  have hT5 := Nk_.tr (Nk_.rf _) hN4
  exact r_iret g hr (Nat.le_of_ble_eq_true rfl) (Nat.le_of_ble_eq_true rfl) rfl dJ15_checkIndex_7cf53_6 hw
def rmJx4a65c_elementData_915e3 : Room := { frames := 0, cells := 0, slots := 0, locals := 0 }
theorem hy_Jx4a65c_elementData_915e3 : yJx4a65c_elementData_915e3.cls ≠ "java/lang/invoke/MethodHandle" ∧ yJx4a65c_elementData_915e3.cls ≠ "java/lang/invoke/VarHandle" ∧ (parseMethodDescriptor yJx4a65c_elementData_915e3.desc).map (fun d => d.parameters.length) = some 1 := by decide +kernel
def wp_Jx4a65c_elementData_915e3 (a0 : Nat) (x1 : Int32) (M : Mm) (K : Mm → Nat → Prop) : Prop := kd_ M a0 = 1 ∧ ((kd_ M (rf_ M a0 1) = 26 ∨ kd_ M (rf_ M a0 1) = 36) ∧ (kd_ M (rf_ M a0 1) = 26 ∧ (vp_in x1 (ln_ M (rf_ M a0 1)) ∧ (kd_ M (rf_ M (rf_ M a0 1) (ix_ x1)) ≠ 0 ∧ (K M (rf_ M (rf_ M a0 1) (ix_ x1)))))))
set_option maxHeartbeats 4000000 in
set_option maxRecDepth 100000 in
theorem mt_Jx4a65c_elementData_915e3 {l : Launch} {D : Dd_} {M : Mm} {a0 : Nat} {x1 : Int32} {K : Mm → Nat → Prop} (hw : wp_Jx4a65c_elementData_915e3 a0 x1 M K) (sz : Nat) : Met l yJx4a65c_elementData_915e3 (Cond.code yJx4a65c_elementData_915e3 cJx4a65c_elementData_915e3 2 (some (.object "java/lang/Object")) :: tbG_) rmJx4a65c_elementData_915e3 (cPc_ D M sz [.ref a0, .int x1]) (va_Qr (S := Mm) (fun _ => True) (fun M' a t => K M' a ∧ kd_ M' a ≠ 0 ∧ cB_ D M sz M' t) (Aw_ M sz)) 0 0 (Aw_ M sz) := by
  refine ofV (by decide) (Nat.le_of_ble_eq_true rfl) ?_
  intro p e s m below meth c g hr hin hsz
  subst hsz
  obtain ⟨hp0, hw⟩ := hw
  refine r_aload_n g dJx4a65c_elementData_915e3_0 rfl 0 rfl ?_
  obtain ⟨hk1, hw⟩ := hw
  refine r_gtR (C := RJx4a65c) (T := TJx4a65c) (N := 3) g (ci := 0) rfl tc_Jx4a65c hp0 1 (by decide) tw_55 (fun _ h => h) rfl (k_neO hk1 (by decide) (by decide)) dJx4a65c_elementData_915e3_1 ?_
  refine r_iload_n g dJx4a65c_elementData_915e3_4 rfl 1 rfl ?_
  obtain ⟨hk2, hw⟩ := hw
  obtain ⟨hi3, hw⟩ := hw
  obtain ⟨hk4, hw⟩ := hw
  refine r_aald (t := 6) g (by decide) (by decide) hk2 hi3 dJx4a65c_elementData_915e3_5 ?_
  refine r_rv hk4 ?_
  exact r_rret g hr (by first | exact Or.inl ⟨_, rfl⟩ | exact Or.inr ⟨_, rfl⟩) (Nat.le_of_ble_eq_true rfl) (Nat.le_of_ble_eq_true rfl) rfl hk4 dJx4a65c_elementData_915e3_6 hw
def rmJx4a65c_get_915e3 : Room := { frames := 2, cells := 0, slots := 0, locals := 43 }
theorem hy_Jx4a65c_get_915e3 : yJx4a65c_get_915e3.cls ≠ "java/lang/invoke/MethodHandle" ∧ yJx4a65c_get_915e3.cls ≠ "java/lang/invoke/VarHandle" ∧ (parseMethodDescriptor yJx4a65c_get_915e3.desc).map (fun d => d.parameters.length) = some 1 := by decide +kernel
def wp_Jx4a65c_get_915e3 (a0 : Nat) (x1 : Int32) (M : Mm) (K : Mm → Nat → Prop) : Prop := kd_ M a0 = 1 ∧ (wp_J15_checkIndex_7cf53 x1 (it_ M a0 2) M (fun M1 r2 => Nk_ M M1 → (wp_Jx4a65c_elementData_915e3 a0 x1 M1 (fun M7 r8 => Nk_ M1 M7 → (K M7 r8)))))
set_option maxHeartbeats 4000000 in
set_option maxRecDepth 100000 in
theorem mt_Jx4a65c_get_915e3 {l : Launch} {D : Dd_} {M : Mm} {a0 : Nat} {x1 : Int32} {K : Mm → Nat → Prop} (hw : wp_Jx4a65c_get_915e3 a0 x1 M K) (sz : Nat) : Met l yJx4a65c_get_915e3 (Cond.code yJx4a65c_get_915e3 cJx4a65c_get_915e3 2 (some (.object "java/lang/Object")) :: tbG_) rmJx4a65c_get_915e3 (cPc_ D M sz [.ref a0, .int x1]) (va_Qr (S := Mm) (fun _ => True) (fun M' a t => K M' a ∧ kd_ M' a ≠ 0 ∧ cB_ D M sz M' t) (Aw_ M sz)) 0 0 (Aw_ M sz) := by
  refine ofV (by decide) (Nat.le_of_ble_eq_true rfl) ?_
  intro p e s m below meth c g hr hin hsz
  subst hsz
  obtain ⟨hp0, hw⟩ := hw
  refine r_iload_n g dJx4a65c_get_915e3_0 rfl 1 rfl ?_
  refine r_aload_n g dJx4a65c_get_915e3_1 rfl 0 rfl ?_
  refine r_gt (C := RJx4a65c) (T := TJx4a65c) (N := 3) g (ci := 0) rfl tc_Jx4a65c hp0 2 (by decide) tw_56 (fun _ h => h) rfl dJx4a65c_get_915e3_2 ?_
  refine r_callSi (As := [.int x1, .int (it_ M a0 2)]) g (fun sz => mt_J15_checkIndex_7cf53 hw sz) tw_544 tw_546 tw_24 tw_545 hy_J15_checkIndex_7cf53 ⟨rfl, rfl⟩ (Nat.le_of_ble_eq_true rfl) (Nat.le_of_ble_eq_true rfl) (Nat.le_of_ble_eq_true rfl) (Nat.le_of_ble_eq_true rfl) (Nat.le_of_ble_eq_true rfl) rfl dJx4a65c_get_915e3_5 (fun M1 r2 hK3 hN4 => ?_)
  have hw := hK3 hN4
  have hk5 := Nk_.k hN4 hp0 (by decide)
  have hT6 := Nk_.tr (Nk_.rf _) hN4
  refine r_pop g dJx4a65c_get_915e3_8 rfl ?_
  refine r_aload_n g dJx4a65c_get_915e3_9 rfl 0 rfl ?_
  refine r_iload_n g dJx4a65c_get_915e3_10 rfl 1 rfl ?_
  refine r_callVr (As := [.int x1]) g (fun sz => mt_Jx4a65c_elementData_915e3 hw sz) tw_550 tw_553 tw_5 tw_551 tw_552 (ci := 0) (T := TJx4a65c) (N := 3) rfl hk5 hy_Jx4a65c_elementData_915e3 ⟨rfl, rfl⟩ (Nat.le_of_ble_eq_true rfl) (Nat.le_of_ble_eq_true rfl) (Nat.le_of_ble_eq_true rfl) (Nat.le_of_ble_eq_true rfl) (Nat.le_of_ble_eq_true rfl) rfl dJx4a65c_get_915e3_11 (fun M7 r8 hK9 h11 hN10 => ?_)
  have hw := hK9 hN10
  have hk12 := Nk_.k hN10 hk5 (by decide)
  have hT13 := Nk_.tr hT6 hN10
  exact r_rret g hr (by first | exact Or.inl ⟨_, rfl⟩ | exact Or.inr ⟨_, rfl⟩) (Nat.le_of_ble_eq_true rfl) (Nat.le_of_ble_eq_true rfl) rfl h11 dJx4a65c_get_915e3_14 hw
def rmJ8_newLength_cabcc : Room := { frames := 1, cells := 0, slots := 0, locals := 14 }
theorem hy_J8_newLength_cabcc : yJ8_newLength_cabcc.cls ≠ "java/lang/invoke/MethodHandle" ∧ yJ8_newLength_cabcc.cls ≠ "java/lang/invoke/VarHandle" ∧ (parseMethodDescriptor yJ8_newLength_cabcc.desc).map (fun d => d.parameters.length) = some 3 := by decide +kernel
def wp_J8_newLength_cabcc (x0 : Int32) (x1 : Int32) (x2 : Int32) (M : Mm) (K : Mm → Int32 → Prop) : Prop := (((x0 + (if x1 < x2 then x2 else x1)) ≤ (0 : Int32) → False) ∧ (¬ (x0 + (if x1 < x2 then x2 else x1)) ≤ (0 : Int32) → (((2147483639 : Int32) < (x0 + (if x1 < x2 then x2 else x1)) → False) ∧ (¬ (2147483639 : Int32) < (x0 + (if x1 < x2 then x2 else x1)) → (K M (x0 + (if x1 < x2 then x2 else x1)))))))
set_option maxHeartbeats 4000000 in
set_option maxRecDepth 100000 in
theorem mt_J8_newLength_cabcc {l : Launch} {D : Dd_} {M : Mm} {x0 : Int32} {x1 : Int32} {x2 : Int32} {K : Mm → Int32 → Prop} (hw : wp_J8_newLength_cabcc x0 x1 x2 M K) (sz : Nat) : Met l yJ8_newLength_cabcc (Cond.code yJ8_newLength_cabcc cJ8_newLength_cabcc 4 (some .int) :: tbG_) rmJ8_newLength_cabcc (cPc_ D M sz [.int x0, .int x1, .int x2]) (va_Qi (fun r M' => K M' r) (cB_ D M sz) (Aw_ M sz)) 0 0 (Aw_ M sz) := by
  refine ofV (by decide) (Nat.le_of_ble_eq_true rfl) ?_
  intro p e s m below meth c g hr hin hsz
  subst hsz
  refine r_iload_n g dJ8_newLength_cabcc_0 rfl 0 rfl ?_
  refine r_iload_n g dJ8_newLength_cabcc_1 rfl 1 rfl ?_
  refine r_iload_n g dJ8_newLength_cabcc_2 rfl 2 rfl ?_
  refine r_mmax g tw_484 tw_485 tw_20 tw_486 (Nat.le_of_ble_eq_true rfl) (Nat.le_of_ble_eq_true rfl) (Nat.le_of_ble_eq_true rfl) (Nat.le_of_ble_eq_true rfl) dJ8_newLength_cabcc_3 ?_
  refine r_iadd g dJ8_newLength_cabcc_6 ?_
  refine r_istore_n (L' := [(3, .int (x0 + (if x1 < x2 then x2 else x1))), (0, .int x0), (1, .int x1), (2, .int x2)]) g dJ8_newLength_cabcc_7 rfl (by decide) rfl ?_
  refine r_iconst (v := 0) g dJ8_newLength_cabcc_8 (by decide) ?_
  refine r_iload_n g dJ8_newLength_cabcc_9 rfl 0 rfl ?_
  refine r_icmp_ge (tgt := 21) g dJ8_newLength_cabcc_10 (by decide) (fun hc1 => ?_) (fun hc1 => ?_)
  · have hw := hw.1 hc1
    exact hw.elim
  · have hw := hw.2 hc1
    refine r_iload_n g dJ8_newLength_cabcc_13 rfl 0 rfl ?_
    refine r_ldc (v := 2147483639) g tw_487 dJ8_newLength_cabcc_14 ?_
    refine r_icmp_gt (tgt := 21) g dJ8_newLength_cabcc_16 (by decide) (fun hc2 => ?_) (fun hc2 => ?_)
    · have hw := hw.1 hc2
      exact hw.elim
    · have hw := hw.2 hc2
      refine r_iload_n g dJ8_newLength_cabcc_19 rfl 0 rfl ?_
      exact r_iret g hr (Nat.le_of_ble_eq_true rfl) (Nat.le_of_ble_eq_true rfl) rfl dJ8_newLength_cabcc_20 hw
def rmJ7_copyOf_6403c : Room := { frames := 1, cells := 1, slots := 200, locals := 60 }
theorem hy_J7_copyOf_6403c : yJ7_copyOf_6403c.cls ≠ "java/lang/invoke/MethodHandle" ∧ yJ7_copyOf_6403c.cls ≠ "java/lang/invoke/VarHandle" ∧ (parseMethodDescriptor yJ7_copyOf_6403c.desc).map (fun d => d.parameters.length) = some 3 := by decide +kernel
def wp_J7_copyOf_6403c (a0 : Nat) (x1 : Int32) (M : Mm) (K : Mm → Nat → Prop) : Prop := kd_ M a0 = 26 ∧ (¬ x1 < 0 ∧ (ix_ x1 ≤ 200 ∧ (∀ q1, q1 ≠ 0 → kd_ M q1 = 0 → (∀ M8, M8 = nw_ M q1 26 (ix_ x1) → (¬ (0 : Int32) < 0 ∧ (¬ (0 : Int32) < 0 ∧ (¬ (if x1 < (Int32.ofNat (ln_ M8 a0)) then x1 else (Int32.ofNat (ln_ M8 a0))) < 0 ∧ (ix_ (0 : Int32) + ix_ (if x1 < (Int32.ofNat (ln_ M8 a0)) then x1 else (Int32.ofNat (ln_ M8 a0))) ≤ ln_ M8 a0 ∧ (ix_ (0 : Int32) + ix_ (if x1 < (Int32.ofNat (ln_ M8 a0)) then x1 else (Int32.ofNat (ln_ M8 a0))) ≤ ln_ M8 q1 ∧ ((∀ j, j < ix_ (if x1 < (Int32.ofNat (ln_ M8 a0)) then x1 else (Int32.ofNat (ln_ M8 a0))) → (rf_ M8 a0 (ix_ (0 : Int32) + j)) = nz_ M8 ∨ kd_ M8 (rf_ M8 a0 (ix_ (0 : Int32) + j)) = 2 ∨ kd_ M8 (rf_ M8 a0 (ix_ (0 : Int32) + j)) = 3) ∧ (∀ M18, M18 = aR_ M8 q1 (va_cpy (rf_ M8 a0) (rf_ M8 q1) (ix_ (0 : Int32)) (ix_ (0 : Int32)) (ix_ (if x1 < (Int32.ofNat (ln_ M8 a0)) then x1 else (Int32.ofNat (ln_ M8 a0))))) → (K M18 q1))))))))))))
set_option maxHeartbeats 4000000 in
set_option maxRecDepth 100000 in
theorem mt_J7_copyOf_6403c {l : Launch} {D : Dd_} {M : Mm} {a0 : Nat} {x1 : Int32} {K : Mm → Nat → Prop} (hw : wp_J7_copyOf_6403c a0 x1 M K) (sz : Nat) : Met l yJ7_copyOf_6403c (Cond.code yJ7_copyOf_6403c cJ7_copyOf_6403c 4 (some (.array (.object "java/lang/Object"))) :: tbG_) rmJ7_copyOf_6403c (cPc_ D M sz [.ref a0, .int x1, .ref (D.2.1 100)]) (va_Qr (S := Mm) (fun _ => True) (fun M' a t => K M' a ∧ kd_ M' a ≠ 0 ∧ cB_ D M sz M' t) (Aw_ M sz)) 1 200 (Aw_ M sz) := by
  refine ofV (by decide) (Nat.le_of_ble_eq_true rfl) ?_
  intro p e s m below meth c g hr hin hsz
  subst hsz
  obtain ⟨hp0, hw⟩ := hw
  refine r_aload_n g dJ7_copyOf_6403c_0 rfl 2 rfl ?_
  refine r_ldcC g tw_516 dJ7_copyOf_6403c_1 ?_
  refine r_acmp_ne (tgt := 13) g dJ7_copyOf_6403c_3 (by decide) (fun h9 => absurd rfl h9) (fun _ => ?_)
  refine r_iload_n g dJ7_copyOf_6403c_6 rfl 1 rfl ?_
  obtain ⟨h7, h6, hw⟩ := hw
  refine r_newR (t := 6) (C := "java/lang/Object") g (by decide) (by decide) rfl tw_518 tx_517 h7 (Nat.le_trans h6 (Nat.le_of_ble_eq_true rfl)) (Nat.le_of_ble_eq_true rfl) (Nat.le_trans (Nat.add_le_add_left h6 _) (Nat.le_of_ble_eq_true rfl)) dJ7_copyOf_6403c_7 (fun q1 h2 hq3 => ?_)
  have hw := hw q1 h2 hq3 _ rfl
  have hk9 := Nk_.k (Nk_nw_ (c := 26) (n := (ix_ x1)) hq3) hp0 (by decide)
  have hT10 := Nk_.tr (Nk_.rf _) (Nk_nw_ (c := 26) (n := (ix_ x1)) hq3)
  have hk11 := kd_nq_ M q1 26 (ix_ x1)
  refine V_.widen (n2 := 1) (k2 := 200) (Nat.le_of_ble_eq_true rfl) (Nat.le_trans (Nat.add_le_add_left h6 _) (Nat.le_of_ble_eq_true rfl)) ?_
  refine r_goto (tgt := 24) g dJ7_copyOf_6403c_10 (by decide) ?_
  refine r_astore_n (L' := [(3, .ref q1), (0, .ref a0), (1, .int x1), (2, .ref (D.2.1 100))]) g dJ7_copyOf_6403c_24 rfl (by decide) rfl ?_
  refine r_aload_n g dJ7_copyOf_6403c_25 rfl 1 rfl ?_
  refine r_iconst (v := 0) g dJ7_copyOf_6403c_26 (by decide) ?_
  refine r_aload_n g dJ7_copyOf_6403c_27 rfl 0 rfl ?_
  refine r_iconst (v := 0) g dJ7_copyOf_6403c_28 (by decide) ?_
  refine r_aload_n g dJ7_copyOf_6403c_29 rfl 1 rfl ?_
  refine r_alen (t := 6) g (by decide) (Or.inl hk9) dJ7_copyOf_6403c_30 ?_
  refine r_iload_n g dJ7_copyOf_6403c_31 rfl 2 rfl ?_
  refine r_mmin g tw_519 tw_520 tw_20 tw_521 (Nat.le_of_ble_eq_true rfl) (Nat.le_of_ble_eq_true rfl) (Nat.le_of_ble_eq_true rfl) (Nat.le_of_ble_eq_true rfl) dJ7_copyOf_6403c_32 ?_
  obtain ⟨h12, h13, h14, h15, h16, hw⟩ := hw
  obtain ⟨h17, hw⟩ := hw
  refine r_acopyR g tw_522 tw_524 tw_523 tw_22 hk9 hk11 h12 h13 h14 h15 h16 h17 (Nat.le_of_ble_eq_true rfl) (Nat.le_of_ble_eq_true rfl) dJ7_copyOf_6403c_35 ?_
  have hw := hw _ rfl
  refine r_aload_n g dJ7_copyOf_6403c_38 rfl 0 rfl ?_
  exact r_rret g hr (by first | exact Or.inl ⟨_, rfl⟩ | exact Or.inr ⟨_, rfl⟩) (Nat.le_of_ble_eq_true rfl) (Nat.le_of_ble_eq_true rfl) rfl (k_ne hk11 (by decide)) dJ7_copyOf_6403c_39 hw
def rmJ7_copyOf_1904c : Room := { frames := 2, cells := 1, slots := 200, locals := 83 }
theorem hy_J7_copyOf_1904c : yJ7_copyOf_1904c.cls ≠ "java/lang/invoke/MethodHandle" ∧ yJ7_copyOf_1904c.cls ≠ "java/lang/invoke/VarHandle" ∧ (parseMethodDescriptor yJ7_copyOf_1904c.desc).map (fun d => d.parameters.length) = some 2 := by decide +kernel
def wp_J7_copyOf_1904c (a0 : Nat) (x1 : Int32) (M : Mm) (K : Mm → Nat → Prop) : Prop := kd_ M a0 = 26 ∧ (wp_J7_copyOf_6403c a0 x1 M (fun M1 r2 => Nk_ M M1 → (kd_ M1 r2 = 26 ∧ (K M1 r2))))
set_option maxHeartbeats 4000000 in
set_option maxRecDepth 100000 in
theorem mt_J7_copyOf_1904c {l : Launch} {D : Dd_} {M : Mm} {a0 : Nat} {x1 : Int32} {K : Mm → Nat → Prop} (hw : wp_J7_copyOf_1904c a0 x1 M K) (sz : Nat) : Met l yJ7_copyOf_1904c (Cond.code yJ7_copyOf_1904c cJ7_copyOf_1904c 2 (some (.array (.object "java/lang/Object"))) :: tbG_) rmJ7_copyOf_1904c (cPc_ D M sz [.ref a0, .int x1]) (va_Qr (S := Mm) (fun _ => True) (fun M' a t => K M' a ∧ kd_ M' a ≠ 0 ∧ cB_ D M sz M' t) (Aw_ M sz)) 1 200 (Aw_ M sz) := by
  refine ofV (by decide) (Nat.le_of_ble_eq_true rfl) ?_
  intro p e s m below meth c g hr hin hsz
  subst hsz
  obtain ⟨hp0, hw⟩ := hw
  refine r_aload_n g dJ7_copyOf_1904c_0 rfl 0 rfl ?_
  refine r_iload_n g dJ7_copyOf_1904c_1 rfl 1 rfl ?_
  refine r_aload_n g dJ7_copyOf_1904c_2 rfl 0 rfl ?_
  refine r_getC g tw_494 tw_1131 tw_495 tw_512 hp0 (Nat.le_of_ble_eq_true rfl) (Nat.le_of_ble_eq_true rfl) dJ7_copyOf_1904c_3 ?_
  refine r_callSr (As := [.ref a0, .int x1, .ref (D.2.1 100)]) g (fun sz => mt_J7_copyOf_6403c hw sz) tw_513 tw_515 tw_21 tw_514 hy_J7_copyOf_6403c ⟨rfl, rfl⟩ (Nat.le_of_ble_eq_true rfl) (Nat.le_of_ble_eq_true rfl) (Nat.le_of_ble_eq_true rfl) (Nat.le_of_ble_eq_true rfl) (Nat.le_of_ble_eq_true rfl) rfl dJ7_copyOf_1904c_6 (fun M1 r2 hK3 h5 hN4 => ?_)
  have hw := hK3 hN4
  have hk6 := Nk_.k hN4 hp0 (by decide)
  have hT7 := Nk_.tr (Nk_.rf _) hN4
  obtain ⟨hk8, hw⟩ := hw
  exact r_rret g hr (by first | exact Or.inl ⟨_, rfl⟩ | exact Or.inr ⟨_, rfl⟩) (Nat.le_of_ble_eq_true rfl) (Nat.le_of_ble_eq_true rfl) rfl (k_ne hk8 (by decide)) dJ7_copyOf_1904c_9 hw
def rmJx4a65c_grow_92f84 : Room := { frames := 3, cells := 1, slots := 200, locals := 104 }
theorem hy_Jx4a65c_grow_92f84 : yJx4a65c_grow_92f84.cls ≠ "java/lang/invoke/MethodHandle" ∧ yJx4a65c_grow_92f84.cls ≠ "java/lang/invoke/VarHandle" ∧ (parseMethodDescriptor yJx4a65c_grow_92f84.desc).map (fun d => d.parameters.length) = some 1 := by decide +kernel
def wp_Jx4a65c_grow_92f84 (a0 : Nat) (x1 : Int32) (M : Mm) (K : Mm → Nat → Prop) : Prop := kd_ M a0 = 1 ∧ ((kd_ M (rf_ M a0 1) = 26 ∨ kd_ M (rf_ M a0 1) = 36) ∧ ((0 < (Int32.ofNat (ln_ M (rf_ M a0 1))) → (wp_J8_newLength_cabcc (Int32.ofNat (ln_ M (rf_ M a0 1))) (x1 - (Int32.ofNat (ln_ M (rf_ M a0 1)))) ((Int32.ofNat (ln_ M (rf_ M a0 1))) >>> ((1 : Int32) &&& 31)) M (fun M3 r4 => Nk_ M M3 → ((kd_ M3 (rf_ M3 a0 1) = 26 ∨ kd_ M3 (rf_ M3 a0 1) = 36) ∧ (wp_J7_copyOf_1904c (rf_ M3 a0 1) r4 M3 (fun M10 r11 => Nk_ M3 M10 → (kd_ M10 r11 = 26 ∧ (∀ M18, M18 = sR_ M10 a0 1 r11 → (K M18 r11))))))))) ∧ (¬ 0 < (Int32.ofNat (ln_ M (rf_ M a0 1))) → (∀ q20, q20 ≠ nz_ M → (∀ a, kd_ M a = 36 ↔ a = q20) → ln_ M q20 = 0 → (((rf_ M a0 1) = q20 → (¬ (if (10 : Int32) < x1 then x1 else (10 : Int32)) < 0 ∧ (ix_ (if (10 : Int32) < x1 then x1 else (10 : Int32)) ≤ 200 ∧ (∀ q24, q24 ≠ 0 → kd_ M q24 = 0 → (∀ M31, M31 = nw_ M q24 26 (ix_ (if (10 : Int32) < x1 then x1 else (10 : Int32))) → (∀ M35, M35 = sR_ M31 a0 1 q24 → (K M35 q24))))))) ∧ (¬ (rf_ M a0 1) = q20 → (wp_J8_newLength_cabcc (Int32.ofNat (ln_ M (rf_ M a0 1))) (x1 - (Int32.ofNat (ln_ M (rf_ M a0 1)))) ((Int32.ofNat (ln_ M (rf_ M a0 1))) >>> ((1 : Int32) &&& 31)) M (fun M36 r37 => Nk_ M M36 → ((kd_ M36 (rf_ M36 a0 1) = 26 ∨ kd_ M36 (rf_ M36 a0 1) = 36) ∧ (wp_J7_copyOf_1904c (rf_ M36 a0 1) r37 M36 (fun M43 r44 => Nk_ M36 M43 → (kd_ M43 r44 = 26 ∧ (∀ M51, M51 = sR_ M43 a0 1 r44 → (K M51 r44))))))))))))))
set_option maxHeartbeats 4000000 in
set_option maxRecDepth 100000 in
theorem mt_Jx4a65c_grow_92f84 {l : Launch} {D : Dd_} {M : Mm} {a0 : Nat} {x1 : Int32} {K : Mm → Nat → Prop} (hw : wp_Jx4a65c_grow_92f84 a0 x1 M K) (sz : Nat) : Met l yJx4a65c_grow_92f84 (Cond.code yJx4a65c_grow_92f84 cJx4a65c_grow_92f84 4 (some (.array (.object "java/lang/Object"))) :: tbG_) rmJx4a65c_grow_92f84 (cPc_ D M sz [.ref a0, .int x1]) (va_Qr (S := Mm) (fun _ => True) (fun M' a t => K M' a ∧ kd_ M' a ≠ 0 ∧ cB_ D M sz M' t) (Aw_ M sz)) 1 200 (Aw_ M sz) := by
  refine ofV (by decide) (Nat.le_of_ble_eq_true rfl) ?_
  intro p e s m below meth c g hr hin hsz
  subst hsz
  obtain ⟨hp0, hw⟩ := hw
  refine r_aload_n g dJx4a65c_grow_92f84_0 rfl 0 rfl ?_
  obtain ⟨hk1, hw⟩ := hw
  refine r_gtR (C := RJx4a65c) (T := TJx4a65c) (N := 3) g (ci := 0) rfl tc_Jx4a65c hp0 1 (by decide) tw_55 (fun _ h => h) rfl (k_neO hk1 (by decide) (by decide)) dJx4a65c_grow_92f84_1 ?_
  refine r_alen (t := 6) g (by decide) hk1 dJx4a65c_grow_92f84_4 ?_
  refine r_istore_n (L' := [(2, .int (Int32.ofNat (ln_ M (rf_ M a0 1)))), (0, .ref a0), (1, .int x1)]) g dJx4a65c_grow_92f84_5 rfl (by decide) rfl ?_
  refine r_iload_n g dJx4a65c_grow_92f84_6 rfl 0 rfl ?_
  refine r_if_gt (tgt := 20) g dJx4a65c_grow_92f84_7 (by decide) (fun hc2 => ?_) (fun hc2 => ?_)
  · have hw := hw.1 hc2
    refine r_iload_n g dJx4a65c_grow_92f84_20 rfl 0 rfl ?_
    refine r_iload_n g dJx4a65c_grow_92f84_21 rfl 2 rfl ?_
    refine r_iload_n g dJx4a65c_grow_92f84_22 rfl 0 rfl ?_
    refine r_isub g dJx4a65c_grow_92f84_23 ?_
    refine r_iload_n g dJx4a65c_grow_92f84_24 rfl 0 rfl ?_
    refine r_iconst (v := 1) g dJx4a65c_grow_92f84_25 (by decide) ?_
    refine r_ishr g dJx4a65c_grow_92f84_26 ?_
    refine r_callSi (As := [.int (Int32.ofNat (ln_ M (rf_ M a0 1))), .int (x1 - (Int32.ofNat (ln_ M (rf_ M a0 1)))), .int ((Int32.ofNat (ln_ M (rf_ M a0 1))) >>> ((1 : Int32) &&& 31))]) g (fun sz => mt_J8_newLength_cabcc hw sz) tw_481 tw_483 tw_19 tw_482 hy_J8_newLength_cabcc ⟨rfl, rfl⟩ (Nat.le_of_ble_eq_true rfl) (Nat.le_of_ble_eq_true rfl) (Nat.le_of_ble_eq_true rfl) (Nat.le_of_ble_eq_true rfl) (Nat.le_of_ble_eq_true rfl) rfl dJx4a65c_grow_92f84_27 (fun M3 r4 hK5 hN6 => ?_)
    have hw := hK5 hN6
    have hk7 := Nk_.k hN6 hp0 (by decide)
    have hT8 := Nk_.tr (Nk_.rf _) hN6
    refine r_istore_n (L' := [(3, .int r4), (2, .int (Int32.ofNat (ln_ M (rf_ M a0 1)))), (0, .ref a0), (1, .int x1)]) g dJx4a65c_grow_92f84_30 rfl (by decide) rfl ?_
    refine r_aload_n g dJx4a65c_grow_92f84_31 rfl 2 rfl ?_
    refine r_aload_n g dJx4a65c_grow_92f84_32 rfl 2 rfl ?_
    obtain ⟨hk9, hw⟩ := hw
    refine r_gtR (C := RJx4a65c) (T := TJx4a65c) (N := 3) g (ci := 0) rfl tc_Jx4a65c hk7 1 (by decide) tw_55 (fun _ h => h) rfl (k_neO hk9 (by decide) (by decide)) dJx4a65c_grow_92f84_33 ?_
    refine r_iload_n g dJx4a65c_grow_92f84_36 rfl 0 rfl ?_
    refine r_callSr (As := [.ref (rf_ M3 a0 1), .int r4]) g (fun sz => mt_J7_copyOf_1904c hw sz) tw_491 tw_493 tw_21 tw_492 hy_J7_copyOf_1904c ⟨rfl, rfl⟩ (Nat.le_of_ble_eq_true rfl) (Nat.le_of_ble_eq_true rfl) (Nat.le_of_ble_eq_true rfl) (Nat.le_of_ble_eq_true rfl) (Nat.le_of_ble_eq_true rfl) rfl dJx4a65c_grow_92f84_37 (fun M10 r11 hK12 h14 hN13 => ?_)
    have hw := hK12 hN13
    have hk15 := Nk_.k hN13 hk7 (by decide)
    have hT16 := Nk_.tr hT8 hN13
    obtain ⟨hk17, hw⟩ := hw
    refine r_dup_x1 g dJx4a65c_grow_92f84_40 rfl rfl ?_
    refine r_ptRx (C := RJx4a65c) (T := TJx4a65c) (N := 3) g (ci := 0) rfl tc_Jx4a65c tyJx4a65c tyJx4a65c_ok nmJx4a65c hk15 1 (by decide) tw_55 (fun _ h => h) rfl rfl (k_ne hk17 (by decide)) rfl rfl dJx4a65c_grow_92f84_41 ?_
    have hw := hw _ rfl
    exact r_rret g hr (by first | exact Or.inl ⟨_, rfl⟩ | exact Or.inr ⟨_, rfl⟩) (Nat.le_of_ble_eq_true rfl) (Nat.le_of_ble_eq_true rfl) rfl (k_ne hk17 (by decide)) dJx4a65c_grow_92f84_44 hw
  · have hw := hw.2 hc2
    refine r_aload_n g dJx4a65c_grow_92f84_10 rfl 1 rfl ?_
    refine r_gtR (C := RJx4a65c) (T := TJx4a65c) (N := 3) g (ci := 0) rfl tc_Jx4a65c hp0 1 (by decide) tw_55 (fun _ h => h) rfl (k_neO hk1 (by decide) (by decide)) dJx4a65c_grow_92f84_11 ?_
    refine r_gets g tw_53 rfl dJx4a65c_grow_92f84_14 (fun q20 h19 h21 h22 => ?_)
    have hw := hw q20 h19 h21 h22
    refine r_acmp_eq (tgt := 45) g dJx4a65c_grow_92f84_17 (by decide) (fun hc23 => ?_) (fun hc23 => ?_)
    · have hw := hw.1 hc23
      refine r_aload_n g dJx4a65c_grow_92f84_45 rfl 1 rfl ?_
      refine r_bipush (v := 10) g dJx4a65c_grow_92f84_46 (by decide) ?_
      refine r_iload_n g dJx4a65c_grow_92f84_48 rfl 2 rfl ?_
      refine r_mmax g tw_525 tw_485 tw_20 tw_486 (Nat.le_of_ble_eq_true rfl) (Nat.le_of_ble_eq_true rfl) (Nat.le_of_ble_eq_true rfl) (Nat.le_of_ble_eq_true rfl) dJx4a65c_grow_92f84_49 ?_
      obtain ⟨h30, h29, hw⟩ := hw
      refine r_newR (t := 6) (C := "java/lang/Object") g (by decide) (by decide) rfl tw_526 tx_517 h30 (Nat.le_trans h29 (Nat.le_of_ble_eq_true rfl)) (Nat.le_of_ble_eq_true rfl) (Nat.le_trans (Nat.add_le_add_left h29 _) (Nat.le_of_ble_eq_true rfl)) dJx4a65c_grow_92f84_52 (fun q24 h25 hq26 => ?_)
      have hw := hw q24 h25 hq26 _ rfl
      have hk32 := Nk_.k (Nk_nw_ (c := 26) (n := (ix_ (if (10 : Int32) < x1 then x1 else (10 : Int32)))) hq26) hp0 (by decide)
      have hT33 := Nk_.tr (Nk_.rf _) (Nk_nw_ (c := 26) (n := (ix_ (if (10 : Int32) < x1 then x1 else (10 : Int32)))) hq26)
      have hk34 := kd_nq_ M q24 26 (ix_ (if (10 : Int32) < x1 then x1 else (10 : Int32)))
      refine V_.widen (n2 := 1) (k2 := 200) (Nat.le_of_ble_eq_true rfl) (Nat.le_trans (Nat.add_le_add_left h29 _) (Nat.le_of_ble_eq_true rfl)) ?_
      refine r_dup_x1 g dJx4a65c_grow_92f84_55 rfl rfl ?_
      refine r_ptRx (C := RJx4a65c) (T := TJx4a65c) (N := 3) g (ci := 0) rfl tc_Jx4a65c tyJx4a65c tyJx4a65c_ok nmJx4a65c hk32 1 (by decide) tw_55 (fun _ h => h) rfl rfl (k_ne hk34 (by decide)) rfl rfl dJx4a65c_grow_92f84_56 ?_
      have hw := hw _ rfl
      exact r_rret g hr (by first | exact Or.inl ⟨_, rfl⟩ | exact Or.inr ⟨_, rfl⟩) (Nat.le_of_ble_eq_true rfl) (Nat.le_of_ble_eq_true rfl) rfl (k_ne hk34 (by decide)) dJx4a65c_grow_92f84_59 hw
    · have hw := hw.2 hc23
      refine r_iload_n g dJx4a65c_grow_92f84_20 rfl 0 rfl ?_
      refine r_iload_n g dJx4a65c_grow_92f84_21 rfl 2 rfl ?_
      refine r_iload_n g dJx4a65c_grow_92f84_22 rfl 0 rfl ?_
      refine r_isub g dJx4a65c_grow_92f84_23 ?_
      refine r_iload_n g dJx4a65c_grow_92f84_24 rfl 0 rfl ?_
      refine r_iconst (v := 1) g dJx4a65c_grow_92f84_25 (by decide) ?_
      refine r_ishr g dJx4a65c_grow_92f84_26 ?_
      refine r_callSi (As := [.int (Int32.ofNat (ln_ M (rf_ M a0 1))), .int (x1 - (Int32.ofNat (ln_ M (rf_ M a0 1)))), .int ((Int32.ofNat (ln_ M (rf_ M a0 1))) >>> ((1 : Int32) &&& 31))]) g (fun sz => mt_J8_newLength_cabcc hw sz) tw_481 tw_483 tw_19 tw_482 hy_J8_newLength_cabcc ⟨rfl, rfl⟩ (Nat.le_of_ble_eq_true rfl) (Nat.le_of_ble_eq_true rfl) (Nat.le_of_ble_eq_true rfl) (Nat.le_of_ble_eq_true rfl) (Nat.le_of_ble_eq_true rfl) rfl dJx4a65c_grow_92f84_27 (fun M36 r37 hK38 hN39 => ?_)
      have hw := hK38 hN39
      have hk40 := Nk_.k hN39 hp0 (by decide)
      have hT41 := Nk_.tr (Nk_.rf _) hN39
      refine r_istore_n (L' := [(3, .int r37), (2, .int (Int32.ofNat (ln_ M (rf_ M a0 1)))), (0, .ref a0), (1, .int x1)]) g dJx4a65c_grow_92f84_30 rfl (by decide) rfl ?_
      refine r_aload_n g dJx4a65c_grow_92f84_31 rfl 2 rfl ?_
      refine r_aload_n g dJx4a65c_grow_92f84_32 rfl 2 rfl ?_
      obtain ⟨hk42, hw⟩ := hw
      refine r_gtR (C := RJx4a65c) (T := TJx4a65c) (N := 3) g (ci := 0) rfl tc_Jx4a65c hk40 1 (by decide) tw_55 (fun _ h => h) rfl (k_neO hk42 (by decide) (by decide)) dJx4a65c_grow_92f84_33 ?_
      refine r_iload_n g dJx4a65c_grow_92f84_36 rfl 0 rfl ?_
      refine r_callSr (As := [.ref (rf_ M36 a0 1), .int r37]) g (fun sz => mt_J7_copyOf_1904c hw sz) tw_491 tw_493 tw_21 tw_492 hy_J7_copyOf_1904c ⟨rfl, rfl⟩ (Nat.le_of_ble_eq_true rfl) (Nat.le_of_ble_eq_true rfl) (Nat.le_of_ble_eq_true rfl) (Nat.le_of_ble_eq_true rfl) (Nat.le_of_ble_eq_true rfl) rfl dJx4a65c_grow_92f84_37 (fun M43 r44 hK45 h47 hN46 => ?_)
      have hw := hK45 hN46
      have hk48 := Nk_.k hN46 hk40 (by decide)
      have hT49 := Nk_.tr hT41 hN46
      obtain ⟨hk50, hw⟩ := hw
      refine r_dup_x1 g dJx4a65c_grow_92f84_40 rfl rfl ?_
      refine r_ptRx (C := RJx4a65c) (T := TJx4a65c) (N := 3) g (ci := 0) rfl tc_Jx4a65c tyJx4a65c tyJx4a65c_ok nmJx4a65c hk48 1 (by decide) tw_55 (fun _ h => h) rfl rfl (k_ne hk50 (by decide)) rfl rfl dJx4a65c_grow_92f84_41 ?_
      have hw := hw _ rfl
      exact r_rret g hr (by first | exact Or.inl ⟨_, rfl⟩ | exact Or.inr ⟨_, rfl⟩) (Nat.le_of_ble_eq_true rfl) (Nat.le_of_ble_eq_true rfl) rfl (k_ne hk50 (by decide)) dJx4a65c_grow_92f84_44 hw
def rmJx4a65c_grow_d5877 : Room := { frames := 4, cells := 1, slots := 200, locals := 127 }
theorem hy_Jx4a65c_grow_d5877 : yJx4a65c_grow_d5877.cls ≠ "java/lang/invoke/MethodHandle" ∧ yJx4a65c_grow_d5877.cls ≠ "java/lang/invoke/VarHandle" ∧ (parseMethodDescriptor yJx4a65c_grow_d5877.desc).map (fun d => d.parameters.length) = some 0 := by decide +kernel
def wp_Jx4a65c_grow_d5877 (a0 : Nat) (M : Mm) (K : Mm → Nat → Prop) : Prop := kd_ M a0 = 1 ∧ (wp_Jx4a65c_grow_92f84 a0 ((it_ M a0 2) + (1 : Int32)) M (fun M1 r2 => Nk_ M M1 → (kd_ M1 r2 = 26 ∧ (K M1 r2))))
set_option maxHeartbeats 4000000 in
set_option maxRecDepth 100000 in
theorem mt_Jx4a65c_grow_d5877 {l : Launch} {D : Dd_} {M : Mm} {a0 : Nat} {K : Mm → Nat → Prop} (hw : wp_Jx4a65c_grow_d5877 a0 M K) (sz : Nat) : Met l yJx4a65c_grow_d5877 (Cond.code yJx4a65c_grow_d5877 cJx4a65c_grow_d5877 1 (some (.array (.object "java/lang/Object"))) :: tbG_) rmJx4a65c_grow_d5877 (cPc_ D M sz [.ref a0]) (va_Qr (S := Mm) (fun _ => True) (fun M' a t => K M' a ∧ kd_ M' a ≠ 0 ∧ cB_ D M sz M' t) (Aw_ M sz)) 1 200 (Aw_ M sz) := by
  refine ofV (by decide) (Nat.le_of_ble_eq_true rfl) ?_
  intro p e s m below meth c g hr hin hsz
  subst hsz
  obtain ⟨hp0, hw⟩ := hw
  refine r_aload_n g dJx4a65c_grow_d5877_0 rfl 0 rfl ?_
  refine r_aload_n g dJx4a65c_grow_d5877_1 rfl 0 rfl ?_
  refine r_gt (C := RJx4a65c) (T := TJx4a65c) (N := 3) g (ci := 0) rfl tc_Jx4a65c hp0 2 (by decide) tw_56 (fun _ h => h) rfl dJx4a65c_grow_d5877_2 ?_
  refine r_iconst (v := 1) g dJx4a65c_grow_d5877_5 (by decide) ?_
  refine r_iadd g dJx4a65c_grow_d5877_6 ?_
  refine r_callVr (As := [.int ((it_ M a0 2) + (1 : Int32))]) g (fun sz => mt_Jx4a65c_grow_92f84 hw sz) tw_477 tw_480 tw_5 tw_479 tp_3 (ci := 0) (T := TJx4a65c) (N := 3) rfl hp0 hy_Jx4a65c_grow_92f84 ⟨rfl, rfl⟩ (Nat.le_of_ble_eq_true rfl) (Nat.le_of_ble_eq_true rfl) (Nat.le_of_ble_eq_true rfl) (Nat.le_of_ble_eq_true rfl) (Nat.le_of_ble_eq_true rfl) rfl dJx4a65c_grow_d5877_7 (fun M1 r2 hK3 h5 hN4 => ?_)
  have hw := hK3 hN4
  have hk6 := Nk_.k hN4 hp0 (by decide)
  have hT7 := Nk_.tr (Nk_.rf _) hN4
  obtain ⟨hk8, hw⟩ := hw
  exact r_rret g hr (by first | exact Or.inl ⟨_, rfl⟩ | exact Or.inr ⟨_, rfl⟩) (Nat.le_of_ble_eq_true rfl) (Nat.le_of_ble_eq_true rfl) rfl (k_ne hk8 (by decide)) dJx4a65c_grow_d5877_10 hw
def rmJx4a65c_add_72be8 : Room := { frames := 5, cells := 1, slots := 200, locals := 147 }
theorem hy_Jx4a65c_add_72be8 : yJx4a65c_add_72be8.cls ≠ "java/lang/invoke/MethodHandle" ∧ yJx4a65c_add_72be8.cls ≠ "java/lang/invoke/VarHandle" ∧ (parseMethodDescriptor yJx4a65c_add_72be8.desc).map (fun d => d.parameters.length) = some 3 := by decide +kernel
def wp_Jx4a65c_add_72be8 (a0 : Nat) (a1 : Nat) (a2 : Nat) (x3 : Int32) (M : Mm) (K : Mm → Prop) : Prop := kd_ M a0 = 1 ∧ (kd_ M a1 = 2 ∨ kd_ M a1 = 3) ∧ (kd_ M a2 = 26 ∨ kd_ M a2 = 36) ∧ ((x3 = (Int32.ofNat (ln_ M a2)) → (wp_Jx4a65c_grow_d5877 a0 M (fun M6 r7 => Nk_ M M6 → (kd_ M6 r7 = 26 ∧ (vp_in x3 (ln_ M6 r7) ∧ (∀ M17, M17 = sR_ M6 r7 (ix_ x3) a1 → (∀ M18, M18 = sI_ M17 a0 2 (x3 + (1 : Int32)) → K M18))))))) ∧ (¬ x3 = (Int32.ofNat (ln_ M a2)) → (kd_ M a2 = 26 ∧ (vp_in x3 (ln_ M a2) ∧ (∀ M4, M4 = sR_ M a2 (ix_ x3) a1 → (∀ M5, M5 = sI_ M4 a0 2 (x3 + (1 : Int32)) → K M5))))))
set_option maxHeartbeats 4000000 in
set_option maxRecDepth 100000 in
theorem mt_Jx4a65c_add_72be8 {l : Launch} {D : Dd_} {M : Mm} {a0 : Nat} {a1 : Nat} {a2 : Nat} {x3 : Int32} {K : Mm → Prop} (hw : wp_Jx4a65c_add_72be8 a0 a1 a2 x3 M K) (sz : Nat) : Met l yJx4a65c_add_72be8 (Cond.code yJx4a65c_add_72be8 cJx4a65c_add_72be8 4 none :: tbG_) rmJx4a65c_add_72be8 (cPc_ D M sz [.ref a0, .ref a1, .ref a2, .int x3]) (va_Qv (fun M' => K M') (cB_ D M sz) (Aw_ M sz)) 1 200 (Aw_ M sz) := by
  refine ofV (by decide) (Nat.le_of_ble_eq_true rfl) ?_
  intro p e s m below meth c g hr hin hsz
  subst hsz
  obtain ⟨hp0, hp1, hp2, hw⟩ := hw
  refine r_iload_n g dJx4a65c_add_72be8_0 rfl 3 rfl ?_
  refine r_aload_n g dJx4a65c_add_72be8_1 rfl 2 rfl ?_
  refine r_alen (t := 6) g (by decide) hp2 dJx4a65c_add_72be8_2 ?_
  refine r_icmp_ne (tgt := 11) g dJx4a65c_add_72be8_3 (by decide) (fun hc1 => ?_) (fun hc1 => ?_)
  · have hw := hw.2 hc1
    refine r_aload_n g dJx4a65c_add_72be8_11 rfl 2 rfl ?_
    refine r_iload_n g dJx4a65c_add_72be8_12 rfl 3 rfl ?_
    refine r_aload_n g dJx4a65c_add_72be8_13 rfl 1 rfl ?_
    obtain ⟨hk2, hw⟩ := hw
    obtain ⟨hi3, hw⟩ := hw
    refine r_aastB g hp1 hk2 hi3 dJx4a65c_add_72be8_14 ?_
    have hw := hw _ rfl
    refine r_aload_n g dJx4a65c_add_72be8_15 rfl 0 rfl ?_
    refine r_iload_n g dJx4a65c_add_72be8_16 rfl 3 rfl ?_
    refine r_iconst (v := 1) g dJx4a65c_add_72be8_17 (by decide) ?_
    refine r_iadd g dJx4a65c_add_72be8_18 ?_
    refine r_ptI (C := RJx4a65c) (T := TJx4a65c) (N := 3) g (ci := 0) rfl tc_Jx4a65c tyJx4a65c tyJx4a65c_ok nmJx4a65c hp0 2 (by decide) tw_56 (fun _ h => h) rfl rfl rfl rfl dJx4a65c_add_72be8_19 ?_
    have hw := hw _ rfl
    exact r_vret g hr (Nat.le_of_ble_eq_true rfl) (Nat.le_of_ble_eq_true rfl) rfl dJx4a65c_add_72be8_22 hw
  · have hw := hw.1 hc1
    refine r_aload_n g dJx4a65c_add_72be8_6 rfl 0 rfl ?_
    refine r_callVr (As := []) g (fun sz => mt_Jx4a65c_grow_d5877 hw sz) tw_473 tw_476 tw_5 tw_475 tp_2 (ci := 0) (T := TJx4a65c) (N := 3) rfl hp0 hy_Jx4a65c_grow_d5877 ⟨rfl, rfl⟩ (Nat.le_of_ble_eq_true rfl) (Nat.le_of_ble_eq_true rfl) (Nat.le_of_ble_eq_true rfl) (Nat.le_of_ble_eq_true rfl) (Nat.le_of_ble_eq_true rfl) rfl dJx4a65c_add_72be8_7 (fun M6 r7 hK8 h10 hN9 => ?_)
    have hw := hK8 hN9
    have hk11 := Nk_.k hN9 hp0 (by decide)
    have hk12 := k_orN hN9 hp1 (by decide) (by decide)
    have hk13 := k_orN hN9 hp2 (by decide) (by decide)
    have hT14 := Nk_.tr (Nk_.rf _) hN9
    obtain ⟨hk15, hw⟩ := hw
    refine r_astore_n (L' := [(2, .ref r7), (0, .ref a0), (1, .ref a1), (3, .int x3)]) g dJx4a65c_add_72be8_10 rfl (by decide) rfl ?_
    refine r_aload_n g dJx4a65c_add_72be8_11 rfl 0 rfl ?_
    refine r_iload_n g dJx4a65c_add_72be8_12 rfl 3 rfl ?_
    refine r_aload_n g dJx4a65c_add_72be8_13 rfl 2 rfl ?_
    obtain ⟨hi16, hw⟩ := hw
    refine r_aastB g hk12 hk15 hi16 dJx4a65c_add_72be8_14 ?_
    have hw := hw _ rfl
    refine r_aload_n g dJx4a65c_add_72be8_15 rfl 1 rfl ?_
    refine r_iload_n g dJx4a65c_add_72be8_16 rfl 3 rfl ?_
    refine r_iconst (v := 1) g dJx4a65c_add_72be8_17 (by decide) ?_
    refine r_iadd g dJx4a65c_add_72be8_18 ?_
    refine r_ptI (C := RJx4a65c) (T := TJx4a65c) (N := 3) g (ci := 0) rfl tc_Jx4a65c tyJx4a65c tyJx4a65c_ok nmJx4a65c hk11 2 (by decide) tw_56 (fun _ h => h) rfl rfl rfl rfl dJx4a65c_add_72be8_19 ?_
    have hw := hw _ rfl
    exact r_vret g hr (Nat.le_of_ble_eq_true rfl) (Nat.le_of_ble_eq_true rfl) rfl dJx4a65c_add_72be8_22 hw
def rmJx4a65c_add_9ea2d : Room := { frames := 6, cells := 1, slots := 200, locals := 170 }
theorem hy_Jx4a65c_add_9ea2d : yJx4a65c_add_9ea2d.cls ≠ "java/lang/invoke/MethodHandle" ∧ yJx4a65c_add_9ea2d.cls ≠ "java/lang/invoke/VarHandle" ∧ (parseMethodDescriptor yJx4a65c_add_9ea2d.desc).map (fun d => d.parameters.length) = some 1 := by decide +kernel
def wp_Jx4a65c_add_9ea2d (a0 : Nat) (a1 : Nat) (M : Mm) (K : Mm → Int32 → Prop) : Prop := kd_ M a0 = 1 ∧ (kd_ M a1 = 2 ∨ kd_ M a1 = 3) ∧ (∀ M1, M1 = sI_ M a0 0 ((it_ M a0 0) + (1 : Int32)) → ((kd_ M (rf_ M a0 1) = 26 ∨ kd_ M (rf_ M a0 1) = 36) ∧ (wp_Jx4a65c_add_72be8 a0 a1 (rf_ M a0 1) (it_ M1 a0 2) M1 (fun M3 => Nk_ M1 M3 → (K M3 (1 : Int32))))))
set_option maxHeartbeats 4000000 in
set_option maxRecDepth 100000 in
theorem mt_Jx4a65c_add_9ea2d {l : Launch} {D : Dd_} {M : Mm} {a0 : Nat} {a1 : Nat} {K : Mm → Int32 → Prop} (hw : wp_Jx4a65c_add_9ea2d a0 a1 M K) (sz : Nat) : Met l yJx4a65c_add_9ea2d (Cond.code yJx4a65c_add_9ea2d cJx4a65c_add_9ea2d 2 (some .boolean) :: tbG_) rmJx4a65c_add_9ea2d (cPc_ D M sz [.ref a0, .ref a1]) (va_Qi (fun r M' => K M' r ∧ bz_ r) (cB_ D M sz) (Aw_ M sz)) 1 200 (Aw_ M sz) := by
  refine ofV (by decide) (Nat.le_of_ble_eq_true rfl) ?_
  intro p e s m below meth c g hr hin hsz
  subst hsz
  obtain ⟨hp0, hp1, hw⟩ := hw
  refine r_aload_n g dJx4a65c_add_9ea2d_0 rfl 0 rfl ?_
  refine r_dup g dJx4a65c_add_9ea2d_1 rfl ?_
  refine r_gt (C := RJx4a65c) (T := TJx4a65c) (N := 3) g (ci := 0) rfl tc_Jx4a65c hp0 0 (by decide) tw_58 (sameF g tw_59) rfl dJx4a65c_add_9ea2d_2 ?_
  refine r_iconst (v := 1) g dJx4a65c_add_9ea2d_5 (by decide) ?_
  refine r_iadd g dJx4a65c_add_9ea2d_6 ?_
  refine r_ptI (C := RJx4a65c) (T := TJx4a65c) (N := 3) g (ci := 0) rfl tc_Jx4a65c tyJx4a65c tyJx4a65c_ok nmJx4a65c hp0 0 (by decide) tw_58 (sameF g tw_59) rfl rfl rfl rfl dJx4a65c_add_9ea2d_7 ?_
  have hw := hw _ rfl
  refine r_aload_n g dJx4a65c_add_9ea2d_10 rfl 0 rfl ?_
  refine r_aload_n g dJx4a65c_add_9ea2d_11 rfl 1 rfl ?_
  refine r_aload_n g dJx4a65c_add_9ea2d_12 rfl 0 rfl ?_
  obtain ⟨hk2, hw⟩ := hw
  refine r_gtR (C := RJx4a65c) (T := TJx4a65c) (N := 3) g (ci := 0) rfl tc_Jx4a65c hp0 1 (by decide) tw_55 (fun _ h => h) rfl (k_neO hk2 (by decide) (by decide)) dJx4a65c_add_9ea2d_13 ?_
  refine r_aload_n g dJx4a65c_add_9ea2d_16 rfl 0 rfl ?_
  refine r_gt (C := RJx4a65c) (T := TJx4a65c) (N := 3) g (ci := 0) rfl tc_Jx4a65c hp0 2 (by decide) tw_56 (fun _ h => h) rfl dJx4a65c_add_9ea2d_17 ?_
  refine r_callVv (As := [.ref a1, .ref (rf_ M a0 1), .int (it_ (sI_ M a0 0 ((it_ M a0 0) + (1 : Int32))) a0 2)]) g (fun sz => mt_Jx4a65c_add_72be8 hw sz) tw_469 tw_472 tw_5 tw_471 tp_1 (ci := 0) (T := TJx4a65c) (N := 3) rfl hp0 hy_Jx4a65c_add_72be8 ⟨rfl, rfl⟩ (Nat.le_of_ble_eq_true rfl) (Nat.le_of_ble_eq_true rfl) (Nat.le_of_ble_eq_true rfl) (Nat.le_of_ble_eq_true rfl) (Nat.le_of_ble_eq_true rfl) rfl dJx4a65c_add_9ea2d_20 (fun M3 hK4 hN5 => ?_)
  have hw := hK4 hN5
  have hk6 := Nk_.k hN5 hp0 (by decide)
  have hk7 := k_orN hN5 hp1 (by decide) (by decide)
  have hT8 := Nk_.tr (Nk_.rf _) hN5
  refine r_iconst (v := 1) g dJx4a65c_add_9ea2d_23 (by decide) ?_
  exact r_zret g hr (Nat.le_of_ble_eq_true rfl) (Nat.le_of_ble_eq_true rfl) rfl (Or.inr rfl) dJx4a65c_add_9ea2d_24 hw
def rmJx4a65c_fastRemove_b59b0 : Room := { frames := 1, cells := 0, slots := 0, locals := 60 }
theorem hy_Jx4a65c_fastRemove_b59b0 : yJx4a65c_fastRemove_b59b0.cls ≠ "java/lang/invoke/MethodHandle" ∧ yJx4a65c_fastRemove_b59b0.cls ≠ "java/lang/invoke/VarHandle" ∧ (parseMethodDescriptor yJx4a65c_fastRemove_b59b0.desc).map (fun d => d.parameters.length) = some 2 := by decide +kernel
def wp_Jx4a65c_fastRemove_b59b0 (a0 : Nat) (a1 : Nat) (x2 : Int32) (M : Mm) (K : Mm → Prop) : Prop := kd_ M a0 = 1 ∧ kd_ M a1 = 26 ∧ (∀ M1, M1 = sI_ M a0 0 ((it_ M a0 0) + (1 : Int32)) → ((((it_ M1 a0 2) - (1 : Int32)) ≤ x2 → (∀ M3, M3 = sI_ M1 a0 2 ((it_ M1 a0 2) - (1 : Int32)) → (vp_in ((it_ M1 a0 2) - (1 : Int32)) (ln_ M a1) ∧ (∀ M5, M5 = sR_ M3 a1 (ix_ ((it_ M1 a0 2) - (1 : Int32))) (nz_ M3) → K M5)))) ∧ (¬ ((it_ M1 a0 2) - (1 : Int32)) ≤ x2 → (¬ (x2 + (1 : Int32)) < 0 ∧ (¬ x2 < 0 ∧ (¬ (((it_ M1 a0 2) - (1 : Int32)) - x2) < 0 ∧ (ix_ (x2 + (1 : Int32)) + ix_ (((it_ M1 a0 2) - (1 : Int32)) - x2) ≤ ln_ M a1 ∧ (ix_ x2 + ix_ (((it_ M1 a0 2) - (1 : Int32)) - x2) ≤ ln_ M a1 ∧ ((∀ j, j < ix_ (((it_ M1 a0 2) - (1 : Int32)) - x2) → (rf_ M a1 (ix_ (x2 + (1 : Int32)) + j)) = nz_ M ∨ kd_ M (rf_ M a1 (ix_ (x2 + (1 : Int32)) + j)) = 2 ∨ kd_ M (rf_ M a1 (ix_ (x2 + (1 : Int32)) + j)) = 3) ∧ (∀ M12, M12 = aR_ M1 a1 (va_cpy (rf_ M a1) (rf_ M a1) (ix_ (x2 + (1 : Int32))) (ix_ x2) (ix_ (((it_ M1 a0 2) - (1 : Int32)) - x2))) → (∀ M13, M13 = sI_ M12 a0 2 ((it_ M1 a0 2) - (1 : Int32)) → (vp_in ((it_ M1 a0 2) - (1 : Int32)) (ln_ M a1) ∧ (∀ M15, M15 = sR_ M13 a1 (ix_ ((it_ M1 a0 2) - (1 : Int32))) (nz_ M13) → K M15)))))))))))))
set_option maxHeartbeats 4000000 in
set_option maxRecDepth 100000 in
theorem mt_Jx4a65c_fastRemove_b59b0 {l : Launch} {D : Dd_} {M : Mm} {a0 : Nat} {a1 : Nat} {x2 : Int32} {K : Mm → Prop} (hw : wp_Jx4a65c_fastRemove_b59b0 a0 a1 x2 M K) (sz : Nat) : Met l yJx4a65c_fastRemove_b59b0 (Cond.code yJx4a65c_fastRemove_b59b0 cJx4a65c_fastRemove_b59b0 4 none :: tbG_) rmJx4a65c_fastRemove_b59b0 (cPc_ D M sz [.ref a0, .ref a1, .int x2]) (va_Qv (fun M' => K M') (cB_ D M sz) (Aw_ M sz)) 0 0 (Aw_ M sz) := by
  refine ofV (by decide) (Nat.le_of_ble_eq_true rfl) ?_
  intro p e s m below meth c g hr hin hsz
  subst hsz
  obtain ⟨hp0, hp1, hw⟩ := hw
  refine r_aload_n g dJx4a65c_fastRemove_b59b0_0 rfl 0 rfl ?_
  refine r_dup g dJx4a65c_fastRemove_b59b0_1 rfl ?_
  refine r_gt (C := RJx4a65c) (T := TJx4a65c) (N := 3) g (ci := 0) rfl tc_Jx4a65c hp0 0 (by decide) tw_58 (sameF g tw_59) rfl dJx4a65c_fastRemove_b59b0_2 ?_
  refine r_iconst (v := 1) g dJx4a65c_fastRemove_b59b0_5 (by decide) ?_
  refine r_iadd g dJx4a65c_fastRemove_b59b0_6 ?_
  refine r_ptI (C := RJx4a65c) (T := TJx4a65c) (N := 3) g (ci := 0) rfl tc_Jx4a65c tyJx4a65c tyJx4a65c_ok nmJx4a65c hp0 0 (by decide) tw_58 (sameF g tw_59) rfl rfl rfl rfl dJx4a65c_fastRemove_b59b0_7 ?_
  have hw := hw _ rfl
  refine r_aload_n g dJx4a65c_fastRemove_b59b0_10 rfl 0 rfl ?_
  refine r_gt (C := RJx4a65c) (T := TJx4a65c) (N := 3) g (ci := 0) rfl tc_Jx4a65c hp0 2 (by decide) tw_56 (fun _ h => h) rfl dJx4a65c_fastRemove_b59b0_11 ?_
  refine r_iconst (v := 1) g dJx4a65c_fastRemove_b59b0_14 (by decide) ?_
  refine r_isub g dJx4a65c_fastRemove_b59b0_15 ?_
  refine r_dup g dJx4a65c_fastRemove_b59b0_16 rfl ?_
  refine r_istore_n (L' := [(3, .int ((it_ (sI_ M a0 0 ((it_ M a0 0) + (1 : Int32))) a0 2) - (1 : Int32))), (0, .ref a0), (1, .ref a1), (2, .int x2)]) g dJx4a65c_fastRemove_b59b0_17 rfl (by decide) rfl ?_
  refine r_iload_n g dJx4a65c_fastRemove_b59b0_18 rfl 3 rfl ?_
  refine r_icmp_le (tgt := 34) g dJx4a65c_fastRemove_b59b0_19 (by decide) (fun hc2 => ?_) (fun hc2 => ?_)
  · have hw := hw.1 hc2
    refine r_aload_n g dJx4a65c_fastRemove_b59b0_34 rfl 2 rfl ?_
    refine r_aload_n g dJx4a65c_fastRemove_b59b0_35 rfl 1 rfl ?_
    refine r_iload_n g dJx4a65c_fastRemove_b59b0_36 rfl 0 rfl ?_
    refine r_dup_x1 g dJx4a65c_fastRemove_b59b0_37 rfl rfl ?_
    refine r_ptI (C := RJx4a65c) (T := TJx4a65c) (N := 3) g (ci := 0) rfl tc_Jx4a65c tyJx4a65c tyJx4a65c_ok nmJx4a65c hp0 2 (by decide) tw_56 (fun _ h => h) rfl rfl rfl rfl dJx4a65c_fastRemove_b59b0_38 ?_
    have hw := hw _ rfl
    refine r_null g dJx4a65c_fastRemove_b59b0_41 ?_
    obtain ⟨hi4, hw⟩ := hw
    refine r_aastN g hp1 hi4 dJx4a65c_fastRemove_b59b0_42 ?_
    have hw := hw _ rfl
    exact r_vret g hr (Nat.le_of_ble_eq_true rfl) (Nat.le_of_ble_eq_true rfl) rfl dJx4a65c_fastRemove_b59b0_43 hw
  · have hw := hw.2 hc2
    refine r_aload_n g dJx4a65c_fastRemove_b59b0_22 rfl 2 rfl ?_
    refine r_iload_n g dJx4a65c_fastRemove_b59b0_23 rfl 3 rfl ?_
    refine r_iconst (v := 1) g dJx4a65c_fastRemove_b59b0_24 (by decide) ?_
    refine r_iadd g dJx4a65c_fastRemove_b59b0_25 ?_
    refine r_aload_n g dJx4a65c_fastRemove_b59b0_26 rfl 2 rfl ?_
    refine r_iload_n g dJx4a65c_fastRemove_b59b0_27 rfl 3 rfl ?_
    refine r_iload_n g dJx4a65c_fastRemove_b59b0_28 rfl 0 rfl ?_
    refine r_iload_n g dJx4a65c_fastRemove_b59b0_29 rfl 3 rfl ?_
    refine r_isub g dJx4a65c_fastRemove_b59b0_30 ?_
    obtain ⟨h6, h7, h8, h9, h10, hw⟩ := hw
    obtain ⟨h11, hw⟩ := hw
    refine r_acopyR g tw_867 tw_524 tw_523 tw_22 hp1 hp1 h6 h7 h8 h9 h10 h11 (Nat.le_of_ble_eq_true rfl) (Nat.le_of_ble_eq_true rfl) dJx4a65c_fastRemove_b59b0_31 ?_
    have hw := hw _ rfl
    refine r_aload_n g dJx4a65c_fastRemove_b59b0_34 rfl 2 rfl ?_
    refine r_aload_n g dJx4a65c_fastRemove_b59b0_35 rfl 1 rfl ?_
    refine r_iload_n g dJx4a65c_fastRemove_b59b0_36 rfl 0 rfl ?_
    refine r_dup_x1 g dJx4a65c_fastRemove_b59b0_37 rfl rfl ?_
    refine r_ptI (C := RJx4a65c) (T := TJx4a65c) (N := 3) g (ci := 0) rfl tc_Jx4a65c tyJx4a65c tyJx4a65c_ok nmJx4a65c hp0 2 (by decide) tw_56 (fun _ h => h) rfl rfl rfl rfl dJx4a65c_fastRemove_b59b0_38 ?_
    have hw := hw _ rfl
    refine r_null g dJx4a65c_fastRemove_b59b0_41 ?_
    obtain ⟨hi14, hw⟩ := hw
    refine r_aastN g hp1 hi14 dJx4a65c_fastRemove_b59b0_42 ?_
    have hw := hw _ rfl
    exact r_vret g hr (Nat.le_of_ble_eq_true rfl) (Nat.le_of_ble_eq_true rfl) rfl dJx4a65c_fastRemove_b59b0_43 hw
def rmJx4a65c_remove_915e3 : Room := { frames := 2, cells := 0, slots := 0, locals := 83 }
theorem hy_Jx4a65c_remove_915e3 : yJx4a65c_remove_915e3.cls ≠ "java/lang/invoke/MethodHandle" ∧ yJx4a65c_remove_915e3.cls ≠ "java/lang/invoke/VarHandle" ∧ (parseMethodDescriptor yJx4a65c_remove_915e3.desc).map (fun d => d.parameters.length) = some 1 := by decide +kernel
def wp_Jx4a65c_remove_915e3 (a0 : Nat) (x1 : Int32) (M : Mm) (K : Mm → Nat → Prop) : Prop := kd_ M a0 = 1 ∧ (wp_J15_checkIndex_7cf53 x1 (it_ M a0 2) M (fun M1 r2 => Nk_ M M1 → ((kd_ M1 (rf_ M1 a0 1) = 26 ∨ kd_ M1 (rf_ M1 a0 1) = 36) ∧ (kd_ M1 (rf_ M1 a0 1) = 26 ∧ (vp_in x1 (ln_ M1 (rf_ M1 a0 1)) ∧ (kd_ M1 (rf_ M1 (rf_ M1 a0 1) (ix_ x1)) ≠ 0 ∧ (wp_Jx4a65c_fastRemove_b59b0 a0 (rf_ M1 a0 1) x1 M1 (fun M11 => Nk_ M1 M11 → (K M11 (rf_ M1 (rf_ M1 a0 1) (ix_ x1)))))))))))
set_option maxHeartbeats 4000000 in
set_option maxRecDepth 100000 in
theorem mt_Jx4a65c_remove_915e3 {l : Launch} {D : Dd_} {M : Mm} {a0 : Nat} {x1 : Int32} {K : Mm → Nat → Prop} (hw : wp_Jx4a65c_remove_915e3 a0 x1 M K) (sz : Nat) : Met l yJx4a65c_remove_915e3 (Cond.code yJx4a65c_remove_915e3 cJx4a65c_remove_915e3 4 (some (.object "java/lang/Object")) :: tbG_) rmJx4a65c_remove_915e3 (cPc_ D M sz [.ref a0, .int x1]) (va_Qr (S := Mm) (fun _ => True) (fun M' a t => K M' a ∧ kd_ M' a ≠ 0 ∧ cB_ D M sz M' t) (Aw_ M sz)) 0 0 (Aw_ M sz) := by
  refine ofV (by decide) (Nat.le_of_ble_eq_true rfl) ?_
  intro p e s m below meth c g hr hin hsz
  subst hsz
  obtain ⟨hp0, hw⟩ := hw
  refine r_iload_n g dJx4a65c_remove_915e3_0 rfl 1 rfl ?_
  refine r_aload_n g dJx4a65c_remove_915e3_1 rfl 0 rfl ?_
  refine r_gt (C := RJx4a65c) (T := TJx4a65c) (N := 3) g (ci := 0) rfl tc_Jx4a65c hp0 2 (by decide) tw_56 (fun _ h => h) rfl dJx4a65c_remove_915e3_2 ?_
  refine r_callSi (As := [.int x1, .int (it_ M a0 2)]) g (fun sz => mt_J15_checkIndex_7cf53 hw sz) tw_544 tw_546 tw_24 tw_545 hy_J15_checkIndex_7cf53 ⟨rfl, rfl⟩ (Nat.le_of_ble_eq_true rfl) (Nat.le_of_ble_eq_true rfl) (Nat.le_of_ble_eq_true rfl) (Nat.le_of_ble_eq_true rfl) (Nat.le_of_ble_eq_true rfl) rfl dJx4a65c_remove_915e3_5 (fun M1 r2 hK3 hN4 => ?_)
  have hw := hK3 hN4
  have hk5 := Nk_.k hN4 hp0 (by decide)
  have hT6 := Nk_.tr (Nk_.rf _) hN4
  refine r_pop g dJx4a65c_remove_915e3_8 rfl ?_
  refine r_aload_n g dJx4a65c_remove_915e3_9 rfl 0 rfl ?_
  obtain ⟨hk7, hw⟩ := hw
  refine r_gtR (C := RJx4a65c) (T := TJx4a65c) (N := 3) g (ci := 0) rfl tc_Jx4a65c hk5 1 (by decide) tw_55 (fun _ h => h) rfl (k_neO hk7 (by decide) (by decide)) dJx4a65c_remove_915e3_10 ?_
  refine r_astore_n (L' := [(2, .ref (rf_ M1 a0 1)), (0, .ref a0), (1, .int x1)]) g dJx4a65c_remove_915e3_13 rfl (by decide) rfl ?_
  refine r_aload_n g dJx4a65c_remove_915e3_14 rfl 0 rfl ?_
  refine r_iload_n g dJx4a65c_remove_915e3_15 rfl 2 rfl ?_
  obtain ⟨hk8, hw⟩ := hw
  obtain ⟨hi9, hw⟩ := hw
  obtain ⟨hk10, hw⟩ := hw
  refine r_aald (t := 6) g (by decide) (by decide) hk8 hi9 dJx4a65c_remove_915e3_16 ?_
  refine r_rv hk10 ?_
  refine r_astore_n (L' := [(3, .ref (rf_ M1 (rf_ M1 a0 1) (ix_ x1))), (2, .ref (rf_ M1 a0 1)), (0, .ref a0), (1, .int x1)]) g dJx4a65c_remove_915e3_17 rfl (by decide) rfl ?_
  refine r_aload_n g dJx4a65c_remove_915e3_18 rfl 2 rfl ?_
  refine r_aload_n g dJx4a65c_remove_915e3_19 rfl 1 rfl ?_
  refine r_iload_n g dJx4a65c_remove_915e3_20 rfl 3 rfl ?_
  refine r_callVv (As := [.ref (rf_ M1 a0 1), .int x1]) g (fun sz => mt_Jx4a65c_fastRemove_b59b0 hw sz) tw_863 tw_866 tw_5 tw_865 tp_27 (ci := 0) (T := TJx4a65c) (N := 3) rfl hk5 hy_Jx4a65c_fastRemove_b59b0 ⟨rfl, rfl⟩ (Nat.le_of_ble_eq_true rfl) (Nat.le_of_ble_eq_true rfl) (Nat.le_of_ble_eq_true rfl) (Nat.le_of_ble_eq_true rfl) (Nat.le_of_ble_eq_true rfl) rfl dJx4a65c_remove_915e3_21 (fun M11 hK12 hN13 => ?_)
  have hw := hK12 hN13
  have hk14 := k_nzN hN13 hk10
  have hk15 := Nk_.k hN13 hk5 (by decide)
  have hT16 := Nk_.tr hT6 hN13
  refine r_aload_n g dJx4a65c_remove_915e3_24 rfl 0 rfl ?_
  exact r_rret g hr (by first | exact Or.inl ⟨_, rfl⟩ | exact Or.inr ⟨_, rfl⟩) (Nat.le_of_ble_eq_true rfl) (Nat.le_of_ble_eq_true rfl) rfl hk14 dJx4a65c_remove_915e3_25 hw
