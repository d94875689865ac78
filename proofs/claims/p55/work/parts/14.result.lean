/-! walks by program: 14.result -/
def rmX5_init : Room := { frames := 1, cells := 4, slots := 2401, locals := 12 }
theorem hy_X5_init : yX5_init.cls ≠ "java/lang/invoke/MethodHandle" ∧ yX5_init.cls ≠ "java/lang/invoke/VarHandle" ∧ (parseMethodDescriptor yX5_init.desc).map (fun d => d.parameters.length) = some 0 := by decide +kernel
def wp_X5_init (a0 : Nat) (M : Mm) (K : Mm → Prop) : Prop := kd_ M a0 = 7 ∧ ((∀ q1, q1 ≠ 0 → kd_ M q1 = 0 → ∀ M4, M4 = nw_ M q1 20 (ix_ (600 : Int32)) → (∀ M8, M8 = sR_ M4 a0 0 q1 → ((∀ q9, q9 ≠ 0 → kd_ M8 q9 = 0 → ∀ M12, M12 = nw_ M8 q9 20 (ix_ (600 : Int32)) → (∀ M16, M16 = sR_ M12 a0 3 q9 → ((∀ q17, q17 ≠ 0 → kd_ M16 q17 = 0 → ∀ M20, M20 = nw_ M16 q17 20 (ix_ (600 : Int32)) → (∀ M24, M24 = sR_ M20 a0 5 q17 → ((∀ q25, q25 ≠ 0 → kd_ M24 q25 = 0 → ∀ M28, M28 = nw_ M24 q25 20 (ix_ (601 : Int32)) → (∀ M32, M32 = sR_ M28 a0 6 q25 → K M32))))))))))))
set_option maxHeartbeats 4000000 in
set_option maxRecDepth 100000 in
theorem mt_X5_init {l : Launch} {D : Dd_} {M : Mm} {a0 : Nat} {K : Mm → Prop} (hw : wp_X5_init a0 M K) (sz : Nat) : Met l yX5_init (Cond.code yX5_init cX5_init 1 none :: tbG_) rmX5_init (cPc_ D M sz [.ref a0]) (va_Qv (fun M' => K M') (cB_ D M sz) (Aw_ M sz)) 4 2401 (Aw_ M sz) := by
  refine ofV (by decide) (Nat.le_of_ble_eq_true rfl) ?_
  intro p e s m below meth c g hr hin hsz
  subst hsz
  have hin := hin rfl
  obtain ⟨hp0, hw⟩ := hw
  refine r_aload_n g dX5_init_0 rfl 0 rfl ?_
  refine r_oinit g tw_308 tw_33 tw_34 dX5_init_1 (Nat.le_of_ble_eq_true rfl) (Nat.le_of_ble_eq_true rfl) ?_
  refine r_aload_n g dX5_init_4 rfl 0 rfl ?_
  refine r_sipush (v := 600) g dX5_init_5 (by decide) ?_
  refine r_newI g tw_81 (by decide) (Nat.le_of_ble_eq_true rfl) (Nat.le_of_ble_eq_true rfl) (Nat.le_of_ble_eq_true rfl) dX5_init_8 (fun q1 h2 hq3 => ?_)
  have hw := hw q1 h2 hq3 _ rfl
  have hk5 := kd_nw_ (c := 20) (n := ix_ (600 : Int32)) hq3 hp0 (by decide)
  have hT6 := Nk_.tr (Nk_.rf _) (Nk_nw_ (c := 20) (n := ix_ (600 : Int32)) hq3)
  have hk7 := kd_nq_ M q1 20 (ix_ (600 : Int32))
  refine r_ptFx (C := RX5) (T := TX5) (N := 7) g (ci := 6) rfl tc_X5 tyX5 tyX5_ok nmX5 hk5 0 (by decide) tw_309 (fun _ h => h) rfl hin rfl rfl (k_ne hk7 (by decide)) rfl rfl dX5_init_10 ?_
  have hw := hw _ rfl
  refine r_aload_n g dX5_init_13 rfl 0 rfl ?_
  refine r_sipush (v := 600) g dX5_init_14 (by decide) ?_
  refine r_newI g tw_81 (by decide) (Nat.le_of_ble_eq_true rfl) (Nat.le_of_ble_eq_true rfl) (Nat.le_of_ble_eq_true rfl) dX5_init_17 (fun q9 h10 hq11 => ?_)
  have hw := hw q9 h10 hq11 _ rfl
  have hk13 := kd_nw_ (c := 20) (n := ix_ (600 : Int32)) hq11 hk5 (by decide)
  have hT14 := Nk_.tr hT6 (Nk_nw_ (c := 20) (n := ix_ (600 : Int32)) hq11)
  have hk15 := kd_nq_ (sR_ (nw_ M q1 20 (ix_ (600 : Int32))) a0 0 q1) q9 20 (ix_ (600 : Int32))
  refine r_ptFx (C := RX5) (T := TX5) (N := 7) g (ci := 6) rfl tc_X5 tyX5 tyX5_ok nmX5 hk13 3 (by decide) tw_315 (fun _ h => h) rfl hin rfl rfl (k_ne hk15 (by decide)) rfl rfl dX5_init_19 ?_
  have hw := hw _ rfl
  refine r_aload_n g dX5_init_22 rfl 0 rfl ?_
  refine r_sipush (v := 600) g dX5_init_23 (by decide) ?_
  refine r_newI g tw_81 (by decide) (Nat.le_of_ble_eq_true rfl) (Nat.le_of_ble_eq_true rfl) (Nat.le_of_ble_eq_true rfl) dX5_init_26 (fun q17 h18 hq19 => ?_)
  have hw := hw q17 h18 hq19 _ rfl
  have hk21 := kd_nw_ (c := 20) (n := ix_ (600 : Int32)) hq19 hk13 (by decide)
  have hT22 := Nk_.tr hT14 (Nk_nw_ (c := 20) (n := ix_ (600 : Int32)) hq19)
  have hk23 := kd_nq_ (sR_ (nw_ (sR_ (nw_ M q1 20 (ix_ (600 : Int32))) a0 0 q1) q9 20 (ix_ (600 : Int32))) a0 3 q9) q17 20 (ix_ (600 : Int32))
  refine r_ptFx (C := RX5) (T := TX5) (N := 7) g (ci := 6) rfl tc_X5 tyX5 tyX5_ok nmX5 hk21 5 (by decide) tw_317 (fun _ h => h) rfl hin rfl rfl (k_ne hk23 (by decide)) rfl rfl dX5_init_28 ?_
  have hw := hw _ rfl
  refine r_aload_n g dX5_init_31 rfl 0 rfl ?_
  refine r_sipush (v := 601) g dX5_init_32 (by decide) ?_
  refine r_newI g tw_81 (by decide) (Nat.le_of_ble_eq_true rfl) (Nat.le_of_ble_eq_true rfl) (Nat.le_of_ble_eq_true rfl) dX5_init_35 (fun q25 h26 hq27 => ?_)
  have hw := hw q25 h26 hq27 _ rfl
  have hk29 := kd_nw_ (c := 20) (n := ix_ (601 : Int32)) hq27 hk21 (by decide)
  have hT30 := Nk_.tr hT22 (Nk_nw_ (c := 20) (n := ix_ (601 : Int32)) hq27)
  have hk31 := kd_nq_ (sR_ (nw_ (sR_ (nw_ (sR_ (nw_ M q1 20 (ix_ (600 : Int32))) a0 0 q1) q9 20 (ix_ (600 : Int32))) a0 3 q9) q17 20 (ix_ (600 : Int32))) a0 5 q17) q25 20 (ix_ (601 : Int32))
  refine r_ptFx (C := RX5) (T := TX5) (N := 7) g (ci := 6) rfl tc_X5 tyX5 tyX5_ok nmX5 hk29 6 (by decide) tw_318 (fun _ h => h) rfl hin rfl rfl (k_ne hk31 (by decide)) rfl rfl dX5_init_37 ?_
  have hw := hw _ rfl
  exact r_vret g hr (Nat.le_of_ble_eq_true rfl) (Nat.le_of_ble_eq_true rfl) rfl dX5_init_40 hw
def rmX5_take : Room := { frames := 1, cells := 0, slots := 0, locals := 60 }
theorem hy_X5_take : yX5_take.cls ≠ "java/lang/invoke/MethodHandle" ∧ yX5_take.cls ≠ "java/lang/invoke/VarHandle" ∧ (parseMethodDescriptor yX5_take.desc).map (fun d => d.parameters.length) = some 2 := by decide +kernel
def wp_X5_take (a0 : Nat) (a1 : Nat) (x2 : Int32) (M : Mm) (K : Mm → Prop) : Prop := kd_ M a0 = 7 ∧ kd_ M a1 = 20 ∧ (kd_ M (rf_ M a0 0) = 20 ∧ (¬ (0 : Int32) < 0 ∧ ¬ (0 : Int32) < 0 ∧ ¬ x2 < 0 ∧ ix_ (0 : Int32) + ix_ x2 ≤ ln_ M a1 ∧ ix_ (0 : Int32) + ix_ x2 ≤ ln_ M (rf_ M a0 0) ∧ (∀ M2, M2 = aI_ M (rf_ M a0 0) (va_cpy (it_ M a1) (it_ M (rf_ M a0 0)) (ix_ (0 : Int32)) (ix_ (0 : Int32)) (ix_ x2)) → (∀ M8, M8 = sI_ M2 a0 1 x2 → K M8))))
set_option maxHeartbeats 4000000 in
set_option maxRecDepth 100000 in
theorem mt_X5_take {l : Launch} {D : Dd_} {M : Mm} {a0 : Nat} {a1 : Nat} {x2 : Int32} {K : Mm → Prop} (hw : wp_X5_take a0 a1 x2 M K) (sz : Nat) : Met l yX5_take (Cond.code yX5_take cX5_take 3 none :: tbG_) rmX5_take (cPc_ D M sz [.ref a0, .ref a1, .int x2]) (va_Qv (fun M' => K M') (cB_ D M sz) (Aw_ M sz)) 0 0 (Aw_ M sz) := by
  refine ofV (by decide) (Nat.le_of_ble_eq_true rfl) ?_
  intro p e s m below meth c g hr hin hsz
  subst hsz
  obtain ⟨hp0, hp1, hw⟩ := hw
  refine r_aload_n g dX5_take_0 rfl 1 rfl ?_
  refine r_iconst (v := 0) g dX5_take_1 (by decide) ?_
  refine r_aload_n g dX5_take_2 rfl 0 rfl ?_
  obtain ⟨hk1, hw⟩ := hw
  refine r_gtR (C := RX5) (T := TX5) (N := 7) g (ci := 6) rfl tc_X5 hp0 0 (by decide) tw_309 (fun _ h => h) rfl (k_ne hk1 (by decide)) dX5_take_3 ?_
  refine r_iconst (v := 0) g dX5_take_6 (by decide) ?_
  refine r_iload_n g dX5_take_7 rfl 2 rfl ?_
  obtain ⟨h3, h4, h5, h6, h7, hw⟩ := hw
  refine r_acopyI g tw_1039 tw_524 tw_523 tw_22 hp1 hk1 h3 h4 h5 h6 h7 (Nat.le_of_ble_eq_true rfl) (Nat.le_of_ble_eq_true rfl) dX5_take_8 ?_
  have hw := hw _ rfl
  refine r_aload_n g dX5_take_11 rfl 0 rfl ?_
  refine r_iload_n g dX5_take_12 rfl 2 rfl ?_
  refine r_ptI (C := RX5) (T := TX5) (N := 7) g (ci := 6) rfl tc_X5 tyX5 tyX5_ok nmX5 hp0 1 (by decide) tw_311 (fun _ h => h) rfl rfl rfl rfl dX5_take_13 ?_
  have hw := hw _ rfl
  exact r_vret g hr (Nat.le_of_ble_eq_true rfl) (Nat.le_of_ble_eq_true rfl) rfl dX5_take_16 hw
def rmX5_keepRows : Room := { frames := 1, cells := 0, slots := 0, locals := 60 }
theorem hy_X5_keepRows : yX5_keepRows.cls ≠ "java/lang/invoke/MethodHandle" ∧ yX5_keepRows.cls ≠ "java/lang/invoke/VarHandle" ∧ (parseMethodDescriptor yX5_keepRows.desc).map (fun d => d.parameters.length) = some 0 := by decide +kernel
def wp_X5_keepRows (a0 : Nat) (M : Mm) (K : Mm → Int32 → Prop) : Prop := kd_ M a0 = 7 ∧ (kd_ M (rf_ M a0 0) = 20 ∧ (kd_ M (rf_ M a0 3) = 20 ∧ (¬ (0 : Int32) < 0 ∧ ¬ (0 : Int32) < 0 ∧ ¬ (it_ M a0 1) < 0 ∧ ix_ (0 : Int32) + ix_ (it_ M a0 1) ≤ ln_ M (rf_ M a0 0) ∧ ix_ (0 : Int32) + ix_ (it_ M a0 1) ≤ ln_ M (rf_ M a0 3) ∧ (∀ M3, M3 = aI_ M (rf_ M a0 3) (va_cpy (it_ M (rf_ M a0 0)) (it_ M (rf_ M a0 3)) (ix_ (0 : Int32)) (ix_ (0 : Int32)) (ix_ (it_ M a0 1))) → (∀ M9, M9 = sI_ M3 a0 4 (it_ M3 a0 1) → (K M9 (it_ M9 a0 4)))))))
set_option maxHeartbeats 4000000 in
set_option maxRecDepth 100000 in
theorem mt_X5_keepRows {l : Launch} {D : Dd_} {M : Mm} {a0 : Nat} {K : Mm → Int32 → Prop} (hw : wp_X5_keepRows a0 M K) (sz : Nat) : Met l yX5_keepRows (Cond.code yX5_keepRows cX5_keepRows 1 (some .int) :: tbG_) rmX5_keepRows (cPc_ D M sz [.ref a0]) (va_Qi (fun r M' => K M' r) (cB_ D M sz) (Aw_ M sz)) 0 0 (Aw_ M sz) := by
  refine ofV (by decide) (Nat.le_of_ble_eq_true rfl) ?_
  intro p e s m below meth c g hr hin hsz
  subst hsz
  obtain ⟨hp0, hw⟩ := hw
  refine r_aload_n g dX5_keepRows_0 rfl 0 rfl ?_
  obtain ⟨hk1, hw⟩ := hw
  refine r_gtR (C := RX5) (T := TX5) (N := 7) g (ci := 6) rfl tc_X5 hp0 0 (by decide) tw_309 (fun _ h => h) rfl (k_ne hk1 (by decide)) dX5_keepRows_1 ?_
  refine r_iconst (v := 0) g dX5_keepRows_4 (by decide) ?_
  refine r_aload_n g dX5_keepRows_5 rfl 0 rfl ?_
  obtain ⟨hk2, hw⟩ := hw
  refine r_gtR (C := RX5) (T := TX5) (N := 7) g (ci := 6) rfl tc_X5 hp0 3 (by decide) tw_315 (fun _ h => h) rfl (k_ne hk2 (by decide)) dX5_keepRows_6 ?_
  refine r_iconst (v := 0) g dX5_keepRows_9 (by decide) ?_
  refine r_aload_n g dX5_keepRows_10 rfl 0 rfl ?_
  refine r_gt (C := RX5) (T := TX5) (N := 7) g (ci := 6) rfl tc_X5 hp0 1 (by decide) tw_311 (fun _ h => h) rfl dX5_keepRows_11 ?_
  obtain ⟨h4, h5, h6, h7, h8, hw⟩ := hw
  refine r_acopyI g tw_1039 tw_524 tw_523 tw_22 hk1 hk2 h4 h5 h6 h7 h8 (Nat.le_of_ble_eq_true rfl) (Nat.le_of_ble_eq_true rfl) dX5_keepRows_14 ?_
  have hw := hw _ rfl
  refine r_aload_n g dX5_keepRows_17 rfl 0 rfl ?_
  refine r_aload_n g dX5_keepRows_18 rfl 0 rfl ?_
  refine r_gt (C := RX5) (T := TX5) (N := 7) g (ci := 6) rfl tc_X5 hp0 1 (by decide) tw_311 (fun _ h => h) rfl dX5_keepRows_19 ?_
  refine r_ptI (C := RX5) (T := TX5) (N := 7) g (ci := 6) rfl tc_X5 tyX5 tyX5_ok nmX5 hp0 4 (by decide) tw_316 (fun _ h => h) rfl rfl rfl rfl dX5_keepRows_22 ?_
  have hw := hw _ rfl
  refine r_aload_n g dX5_keepRows_25 rfl 0 rfl ?_
  refine r_gt (C := RX5) (T := TX5) (N := 7) g (ci := 6) rfl tc_X5 hp0 4 (by decide) tw_316 (fun _ h => h) rfl dX5_keepRows_26 ?_
  exact r_iret g hr (Nat.le_of_ble_eq_true rfl) (Nat.le_of_ble_eq_true rfl) rfl dX5_keepRows_29 hw
def rmX5_total : Room := { frames := 0, cells := 0, slots := 0, locals := 0 }
theorem hy_X5_total : yX5_total.cls ≠ "java/lang/invoke/MethodHandle" ∧ yX5_total.cls ≠ "java/lang/invoke/VarHandle" ∧ (parseMethodDescriptor yX5_total.desc).map (fun d => d.parameters.length) = some 1 := by decide +kernel
def lp_X5_total_5 (a0 : Nat) (a1 : Nat) (K : Mm → Int64 → Prop) (E : Int64 → Mm → Prop) : Nat → Int64 → Int32 → Mm → Prop
  | 0, _, _, _ => False
  | n + 1, y2, x4, M => (((it_ M a0 1) ≤ x4 → E y2 M) ∧ (¬ (it_ M a0 1) ≤ x4 → (kd_ M (rf_ M a1 0) = 20 ∧ (kd_ M (rf_ M a0 0) = 20 ∧ (vp_in x4 (ln_ M (rf_ M a0 0)) ∧ (vp_in (it_ M (rf_ M a0 0) (ix_ x4)) (ln_ M (rf_ M a1 0)) ∧ lp_X5_total_5 a0 a1 K E n (y2 + ((it_ M (rf_ M a1 0) (ix_ (it_ M (rf_ M a0 0) (ix_ x4)))).toInt64)) (x4 + (1 : Int32)) M))))))
def wp_X5_total (a0 : Nat) (a1 : Nat) (M : Mm) (K : Mm → Int64 → Prop) : Prop := kd_ M a0 = 7 ∧ kd_ M a1 = 3 ∧ (∃ n8 : Nat, lp_X5_total_5 a0 a1 K (fun yv6 M7 => Nk_ M M7 → (K M7 yv6)) n8 (0 : Int64) (0 : Int32) M)
set_option maxHeartbeats 4000000 in
set_option maxRecDepth 100000 in
theorem lo_X5_total_5 {p : Program} {l : Launch} {e : Env} {s : State} {m : MethodId} {args : Array Value} {below : List Frame} {meth : Method} {c : Code} {D : Dd_} {M0 : Mm} {Q : State → Prop} {K : Mm → Int64 → Prop} (g : G_ p s m args meth c cX5_total 5 RX5 D M0) (hr : meth.sig.returnType = some .long) (hQ : Q = MQ below (va_Ql (fun r M' => K M' r) (cB_ D M0 s.heap.size) (Aw_ M0 s.heap.size)) args s 0 0 (Aw_ M0 s.heap.size)) {a0 : Nat} {a1 : Nat} : ∀ (n : Nat) (E : Int64 → Mm → Prop) (y2 : Int64) (x4 : Int32) (M : Mm), lp_X5_total_5 a0 a1 K E n y2 x4 M → kd_ M a0 = 7 → kd_ M a1 = 3 → (∀ (v2 : Int64) (M' : Mm), E v2 M' → Nk_ M M' → V_ p l e rmX5_total s m args below meth c 5 D M0 Q 36 [(2, .long v2)] [] M' 0 0) → V_ p l e rmX5_total s m args below meth c 5 D M0 Q 5 [(0, .ref a0), (1, .ref a1), (2, .long y2), (4, .int x4)] [] M 0 0 := by
  intro n
  induction n with
  | zero =>
    intro E y2 x4 M hw
    exact hw.elim
  | succ n ih =>
    intro E y2 x4 M hw hp0 hp1 kE
    refine r_iload g dX5_total_5 3 rfl ?_
    refine r_aload_n g dX5_total_7 rfl 0 rfl ?_
    refine r_gt (C := RX5) (T := TX5) (N := 7) g (ci := 6) rfl tc_X5 hp0 1 (by decide) tw_311 (fun _ h => h) rfl dX5_total_8 ?_
    refine r_icmp_ge (tgt := 36) g dX5_total_11 (by decide) (fun hc1 => ?_) (fun hc1 => ?_)
    · have hw := hw.1 hc1
      exact V_.sub (kE y2 _ hw (Nk_.rf _)) [2] rfl
    · have hw := hw.2 hc1
      refine r_lload_n g dX5_total_14 rfl 2 rfl ?_
      refine r_aload_n g dX5_total_15 rfl 1 rfl ?_
      obtain ⟨hk2, hw⟩ := hw
      refine r_gtR (C := RX1) (T := TX1) (N := 5) g (ci := 2) rfl tc_X1 hp1 0 (by decide) tw_439 (fun _ h => h) rfl (k_ne hk2 (by decide)) dX5_total_16 ?_
      refine r_aload_n g dX5_total_19 rfl 0 rfl ?_
      obtain ⟨hk3, hw⟩ := hw
      refine r_gtR (C := RX5) (T := TX5) (N := 7) g (ci := 6) rfl tc_X5 hp0 0 (by decide) tw_309 (fun _ h => h) rfl (k_ne hk3 (by decide)) dX5_total_20 ?_
      refine r_iload g dX5_total_23 3 rfl ?_
      obtain ⟨hi4, hw⟩ := hw
      refine r_iald g (Or.inl hk3) hi4 dX5_total_25 ?_
      obtain ⟨hi5, hw⟩ := hw
      refine r_iald g (Or.inl hk2) hi5 dX5_total_26 ?_
      refine r_i2l g dX5_total_27 ?_
      refine r_ladd g dX5_total_28 ?_
      refine r_lstore_n (L' := [(2, .long (y2 + ((it_ M (rf_ M a1 0) (ix_ (it_ M (rf_ M a0 0) (ix_ x4)))).toInt64))), (0, .ref a0), (1, .ref a1), (4, .int x4)]) g dX5_total_29 rfl (by decide) rfl ?_
      refine r_iinc (v := x4 + (1 : Int32)) (L' := [(4, .int (x4 + (1 : Int32))), (2, .long (y2 + ((it_ M (rf_ M a1 0) (ix_ (it_ M (rf_ M a0 0) (ix_ x4)))).toInt64))), (0, .ref a0), (1, .ref a1)]) g dX5_total_30 3 rfl rfl (by decide) rfl ?_
      refine r_goto (tgt := 5) g dX5_total_33 (by decide) ?_
      exact V_.sub (ih E (y2 + ((it_ M (rf_ M a1 0) (ix_ (it_ M (rf_ M a0 0) (ix_ x4)))).toInt64)) (x4 + (1 : Int32)) _ hw hp0 hp1 (fun v2 M9 hE9 hN9 => kE v2 M9 hE9 (Nk_.tr (Nk_.rf _) hN9))) [2, 3, 1, 0] rfl
set_option maxHeartbeats 4000000 in
set_option maxRecDepth 100000 in
theorem mt_X5_total {l : Launch} {D : Dd_} {M : Mm} {a0 : Nat} {a1 : Nat} {K : Mm → Int64 → Prop} (hw : wp_X5_total a0 a1 M K) (sz : Nat) : Met l yX5_total (Cond.code yX5_total cX5_total 5 (some .long) :: tbG_) rmX5_total (cPc_ D M sz [.ref a0, .ref a1]) (va_Ql (fun r M' => K M' r) (cB_ D M sz) (Aw_ M sz)) 0 0 (Aw_ M sz) := by
  refine ofV (by decide) (Nat.le_of_ble_eq_true rfl) ?_
  intro p e s m below meth c g hr hin hsz
  subst hsz
  obtain ⟨hp0, hp1, hw⟩ := hw
  refine r_lconst (v := 0) g dX5_total_0 (by decide) ?_
  refine r_lstore_n (L' := [(2, .long (0 : Int64)), (0, .ref a0), (1, .ref a1)]) g dX5_total_1 rfl (by decide) rfl ?_
  refine r_iconst (v := 0) g dX5_total_2 (by decide) ?_
  refine r_istore (L' := [(4, .int (0 : Int32)), (2, .long (0 : Int64)), (0, .ref a0), (1, .ref a1)]) g dX5_total_3 (by decide) rfl ?_
  obtain ⟨n8, hw⟩ := hw
  refine V_.sub (lo_X5_total_5 g hr rfl n8 _ (0 : Int64) (0 : Int32) _ hw hp0 hp1 (fun yv6 M7 hE hN9 => ?_)) [2, 3, 1, 0] rfl
  have hw := hE hN9
  have hT10 := Nk_.tr (Nk_.rf _) hN9
  refine r_lload_n g dX5_total_36 rfl 0 rfl ?_
  exact r_lret g hr (Nat.le_of_ble_eq_true rfl) (Nat.le_of_ble_eq_true rfl) rfl dX5_total_37 hw
def rmX5_arrangeGroups : Room := { frames := 2, cells := 0, slots := 0, locals := 89 }
theorem hy_X5_arrangeGroups : yX5_arrangeGroups.cls ≠ "java/lang/invoke/MethodHandle" ∧ yX5_arrangeGroups.cls ≠ "java/lang/invoke/VarHandle" ∧ (parseMethodDescriptor yX5_arrangeGroups.desc).map (fun d => d.parameters.length) = some 2 := by decide +kernel
def lp_X5_arrangeGroups_39 (a0 : Nat) (a1 : Nat) (K : Mm → Prop) (E : Mm → Prop) : Nat → Int32 → Mm → Prop
  | 0, _, _ => False
  | n + 1, x3, M => (((it_ M a0 1) ≤ x3 → E  M) ∧ (¬ (it_ M a0 1) ≤ x3 → ((x3 = 0 → (kd_ M (rf_ M a0 6) = 20 ∧ (vp_in (it_ M a0 2) (ln_ M (rf_ M a0 6)) ∧ (∀ M21, M21 = sI_ M (rf_ M a0 6) (ix_ (it_ M a0 2)) x3 → (∀ M22, M22 = sI_ M21 a0 2 ((it_ M21 a0 2) + (1 : Int32)) → lp_X5_arrangeGroups_39 a0 a1 K E n (x3 + (1 : Int32)) M22))))) ∧ (¬ x3 = 0 → (kd_ M (rf_ M a0 5) = 20 ∧ (vp_in (x3 - (1 : Int32)) (ln_ M (rf_ M a0 5)) ∧ (vp_in x3 (ln_ M (rf_ M a0 5)) ∧ (wp_X1_isSame a1 (it_ M (rf_ M a0 5) (ix_ (x3 - (1 : Int32)))) (it_ M (rf_ M a0 5) (ix_ x3)) M (fun M26 r27 => Nk_ M M26 → bz_ r27 → ((r27 = 0 → (kd_ M26 (rf_ M26 a0 6) = 20 ∧ (vp_in (it_ M26 a0 2) (ln_ M26 (rf_ M26 a0 6)) ∧ (∀ M37, M37 = sI_ M26 (rf_ M26 a0 6) (ix_ (it_ M26 a0 2)) x3 → (∀ M38, M38 = sI_ M37 a0 2 ((it_ M37 a0 2) + (1 : Int32)) → lp_X5_arrangeGroups_39 a0 a1 K E n (x3 + (1 : Int32)) M38))))) ∧ (¬ r27 = 0 → lp_X5_arrangeGroups_39 a0 a1 K E n (x3 + (1 : Int32)) M26)))))))))))
def wp_X5_arrangeGroups (a0 : Nat) (a1 : Nat) (a2 : Nat) (M : Mm) (K : Mm → Prop) : Prop := kd_ M a0 = 7 ∧ kd_ M a1 = 3 ∧ kd_ M a2 = 9 ∧ (kd_ M (rf_ M a0 0) = 20 ∧ (kd_ M (rf_ M a0 5) = 20 ∧ (¬ (0 : Int32) < 0 ∧ ¬ (0 : Int32) < 0 ∧ ¬ (it_ M a0 1) < 0 ∧ ix_ (0 : Int32) + ix_ (it_ M a0 1) ≤ ln_ M (rf_ M a0 0) ∧ ix_ (0 : Int32) + ix_ (it_ M a0 1) ≤ ln_ M (rf_ M a0 5) ∧ (∀ M3, M3 = aI_ M (rf_ M a0 5) (va_cpy (it_ M (rf_ M a0 0)) (it_ M (rf_ M a0 5)) (ix_ (0 : Int32)) (ix_ (0 : Int32)) (ix_ (it_ M a0 1))) → (wp_X7_arrange a2 (rf_ M a0 5) (it_ M3 a0 1) a1 (0 : Int32) (0 : Int32) M3 (fun M9 => Nk_ M3 M9 → (∀ M16, M16 = sI_ M9 a0 2 (0 : Int32) → (∃ n40 : Nat, lp_X5_arrangeGroups_39 a0 a1 K (fun  M39 => Nk_ M16 M39 → (kd_ M39 (rf_ M39 a0 6) = 20 ∧ (vp_in (it_ M39 a0 2) (ln_ M39 (rf_ M39 a0 6)) ∧ (∀ M46, M46 = sI_ M39 (rf_ M39 a0 6) (ix_ (it_ M39 a0 2)) (it_ M39 a0 1) → K M46)))) n40 (0 : Int32) M16))))))))
set_option maxHeartbeats 4000000 in
set_option maxRecDepth 100000 in
theorem lo_X5_arrangeGroups_39 {p : Program} {l : Launch} {e : Env} {s : State} {m : MethodId} {args : Array Value} {below : List Frame} {meth : Method} {c : Code} {D : Dd_} {M0 : Mm} {Q : State → Prop} {K : Mm → Prop} (g : G_ p s m args meth c cX5_arrangeGroups 4 RX5 D M0) (hr : meth.sig.returnType = none) (hQ : Q = MQ below (va_Qv (fun M' => K M') (cB_ D M0 s.heap.size) (Aw_ M0 s.heap.size)) args s 0 0 (Aw_ M0 s.heap.size)) {a0 : Nat} {a1 : Nat} : ∀ (n : Nat) (E : Mm → Prop) (x3 : Int32) (M : Mm), lp_X5_arrangeGroups_39 a0 a1 K E n x3 M → kd_ M a0 = 7 → kd_ M a1 = 3 → (∀  (M' : Mm), E  M' → Nk_ M M' → V_ p l e rmX5_arrangeGroups s m args below meth c 4 D M0 Q 98 [(0, .ref a0)] [] M' 0 0) → V_ p l e rmX5_arrangeGroups s m args below meth c 4 D M0 Q 39 [(0, .ref a0), (1, .ref a1), (3, .int x3)] [] M 0 0 := by
  intro n
  induction n with
  | zero =>
    intro E x3 M hw
    exact hw.elim
  | succ n ih =>
    intro E x3 M hw hp0 hp1 kE
    refine r_iload_n g dX5_arrangeGroups_39 rfl 2 rfl ?_
    refine r_aload_n g dX5_arrangeGroups_40 rfl 0 rfl ?_
    refine r_gt (C := RX5) (T := TX5) (N := 7) g (ci := 6) rfl tc_X5 hp0 1 (by decide) tw_311 (fun _ h => h) rfl dX5_arrangeGroups_41 ?_
    refine r_icmp_ge (tgt := 98) g dX5_arrangeGroups_44 (by decide) (fun hc17 => ?_) (fun hc17 => ?_)
    · have hw := hw.1 hc17
      exact V_.sub (kE  _ hw (Nk_.rf _)) [0] rfl
    · have hw := hw.2 hc17
      refine r_iload_n g dX5_arrangeGroups_47 rfl 2 rfl ?_
      refine r_if_eq (tgt := 72) g dX5_arrangeGroups_48 (by decide) (fun hc18 => ?_) (fun hc18 => ?_)
      · have hw := hw.1 hc18
        refine r_aload_n g dX5_arrangeGroups_72 rfl 0 rfl ?_
        obtain ⟨hk19, hw⟩ := hw
        refine r_gtR (C := RX5) (T := TX5) (N := 7) g (ci := 6) rfl tc_X5 hp0 6 (by decide) tw_318 (fun _ h => h) rfl (k_ne hk19 (by decide)) dX5_arrangeGroups_73 ?_
        refine r_aload_n g dX5_arrangeGroups_76 rfl 0 rfl ?_
        refine r_gt (C := RX5) (T := TX5) (N := 7) g (ci := 6) rfl tc_X5 hp0 2 (by decide) tw_313 (fun _ h => h) rfl dX5_arrangeGroups_77 ?_
        refine r_iload_n g dX5_arrangeGroups_80 rfl 2 rfl ?_
        obtain ⟨hi20, hw⟩ := hw
        refine r_iast g hk19 hi20 dX5_arrangeGroups_81 ?_
        have hw := hw _ rfl
        refine r_aload_n g dX5_arrangeGroups_82 rfl 0 rfl ?_
        refine r_dup g dX5_arrangeGroups_83 rfl ?_
        refine r_gt (C := RX5) (T := TX5) (N := 7) g (ci := 6) rfl tc_X5 hp0 2 (by decide) tw_313 (fun _ h => h) rfl dX5_arrangeGroups_84 ?_
        refine r_iconst (v := 1) g dX5_arrangeGroups_87 (by decide) ?_
        refine r_iadd g dX5_arrangeGroups_88 ?_
        refine r_ptI (C := RX5) (T := TX5) (N := 7) g (ci := 6) rfl tc_X5 tyX5 tyX5_ok nmX5 hp0 2 (by decide) tw_313 (fun _ h => h) rfl rfl rfl rfl dX5_arrangeGroups_89 ?_
        have hw := hw _ rfl
        refine r_iinc (v := x3 + (1 : Int32)) (L' := [(3, .int (x3 + (1 : Int32))), (0, .ref a0), (1, .ref a1)]) g dX5_arrangeGroups_92 2 rfl rfl (by decide) rfl ?_
        refine r_goto (tgt := 39) g dX5_arrangeGroups_95 (by decide) ?_
        exact V_.sub (ih E (x3 + (1 : Int32)) _ hw hp0 hp1 (fun  M9 hE9 hN9 => kE  M9 hE9 (Nk_.tr (Nk_.rf _) hN9))) [1, 2, 0] rfl
      · have hw := hw.2 hc18
        refine r_aload_n g dX5_arrangeGroups_51 rfl 1 rfl ?_
        refine r_aload_n g dX5_arrangeGroups_52 rfl 0 rfl ?_
        obtain ⟨hk23, hw⟩ := hw
        refine r_gtR (C := RX5) (T := TX5) (N := 7) g (ci := 6) rfl tc_X5 hp0 5 (by decide) tw_317 (fun _ h => h) rfl (k_ne hk23 (by decide)) dX5_arrangeGroups_53 ?_
        refine r_iload_n g dX5_arrangeGroups_56 rfl 2 rfl ?_
        refine r_iconst (v := 1) g dX5_arrangeGroups_57 (by decide) ?_
        refine r_isub g dX5_arrangeGroups_58 ?_
        obtain ⟨hi24, hw⟩ := hw
        refine r_iald g (Or.inl hk23) hi24 dX5_arrangeGroups_59 ?_
        refine r_aload_n g dX5_arrangeGroups_60 rfl 0 rfl ?_
        refine r_gtR (C := RX5) (T := TX5) (N := 7) g (ci := 6) rfl tc_X5 hp0 5 (by decide) tw_317 (fun _ h => h) rfl (k_ne hk23 (by decide)) dX5_arrangeGroups_61 ?_
        refine r_iload_n g dX5_arrangeGroups_64 rfl 2 rfl ?_
        obtain ⟨hi25, hw⟩ := hw
        refine r_iald g (Or.inl hk23) hi25 dX5_arrangeGroups_65 ?_
        refine r_callVz (As := [.int (it_ M (rf_ M a0 5) (ix_ (x3 - (1 : Int32)))), .int (it_ M (rf_ M a0 5) (ix_ x3))]) g (fun sz => mt_X1_isSame hw sz) tw_1058 tw_789 tw_18 tw_787 tw_788 (ci := 2) (T := TX1) (N := 5) rfl hp1 hy_X1_isSame ⟨rfl, rfl⟩ (Nat.le_of_ble_eq_true rfl) (Nat.le_of_ble_eq_true rfl) (Nat.le_of_ble_eq_true rfl) (Nat.le_of_ble_eq_true rfl) (Nat.le_of_ble_eq_true rfl) rfl dX5_arrangeGroups_66 (fun M26 r27 hK28 hb33 hN29 => ?_)
        have hw := hK28 hN29 hb33
        have hk30 := Nk_.k hN29 hp0 (by decide)
        have hk31 := Nk_.k hN29 hp1 (by decide)
        have hT32 := Nk_.tr (Nk_.rf _) hN29
        refine r_if_ne (tgt := 92) g dX5_arrangeGroups_69 (by decide) (fun hc34 => ?_) (fun hc34 => ?_)
        · have hw := hw.2 hc34
          refine r_iinc (v := x3 + (1 : Int32)) (L' := [(3, .int (x3 + (1 : Int32))), (0, .ref a0), (1, .ref a1)]) g dX5_arrangeGroups_92 2 rfl rfl (by decide) rfl ?_
          refine r_goto (tgt := 39) g dX5_arrangeGroups_95 (by decide) ?_
          exact V_.sub (ih E (x3 + (1 : Int32)) _ hw hk30 hk31 (fun  M9 hE9 hN9 => kE  M9 hE9 (Nk_.tr hT32 hN9))) [1, 2, 0] rfl
        · have hw := hw.1 hc34
          refine r_aload_n g dX5_arrangeGroups_72 rfl 0 rfl ?_
          obtain ⟨hk35, hw⟩ := hw
          refine r_gtR (C := RX5) (T := TX5) (N := 7) g (ci := 6) rfl tc_X5 hk30 6 (by decide) tw_318 (fun _ h => h) rfl (k_ne hk35 (by decide)) dX5_arrangeGroups_73 ?_
          refine r_aload_n g dX5_arrangeGroups_76 rfl 0 rfl ?_
          refine r_gt (C := RX5) (T := TX5) (N := 7) g (ci := 6) rfl tc_X5 hk30 2 (by decide) tw_313 (fun _ h => h) rfl dX5_arrangeGroups_77 ?_
          refine r_iload_n g dX5_arrangeGroups_80 rfl 2 rfl ?_
          obtain ⟨hi36, hw⟩ := hw
          refine r_iast g hk35 hi36 dX5_arrangeGroups_81 ?_
          have hw := hw _ rfl
          refine r_aload_n g dX5_arrangeGroups_82 rfl 0 rfl ?_
          refine r_dup g dX5_arrangeGroups_83 rfl ?_
          refine r_gt (C := RX5) (T := TX5) (N := 7) g (ci := 6) rfl tc_X5 hk30 2 (by decide) tw_313 (fun _ h => h) rfl dX5_arrangeGroups_84 ?_
          refine r_iconst (v := 1) g dX5_arrangeGroups_87 (by decide) ?_
          refine r_iadd g dX5_arrangeGroups_88 ?_
          refine r_ptI (C := RX5) (T := TX5) (N := 7) g (ci := 6) rfl tc_X5 tyX5 tyX5_ok nmX5 hk30 2 (by decide) tw_313 (fun _ h => h) rfl rfl rfl rfl dX5_arrangeGroups_89 ?_
          have hw := hw _ rfl
          refine r_iinc (v := x3 + (1 : Int32)) (L' := [(3, .int (x3 + (1 : Int32))), (0, .ref a0), (1, .ref a1)]) g dX5_arrangeGroups_92 2 rfl rfl (by decide) rfl ?_
          refine r_goto (tgt := 39) g dX5_arrangeGroups_95 (by decide) ?_
          exact V_.sub (ih E (x3 + (1 : Int32)) _ hw hk30 hk31 (fun  M9 hE9 hN9 => kE  M9 hE9 (Nk_.tr hT32 hN9))) [1, 2, 0] rfl
set_option maxHeartbeats 4000000 in
set_option maxRecDepth 100000 in
theorem mt_X5_arrangeGroups {l : Launch} {D : Dd_} {M : Mm} {a0 : Nat} {a1 : Nat} {a2 : Nat} {K : Mm → Prop} (hw : wp_X5_arrangeGroups a0 a1 a2 M K) (sz : Nat) : Met l yX5_arrangeGroups (Cond.code yX5_arrangeGroups cX5_arrangeGroups 4 none :: tbG_) rmX5_arrangeGroups (cPc_ D M sz [.ref a0, .ref a1, .ref a2]) (va_Qv (fun M' => K M') (cB_ D M sz) (Aw_ M sz)) 0 0 (Aw_ M sz) := by
  refine ofV (by decide) (Nat.le_of_ble_eq_true rfl) ?_
  intro p e s m below meth c g hr hin hsz
  subst hsz
  obtain ⟨hp0, hp1, hp2, hw⟩ := hw
  refine r_aload_n g dX5_arrangeGroups_0 rfl 0 rfl ?_
  obtain ⟨hk1, hw⟩ := hw
  refine r_gtR (C := RX5) (T := TX5) (N := 7) g (ci := 6) rfl tc_X5 hp0 0 (by decide) tw_309 (fun _ h => h) rfl (k_ne hk1 (by decide)) dX5_arrangeGroups_1 ?_
  refine r_iconst (v := 0) g dX5_arrangeGroups_4 (by decide) ?_
  refine r_aload_n g dX5_arrangeGroups_5 rfl 0 rfl ?_
  obtain ⟨hk2, hw⟩ := hw
  refine r_gtR (C := RX5) (T := TX5) (N := 7) g (ci := 6) rfl tc_X5 hp0 5 (by decide) tw_317 (fun _ h => h) rfl (k_ne hk2 (by decide)) dX5_arrangeGroups_6 ?_
  refine r_iconst (v := 0) g dX5_arrangeGroups_9 (by decide) ?_
  refine r_aload_n g dX5_arrangeGroups_10 rfl 0 rfl ?_
  refine r_gt (C := RX5) (T := TX5) (N := 7) g (ci := 6) rfl tc_X5 hp0 1 (by decide) tw_311 (fun _ h => h) rfl dX5_arrangeGroups_11 ?_
  obtain ⟨h4, h5, h6, h7, h8, hw⟩ := hw
  refine r_acopyI g tw_1039 tw_524 tw_523 tw_22 hk1 hk2 h4 h5 h6 h7 h8 (Nat.le_of_ble_eq_true rfl) (Nat.le_of_ble_eq_true rfl) dX5_arrangeGroups_14 ?_
  have hw := hw _ rfl
  refine r_aload_n g dX5_arrangeGroups_17 rfl 2 rfl ?_
  refine r_aload_n g dX5_arrangeGroups_18 rfl 0 rfl ?_
  refine r_gtR (C := RX5) (T := TX5) (N := 7) g (ci := 6) rfl tc_X5 hp0 5 (by decide) tw_317 (fun _ h => h) rfl (k_ne hk2 (by decide)) dX5_arrangeGroups_19 ?_
  refine r_aload_n g dX5_arrangeGroups_22 rfl 0 rfl ?_
  refine r_gt (C := RX5) (T := TX5) (N := 7) g (ci := 6) rfl tc_X5 hp0 1 (by decide) tw_311 (fun _ h => h) rfl dX5_arrangeGroups_23 ?_
  refine r_aload_n g dX5_arrangeGroups_26 rfl 1 rfl ?_
  refine r_iconst (v := 0) g dX5_arrangeGroups_27 (by decide) ?_
  refine r_iconst (v := 0) g dX5_arrangeGroups_28 (by decide) ?_
  refine r_callVv (As := [.ref (rf_ M a0 5), .int (it_ (aI_ M (rf_ M a0 5) (va_cpy (it_ M (rf_ M a0 0)) (it_ M (rf_ M a0 5)) (ix_ (0 : Int32)) (ix_ (0 : Int32)) (ix_ (it_ M a0 1)))) a0 1), .ref a1, .int (0 : Int32), .int (0 : Int32)]) g (fun sz => mt_X7_arrange hw sz) tw_1057 tw_769 tw_6 tw_767 tw_768 (ci := 8) (T := TX7) (N := 2) rfl hp2 hy_X7_arrange ⟨rfl, rfl⟩ (Nat.le_of_ble_eq_true rfl) (Nat.le_of_ble_eq_true rfl) (Nat.le_of_ble_eq_true rfl) (Nat.le_of_ble_eq_true rfl) (Nat.le_of_ble_eq_true rfl) rfl dX5_arrangeGroups_29 (fun M9 hK10 hN11 => ?_)
  have hw := hK10 hN11
  have hk12 := Nk_.k hN11 hp0 (by decide)
  have hk13 := Nk_.k hN11 hp1 (by decide)
  have hk14 := Nk_.k hN11 hp2 (by decide)
  have hT15 := Nk_.tr (Nk_.rf _) hN11
  refine r_aload_n g dX5_arrangeGroups_32 rfl 0 rfl ?_
  refine r_iconst (v := 0) g dX5_arrangeGroups_33 (by decide) ?_
  refine r_ptI (C := RX5) (T := TX5) (N := 7) g (ci := 6) rfl tc_X5 tyX5 tyX5_ok nmX5 hk12 2 (by decide) tw_313 (fun _ h => h) rfl rfl rfl rfl dX5_arrangeGroups_34 ?_
  have hw := hw _ rfl
  refine r_iconst (v := 0) g dX5_arrangeGroups_37 (by decide) ?_
  refine r_istore_n (L' := [(3, .int (0 : Int32)), (0, .ref a0), (1, .ref a1), (2, .ref a2)]) g dX5_arrangeGroups_38 rfl (by decide) rfl ?_
  obtain ⟨n40, hw⟩ := hw
  refine V_.sub (lo_X5_arrangeGroups_39 g hr rfl n40 _ (0 : Int32) _ hw hk12 hk13 (fun  M39 hE hN41 => ?_)) [1, 2, 0] rfl
  have hw := hE hN41
  have hk42 := Nk_.k hN41 hk12 (by decide)
  have hT43 := Nk_.tr hT15 hN41
  refine r_aload_n g dX5_arrangeGroups_98 rfl 0 rfl ?_
  obtain ⟨hk44, hw⟩ := hw
  refine r_gtR (C := RX5) (T := TX5) (N := 7) g (ci := 6) rfl tc_X5 hk42 6 (by decide) tw_318 (fun _ h => h) rfl (k_ne hk44 (by decide)) dX5_arrangeGroups_99 ?_
  refine r_aload_n g dX5_arrangeGroups_102 rfl 0 rfl ?_
  refine r_gt (C := RX5) (T := TX5) (N := 7) g (ci := 6) rfl tc_X5 hk42 2 (by decide) tw_313 (fun _ h => h) rfl dX5_arrangeGroups_103 ?_
  refine r_aload_n g dX5_arrangeGroups_106 rfl 0 rfl ?_
  refine r_gt (C := RX5) (T := TX5) (N := 7) g (ci := 6) rfl tc_X5 hk42 1 (by decide) tw_311 (fun _ h => h) rfl dX5_arrangeGroups_107 ?_
  obtain ⟨hi45, hw⟩ := hw
  refine r_iast g hk44 hi45 dX5_arrangeGroups_110 ?_
  have hw := hw _ rfl
  exact r_vret g hr (Nat.le_of_ble_eq_true rfl) (Nat.le_of_ble_eq_true rfl) rfl dX5_arrangeGroups_111 hw
def rmX5_sumOf : Room := { frames := 0, cells := 0, slots := 0, locals := 0 }
theorem hy_X5_sumOf : yX5_sumOf.cls ≠ "java/lang/invoke/MethodHandle" ∧ yX5_sumOf.cls ≠ "java/lang/invoke/VarHandle" ∧ (parseMethodDescriptor yX5_sumOf.desc).map (fun d => d.parameters.length) = some 3 := by decide +kernel
def lp_X5_sumOf_6 (a0 : Nat) (a1 : Nat) (x3 : Int32) (K : Mm → Int32 → Prop) (E : Int32 → Mm → Prop) : Nat → Int32 → Int32 → Mm → Prop
  | 0, _, _, _ => False
  | n + 1, x4, x5, M => ((x3 ≤ x5 → E x4 M) ∧ (¬ x3 ≤ x5 → (kd_ M (rf_ M a1 0) = 20 ∧ (kd_ M (rf_ M a0 5) = 20 ∧ (vp_in x5 (ln_ M (rf_ M a0 5)) ∧ (vp_in (it_ M (rf_ M a0 5) (ix_ x5)) (ln_ M (rf_ M a1 0)) ∧ lp_X5_sumOf_6 a0 a1 x3 K E n (x4 + (it_ M (rf_ M a1 0) (ix_ (it_ M (rf_ M a0 5) (ix_ x5))))) (x5 + (1 : Int32)) M))))))
def wp_X5_sumOf (a0 : Nat) (a1 : Nat) (x2 : Int32) (x3 : Int32) (M : Mm) (K : Mm → Int32 → Prop) : Prop := kd_ M a0 = 7 ∧ kd_ M a1 = 3 ∧ (∃ n8 : Nat, lp_X5_sumOf_6 a0 a1 x3 K (fun xv6 M7 => Nk_ M M7 → (K M7 xv6)) n8 (0 : Int32) x2 M)
set_option maxHeartbeats 4000000 in
set_option maxRecDepth 100000 in
theorem lo_X5_sumOf_6 {p : Program} {l : Launch} {e : Env} {s : State} {m : MethodId} {args : Array Value} {below : List Frame} {meth : Method} {c : Code} {D : Dd_} {M0 : Mm} {Q : State → Prop} {K : Mm → Int32 → Prop} (g : G_ p s m args meth c cX5_sumOf 6 RX5 D M0) (hr : meth.sig.returnType = some .int) (hQ : Q = MQ below (va_Qi (fun r M' => K M' r) (cB_ D M0 s.heap.size) (Aw_ M0 s.heap.size)) args s 0 0 (Aw_ M0 s.heap.size)) {a0 : Nat} {a1 : Nat} {x3 : Int32} : ∀ (n : Nat) (E : Int32 → Mm → Prop) (x4 : Int32) (x5 : Int32) (M : Mm), lp_X5_sumOf_6 a0 a1 x3 K E n x4 x5 M → kd_ M a0 = 7 → kd_ M a1 = 3 → (∀ (v4 : Int32) (M' : Mm), E v4 M' → Nk_ M M' → V_ p l e rmX5_sumOf s m args below meth c 6 D M0 Q 35 [(4, .int v4)] [] M' 0 0) → V_ p l e rmX5_sumOf s m args below meth c 6 D M0 Q 6 [(0, .ref a0), (1, .ref a1), (3, .int x3), (4, .int x4), (5, .int x5)] [] M 0 0 := by
  intro n
  induction n with
  | zero =>
    intro E x4 x5 M hw
    exact hw.elim
  | succ n ih =>
    intro E x4 x5 M hw hp0 hp1 kE
    refine r_iload g dX5_sumOf_6 4 rfl ?_
    refine r_iload_n g dX5_sumOf_8 rfl 2 rfl ?_
    refine r_icmp_ge (tgt := 35) g dX5_sumOf_9 (by decide) (fun hc1 => ?_) (fun hc1 => ?_)
    · have hw := hw.1 hc1
      exact V_.sub (kE x4 _ hw (Nk_.rf _)) [3] rfl
    · have hw := hw.2 hc1
      refine r_iload g dX5_sumOf_12 3 rfl ?_
      refine r_aload_n g dX5_sumOf_14 rfl 1 rfl ?_
      obtain ⟨hk2, hw⟩ := hw
      refine r_gtR (C := RX1) (T := TX1) (N := 5) g (ci := 2) rfl tc_X1 hp1 0 (by decide) tw_439 (fun _ h => h) rfl (k_ne hk2 (by decide)) dX5_sumOf_15 ?_
      refine r_aload_n g dX5_sumOf_18 rfl 0 rfl ?_
      obtain ⟨hk3, hw⟩ := hw
      refine r_gtR (C := RX5) (T := TX5) (N := 7) g (ci := 6) rfl tc_X5 hp0 5 (by decide) tw_317 (fun _ h => h) rfl (k_ne hk3 (by decide)) dX5_sumOf_19 ?_
      refine r_iload g dX5_sumOf_22 4 rfl ?_
      obtain ⟨hi4, hw⟩ := hw
      refine r_iald g (Or.inl hk3) hi4 dX5_sumOf_24 ?_
      obtain ⟨hi5, hw⟩ := hw
      refine r_iald g (Or.inl hk2) hi5 dX5_sumOf_25 ?_
      refine r_iadd g dX5_sumOf_26 ?_
      refine r_istore (L' := [(4, .int (x4 + (it_ M (rf_ M a1 0) (ix_ (it_ M (rf_ M a0 5) (ix_ x5)))))), (0, .ref a0), (1, .ref a1), (3, .int x3), (5, .int x5)]) g dX5_sumOf_27 (by decide) rfl ?_
      refine r_iinc (v := x5 + (1 : Int32)) (L' := [(5, .int (x5 + (1 : Int32))), (4, .int (x4 + (it_ M (rf_ M a1 0) (ix_ (it_ M (rf_ M a0 5) (ix_ x5)))))), (0, .ref a0), (1, .ref a1), (3, .int x3)]) g dX5_sumOf_29 4 rfl rfl (by decide) rfl ?_
      refine r_goto (tgt := 6) g dX5_sumOf_32 (by decide) ?_
      exact V_.sub (ih E (x4 + (it_ M (rf_ M a1 0) (ix_ (it_ M (rf_ M a0 5) (ix_ x5))))) (x5 + (1 : Int32)) _ hw hp0 hp1 (fun v4 M9 hE9 hN9 => kE v4 M9 hE9 (Nk_.tr (Nk_.rf _) hN9))) [2, 3, 4, 1, 0] rfl
set_option maxHeartbeats 4000000 in
set_option maxRecDepth 100000 in
theorem mt_X5_sumOf {l : Launch} {D : Dd_} {M : Mm} {a0 : Nat} {a1 : Nat} {x2 : Int32} {x3 : Int32} {K : Mm → Int32 → Prop} (hw : wp_X5_sumOf a0 a1 x2 x3 M K) (sz : Nat) : Met l yX5_sumOf (Cond.code yX5_sumOf cX5_sumOf 6 (some .int) :: tbG_) rmX5_sumOf (cPc_ D M sz [.ref a0, .ref a1, .int x2, .int x3]) (va_Qi (fun r M' => K M' r) (cB_ D M sz) (Aw_ M sz)) 0 0 (Aw_ M sz) := by
  refine ofV (by decide) (Nat.le_of_ble_eq_true rfl) ?_
  intro p e s m below meth c g hr hin hsz
  subst hsz
  obtain ⟨hp0, hp1, hw⟩ := hw
  refine r_iconst (v := 0) g dX5_sumOf_0 (by decide) ?_
  refine r_istore (L' := [(4, .int (0 : Int32)), (0, .ref a0), (1, .ref a1), (2, .int x2), (3, .int x3)]) g dX5_sumOf_1 (by decide) rfl ?_
  refine r_iload_n g dX5_sumOf_3 rfl 3 rfl ?_
  refine r_istore (L' := [(5, .int x2), (4, .int (0 : Int32)), (0, .ref a0), (1, .ref a1), (2, .int x2), (3, .int x3)]) g dX5_sumOf_4 (by decide) rfl ?_
  obtain ⟨n8, hw⟩ := hw
  refine V_.sub (lo_X5_sumOf_6 g hr rfl n8 _ (0 : Int32) x2 _ hw hp0 hp1 (fun xv6 M7 hE hN9 => ?_)) [2, 3, 5, 1, 0] rfl
  have hw := hE hN9
  have hT10 := Nk_.tr (Nk_.rf _) hN9
  refine r_iload g dX5_sumOf_35 0 rfl ?_
  exact r_iret g hr (Nat.le_of_ble_eq_true rfl) (Nat.le_of_ble_eq_true rfl) rfl dX5_sumOf_37 hw
def rmX5_endOf : Room := { frames := 0, cells := 0, slots := 0, locals := 0 }
theorem hy_X5_endOf : yX5_endOf.cls ≠ "java/lang/invoke/MethodHandle" ∧ yX5_endOf.cls ≠ "java/lang/invoke/VarHandle" ∧ (parseMethodDescriptor yX5_endOf.desc).map (fun d => d.parameters.length) = some 4 := by decide +kernel
def lp_X5_endOf_9 (a0 : Nat) (a1 : Nat) (x3 : Int32) (x4 : Int32) (K : Mm → Int32 → Prop) (E : Int32 → Mm → Prop) : Nat → Int32 → Int32 → Int32 → Mm → Prop
  | 0, _, _, _, _ => False
  | n + 1, x5, x6, x7, M => ((x3 ≤ x7 → E x6 M) ∧ (¬ x3 ≤ x7 → (kd_ M (rf_ M a0 5) = 20 ∧ (vp_in x7 (ln_ M (rf_ M a0 5)) ∧ (kd_ M (rf_ M a1 1) = 21 ∧ (vp_in (it_ M (rf_ M a0 5) (ix_ x7)) (ln_ M (rf_ M a1 1)) ∧ (bz_ (it_ M (rf_ M a1 1) (ix_ (it_ M (rf_ M a0 5) (ix_ x7)))) → (((it_ M (rf_ M a1 1) (ix_ (it_ M (rf_ M a0 5) (ix_ x7)))) = 0 → (kd_ M (rf_ M a1 0) = 20 ∧ (vp_in (it_ M (rf_ M a0 5) (ix_ x7)) (ln_ M (rf_ M a1 0)) ∧ ((x4 = 0 → (((it_ M (rf_ M a1 0) (ix_ (it_ M (rf_ M a0 5) (ix_ x7)))) ≤ x6 → ((x5 = 0 → lp_X5_endOf_9 a0 a1 x3 x4 K E n (1 : Int32) (it_ M (rf_ M a1 0) (ix_ (it_ M (rf_ M a0 5) (ix_ x7)))) (x7 + (1 : Int32)) M) ∧ (¬ x5 = 0 → lp_X5_endOf_9 a0 a1 x3 x4 K E n (1 : Int32) x6 (x7 + (1 : Int32)) M))) ∧ (¬ (it_ M (rf_ M a1 0) (ix_ (it_ M (rf_ M a0 5) (ix_ x7)))) ≤ x6 → ((x5 = 0 → lp_X5_endOf_9 a0 a1 x3 x4 K E n (1 : Int32) (it_ M (rf_ M a1 0) (ix_ (it_ M (rf_ M a0 5) (ix_ x7)))) (x7 + (1 : Int32)) M) ∧ (¬ x5 = 0 → lp_X5_endOf_9 a0 a1 x3 x4 K E n (1 : Int32) (it_ M (rf_ M a1 0) (ix_ (it_ M (rf_ M a0 5) (ix_ x7)))) (x7 + (1 : Int32)) M))))) ∧ (¬ x4 = 0 → ((x6 ≤ (it_ M (rf_ M a1 0) (ix_ (it_ M (rf_ M a0 5) (ix_ x7)))) → ((x5 = 0 → lp_X5_endOf_9 a0 a1 x3 x4 K E n (1 : Int32) (it_ M (rf_ M a1 0) (ix_ (it_ M (rf_ M a0 5) (ix_ x7)))) (x7 + (1 : Int32)) M) ∧ (¬ x5 = 0 → lp_X5_endOf_9 a0 a1 x3 x4 K E n (1 : Int32) x6 (x7 + (1 : Int32)) M))) ∧ (¬ x6 ≤ (it_ M (rf_ M a1 0) (ix_ (it_ M (rf_ M a0 5) (ix_ x7)))) → ((x5 = 0 → lp_X5_endOf_9 a0 a1 x3 x4 K E n (1 : Int32) (it_ M (rf_ M a1 0) (ix_ (it_ M (rf_ M a0 5) (ix_ x7)))) (x7 + (1 : Int32)) M) ∧ (¬ x5 = 0 → lp_X5_endOf_9 a0 a1 x3 x4 K E n (1 : Int32) (it_ M (rf_ M a1 0) (ix_ (it_ M (rf_ M a0 5) (ix_ x7)))) (x7 + (1 : Int32)) M))))))))) ∧ (¬ (it_ M (rf_ M a1 1) (ix_ (it_ M (rf_ M a0 5) (ix_ x7)))) = 0 → lp_X5_endOf_9 a0 a1 x3 x4 K E n x5 x6 (x7 + (1 : Int32)) M)))))))))
def wp_X5_endOf (a0 : Nat) (a1 : Nat) (x2 : Int32) (x3 : Int32) (x4 : Int32) (M : Mm) (K : Mm → Int32 → Prop) : Prop := kd_ M a0 = 7 ∧ kd_ M a1 = 3 ∧ (∃ n19 : Nat, lp_X5_endOf_9 a0 a1 x3 x4 K (fun xv17 M18 => Nk_ M M18 → (K M18 xv17)) n19 (0 : Int32) (0 : Int32) x2 M)
set_option maxHeartbeats 4000000 in
set_option maxRecDepth 100000 in
theorem lo_X5_endOf_9 {p : Program} {l : Launch} {e : Env} {s : State} {m : MethodId} {args : Array Value} {below : List Frame} {meth : Method} {c : Code} {D : Dd_} {M0 : Mm} {Q : State → Prop} {K : Mm → Int32 → Prop} (g : G_ p s m args meth c cX5_endOf 11 RX5 D M0) (hr : meth.sig.returnType = some .int) (hQ : Q = MQ below (va_Qi (fun r M' => K M' r) (cB_ D M0 s.heap.size) (Aw_ M0 s.heap.size)) args s 0 0 (Aw_ M0 s.heap.size)) {a0 : Nat} {a1 : Nat} {x3 : Int32} {x4 : Int32} : ∀ (n : Nat) (E : Int32 → Mm → Prop) (x5 : Int32) (x6 : Int32) (x7 : Int32) (M : Mm), lp_X5_endOf_9 a0 a1 x3 x4 K E n x5 x6 x7 M → kd_ M a0 = 7 → kd_ M a1 = 3 → (∀ (v6 : Int32) (M' : Mm), E v6 M' → Nk_ M M' → V_ p l e rmX5_endOf s m args below meth c 11 D M0 Q 105 [(6, .int v6)] [] M' 0 0) → V_ p l e rmX5_endOf s m args below meth c 11 D M0 Q 9 [(0, .ref a0), (1, .ref a1), (3, .int x3), (4, .int x4), (5, .int x5), (6, .int x6), (7, .int x7)] [] M 0 0 := by
  intro n
  induction n with
  | zero =>
    intro E x5 x6 x7 M hw
    exact hw.elim
  | succ n ih =>
    intro E x5 x6 x7 M hw hp0 hp1 kE
    refine r_iload g dX5_endOf_9 6 rfl ?_
    refine r_iload_n g dX5_endOf_11 rfl 2 rfl ?_
    refine r_icmp_ge (tgt := 105) g dX5_endOf_12 (by decide) (fun hc1 => ?_) (fun hc1 => ?_)
    · have hw := hw.1 hc1
      exact V_.sub (kE x6 _ hw (Nk_.rf _)) [5] rfl
    · have hw := hw.2 hc1
      refine r_aload_n g dX5_endOf_15 rfl 0 rfl ?_
      obtain ⟨hk2, hw⟩ := hw
      refine r_gtR (C := RX5) (T := TX5) (N := 7) g (ci := 6) rfl tc_X5 hp0 5 (by decide) tw_317 (fun _ h => h) rfl (k_ne hk2 (by decide)) dX5_endOf_16 ?_
      refine r_iload g dX5_endOf_19 6 rfl ?_
      obtain ⟨hi3, hw⟩ := hw
      refine r_iald g (Or.inl hk2) hi3 dX5_endOf_21 ?_
      refine r_istore (L' := [(8, .int (it_ M (rf_ M a0 5) (ix_ x7))), (0, .ref a0), (1, .ref a1), (3, .int x3), (4, .int x4), (5, .int x5), (6, .int x6), (7, .int x7)]) g dX5_endOf_22 (by decide) rfl ?_
      refine r_aload_n g dX5_endOf_24 rfl 2 rfl ?_
      obtain ⟨hk4, hw⟩ := hw
      refine r_gtR (C := RX1) (T := TX1) (N := 5) g (ci := 2) rfl tc_X1 hp1 1 (by decide) tw_446 (fun _ h => h) rfl (k_ne hk4 (by decide)) dX5_endOf_25 ?_
      refine r_iload g dX5_endOf_28 0 rfl ?_
      obtain ⟨hi5, hw⟩ := hw
      refine r_zald g hk4 hi5 dX5_endOf_30 (fun hb6 => ?_)
      have hw := hw hb6
      refine r_if_ne (tgt := 99) g dX5_endOf_31 (by decide) (fun hc7 => ?_) (fun hc7 => ?_)
      · have hw := hw.2 hc7
        refine r_iinc (v := x7 + (1 : Int32)) (L' := [(7, .int (x7 + (1 : Int32))), (8, .int (it_ M (rf_ M a0 5) (ix_ x7))), (0, .ref a0), (1, .ref a1), (3, .int x3), (4, .int x4), (5, .int x5), (6, .int x6)]) g dX5_endOf_99 7 rfl rfl (by decide) rfl ?_
        refine r_goto (tgt := 9) g dX5_endOf_102 (by decide) ?_
        exact V_.sub (ih E x5 x6 (x7 + (1 : Int32)) _ hw hp0 hp1 (fun v6 M9 hE9 hN9 => kE v6 M9 hE9 (Nk_.tr (Nk_.rf _) hN9))) [2, 3, 4, 5, 6, 7, 0] rfl
      · have hw := hw.1 hc7
        refine r_aload_n g dX5_endOf_34 rfl 2 rfl ?_
        obtain ⟨hk8, hw⟩ := hw
        refine r_gtR (C := RX1) (T := TX1) (N := 5) g (ci := 2) rfl tc_X1 hp1 0 (by decide) tw_439 (fun _ h => h) rfl (k_ne hk8 (by decide)) dX5_endOf_35 ?_
        refine r_iload g dX5_endOf_38 0 rfl ?_
        obtain ⟨hi9, hw⟩ := hw
        refine r_iald g (Or.inl hk8) hi9 dX5_endOf_40 ?_
        refine r_istore (L' := [(9, .int (it_ M (rf_ M a1 0) (ix_ (it_ M (rf_ M a0 5) (ix_ x7))))), (8, .int (it_ M (rf_ M a0 5) (ix_ x7))), (0, .ref a0), (1, .ref a1), (3, .int x3), (4, .int x4), (5, .int x5), (6, .int x6), (7, .int x7)]) g dX5_endOf_41 (by decide) rfl ?_
        refine r_iload g dX5_endOf_43 5 rfl ?_
        refine r_if_eq (tgt := 63) g dX5_endOf_45 (by decide) (fun hc10 => ?_) (fun hc10 => ?_)
        · have hw := hw.1 hc10
          refine r_iload g dX5_endOf_63 0 rfl ?_
          refine r_iload g dX5_endOf_65 7 rfl ?_
          refine r_icmp_le (tgt := 74) g dX5_endOf_67 (by decide) (fun hc11 => ?_) (fun hc11 => ?_)
          · have hw := hw.1 hc11
            refine r_iconst (v := 0) g dX5_endOf_74 (by decide) ?_
            refine r_istore (L' := [(10, .int (0 : Int32)), (9, .int (it_ M (rf_ M a1 0) (ix_ (it_ M (rf_ M a0 5) (ix_ x7))))), (8, .int (it_ M (rf_ M a0 5) (ix_ x7))), (0, .ref a0), (1, .ref a1), (3, .int x3), (4, .int x4), (5, .int x5), (6, .int x6), (7, .int x7)]) g dX5_endOf_75 (by decide) rfl ?_
            refine r_iload g dX5_endOf_77 7 rfl ?_
            refine r_if_eq (tgt := 87) g dX5_endOf_79 (by decide) (fun hc12 => ?_) (fun hc12 => ?_)
            · have hw := hw.1 hc12
              refine r_iload g dX5_endOf_87 1 rfl ?_
              refine r_goto (tgt := 94) g dX5_endOf_89 (by decide) ?_
              refine r_istore (L' := [(6, .int (it_ M (rf_ M a1 0) (ix_ (it_ M (rf_ M a0 5) (ix_ x7))))), (10, .int (0 : Int32)), (9, .int (it_ M (rf_ M a1 0) (ix_ (it_ M (rf_ M a0 5) (ix_ x7))))), (8, .int (it_ M (rf_ M a0 5) (ix_ x7))), (0, .ref a0), (1, .ref a1), (3, .int x3), (4, .int x4), (5, .int x5), (7, .int x7)]) g dX5_endOf_94 (by decide) rfl ?_
              refine r_iconst (v := 1) g dX5_endOf_96 (by decide) ?_
              refine r_istore (L' := [(5, .int (1 : Int32)), (6, .int (it_ M (rf_ M a1 0) (ix_ (it_ M (rf_ M a0 5) (ix_ x7))))), (10, .int (0 : Int32)), (9, .int (it_ M (rf_ M a1 0) (ix_ (it_ M (rf_ M a0 5) (ix_ x7))))), (8, .int (it_ M (rf_ M a0 5) (ix_ x7))), (0, .ref a0), (1, .ref a1), (3, .int x3), (4, .int x4), (7, .int x7)]) g dX5_endOf_97 (by decide) rfl ?_
              refine r_iinc (v := x7 + (1 : Int32)) (L' := [(7, .int (x7 + (1 : Int32))), (5, .int (1 : Int32)), (6, .int (it_ M (rf_ M a1 0) (ix_ (it_ M (rf_ M a0 5) (ix_ x7))))), (10, .int (0 : Int32)), (9, .int (it_ M (rf_ M a1 0) (ix_ (it_ M (rf_ M a0 5) (ix_ x7))))), (8, .int (it_ M (rf_ M a0 5) (ix_ x7))), (0, .ref a0), (1, .ref a1), (3, .int x3), (4, .int x4)]) g dX5_endOf_99 9 rfl rfl (by decide) rfl ?_
              refine r_goto (tgt := 9) g dX5_endOf_102 (by decide) ?_
              exact V_.sub (ih E (1 : Int32) (it_ M (rf_ M a1 0) (ix_ (it_ M (rf_ M a0 5) (ix_ x7)))) (x7 + (1 : Int32)) _ hw hp0 hp1 (fun v6 M9 hE9 hN9 => kE v6 M9 hE9 (Nk_.tr (Nk_.rf _) hN9))) [6, 7, 8, 9, 1, 2, 0] rfl
            · have hw := hw.2 hc12
              refine r_iload g dX5_endOf_82 0 rfl ?_
              refine r_if_eq (tgt := 92) g dX5_endOf_84 (by decide) (fun _ => ?_) (fun h9 => absurd h9 (by decide))
              refine r_iload g dX5_endOf_92 8 rfl ?_
              refine r_istore (L' := [(6, .int x6), (10, .int (0 : Int32)), (9, .int (it_ M (rf_ M a1 0) (ix_ (it_ M (rf_ M a0 5) (ix_ x7))))), (8, .int (it_ M (rf_ M a0 5) (ix_ x7))), (0, .ref a0), (1, .ref a1), (3, .int x3), (4, .int x4), (5, .int x5), (7, .int x7)]) g dX5_endOf_94 (by decide) rfl ?_
              refine r_iconst (v := 1) g dX5_endOf_96 (by decide) ?_
              refine r_istore (L' := [(5, .int (1 : Int32)), (6, .int x6), (10, .int (0 : Int32)), (9, .int (it_ M (rf_ M a1 0) (ix_ (it_ M (rf_ M a0 5) (ix_ x7))))), (8, .int (it_ M (rf_ M a0 5) (ix_ x7))), (0, .ref a0), (1, .ref a1), (3, .int x3), (4, .int x4), (7, .int x7)]) g dX5_endOf_97 (by decide) rfl ?_
              refine r_iinc (v := x7 + (1 : Int32)) (L' := [(7, .int (x7 + (1 : Int32))), (5, .int (1 : Int32)), (6, .int x6), (10, .int (0 : Int32)), (9, .int (it_ M (rf_ M a1 0) (ix_ (it_ M (rf_ M a0 5) (ix_ x7))))), (8, .int (it_ M (rf_ M a0 5) (ix_ x7))), (0, .ref a0), (1, .ref a1), (3, .int x3), (4, .int x4)]) g dX5_endOf_99 9 rfl rfl (by decide) rfl ?_
              refine r_goto (tgt := 9) g dX5_endOf_102 (by decide) ?_
              exact V_.sub (ih E (1 : Int32) x6 (x7 + (1 : Int32)) _ hw hp0 hp1 (fun v6 M9 hE9 hN9 => kE v6 M9 hE9 (Nk_.tr (Nk_.rf _) hN9))) [6, 7, 8, 9, 1, 2, 0] rfl
          · have hw := hw.2 hc11
            refine r_iconst (v := 1) g dX5_endOf_70 (by decide) ?_
            refine r_goto (tgt := 75) g dX5_endOf_71 (by decide) ?_
            refine r_istore (L' := [(10, .int (1 : Int32)), (9, .int (it_ M (rf_ M a1 0) (ix_ (it_ M (rf_ M a0 5) (ix_ x7))))), (8, .int (it_ M (rf_ M a0 5) (ix_ x7))), (0, .ref a0), (1, .ref a1), (3, .int x3), (4, .int x4), (5, .int x5), (6, .int x6), (7, .int x7)]) g dX5_endOf_75 (by decide) rfl ?_
            refine r_iload g dX5_endOf_77 7 rfl ?_
            refine r_if_eq (tgt := 87) g dX5_endOf_79 (by decide) (fun hc13 => ?_) (fun hc13 => ?_)
            · have hw := hw.1 hc13
              refine r_iload g dX5_endOf_87 1 rfl ?_
              refine r_goto (tgt := 94) g dX5_endOf_89 (by decide) ?_
              refine r_istore (L' := [(6, .int (it_ M (rf_ M a1 0) (ix_ (it_ M (rf_ M a0 5) (ix_ x7))))), (10, .int (1 : Int32)), (9, .int (it_ M (rf_ M a1 0) (ix_ (it_ M (rf_ M a0 5) (ix_ x7))))), (8, .int (it_ M (rf_ M a0 5) (ix_ x7))), (0, .ref a0), (1, .ref a1), (3, .int x3), (4, .int x4), (5, .int x5), (7, .int x7)]) g dX5_endOf_94 (by decide) rfl ?_
              refine r_iconst (v := 1) g dX5_endOf_96 (by decide) ?_
              refine r_istore (L' := [(5, .int (1 : Int32)), (6, .int (it_ M (rf_ M a1 0) (ix_ (it_ M (rf_ M a0 5) (ix_ x7))))), (10, .int (1 : Int32)), (9, .int (it_ M (rf_ M a1 0) (ix_ (it_ M (rf_ M a0 5) (ix_ x7))))), (8, .int (it_ M (rf_ M a0 5) (ix_ x7))), (0, .ref a0), (1, .ref a1), (3, .int x3), (4, .int x4), (7, .int x7)]) g dX5_endOf_97 (by decide) rfl ?_
              refine r_iinc (v := x7 + (1 : Int32)) (L' := [(7, .int (x7 + (1 : Int32))), (5, .int (1 : Int32)), (6, .int (it_ M (rf_ M a1 0) (ix_ (it_ M (rf_ M a0 5) (ix_ x7))))), (10, .int (1 : Int32)), (9, .int (it_ M (rf_ M a1 0) (ix_ (it_ M (rf_ M a0 5) (ix_ x7))))), (8, .int (it_ M (rf_ M a0 5) (ix_ x7))), (0, .ref a0), (1, .ref a1), (3, .int x3), (4, .int x4)]) g dX5_endOf_99 9 rfl rfl (by decide) rfl ?_
              refine r_goto (tgt := 9) g dX5_endOf_102 (by decide) ?_
              exact V_.sub (ih E (1 : Int32) (it_ M (rf_ M a1 0) (ix_ (it_ M (rf_ M a0 5) (ix_ x7)))) (x7 + (1 : Int32)) _ hw hp0 hp1 (fun v6 M9 hE9 hN9 => kE v6 M9 hE9 (Nk_.tr (Nk_.rf _) hN9))) [6, 7, 8, 9, 1, 2, 0] rfl
            · have hw := hw.2 hc13
              refine r_iload g dX5_endOf_82 0 rfl ?_
              refine r_if_eq (tgt := 92) g dX5_endOf_84 (by decide) (fun h9 => absurd h9 (by decide)) (fun _ => ?_)
              refine r_iload g dX5_endOf_87 1 rfl ?_
              refine r_goto (tgt := 94) g dX5_endOf_89 (by decide) ?_
              refine r_istore (L' := [(6, .int (it_ M (rf_ M a1 0) (ix_ (it_ M (rf_ M a0 5) (ix_ x7))))), (10, .int (1 : Int32)), (9, .int (it_ M (rf_ M a1 0) (ix_ (it_ M (rf_ M a0 5) (ix_ x7))))), (8, .int (it_ M (rf_ M a0 5) (ix_ x7))), (0, .ref a0), (1, .ref a1), (3, .int x3), (4, .int x4), (5, .int x5), (7, .int x7)]) g dX5_endOf_94 (by decide) rfl ?_
              refine r_iconst (v := 1) g dX5_endOf_96 (by decide) ?_
              refine r_istore (L' := [(5, .int (1 : Int32)), (6, .int (it_ M (rf_ M a1 0) (ix_ (it_ M (rf_ M a0 5) (ix_ x7))))), (10, .int (1 : Int32)), (9, .int (it_ M (rf_ M a1 0) (ix_ (it_ M (rf_ M a0 5) (ix_ x7))))), (8, .int (it_ M (rf_ M a0 5) (ix_ x7))), (0, .ref a0), (1, .ref a1), (3, .int x3), (4, .int x4), (7, .int x7)]) g dX5_endOf_97 (by decide) rfl ?_
              refine r_iinc (v := x7 + (1 : Int32)) (L' := [(7, .int (x7 + (1 : Int32))), (5, .int (1 : Int32)), (6, .int (it_ M (rf_ M a1 0) (ix_ (it_ M (rf_ M a0 5) (ix_ x7))))), (10, .int (1 : Int32)), (9, .int (it_ M (rf_ M a1 0) (ix_ (it_ M (rf_ M a0 5) (ix_ x7))))), (8, .int (it_ M (rf_ M a0 5) (ix_ x7))), (0, .ref a0), (1, .ref a1), (3, .int x3), (4, .int x4)]) g dX5_endOf_99 9 rfl rfl (by decide) rfl ?_
              refine r_goto (tgt := 9) g dX5_endOf_102 (by decide) ?_
              exact V_.sub (ih E (1 : Int32) (it_ M (rf_ M a1 0) (ix_ (it_ M (rf_ M a0 5) (ix_ x7)))) (x7 + (1 : Int32)) _ hw hp0 hp1 (fun v6 M9 hE9 hN9 => kE v6 M9 hE9 (Nk_.tr (Nk_.rf _) hN9))) [6, 7, 8, 9, 1, 2, 0] rfl
        · have hw := hw.2 hc10
          refine r_iload g dX5_endOf_48 0 rfl ?_
          refine r_iload g dX5_endOf_50 7 rfl ?_
          refine r_icmp_ge (tgt := 59) g dX5_endOf_52 (by decide) (fun hc14 => ?_) (fun hc14 => ?_)
          · have hw := hw.1 hc14
            refine r_iconst (v := 0) g dX5_endOf_59 (by decide) ?_
            refine r_goto (tgt := 75) g dX5_endOf_60 (by decide) ?_
            refine r_istore (L' := [(10, .int (0 : Int32)), (9, .int (it_ M (rf_ M a1 0) (ix_ (it_ M (rf_ M a0 5) (ix_ x7))))), (8, .int (it_ M (rf_ M a0 5) (ix_ x7))), (0, .ref a0), (1, .ref a1), (3, .int x3), (4, .int x4), (5, .int x5), (6, .int x6), (7, .int x7)]) g dX5_endOf_75 (by decide) rfl ?_
            refine r_iload g dX5_endOf_77 7 rfl ?_
            refine r_if_eq (tgt := 87) g dX5_endOf_79 (by decide) (fun hc15 => ?_) (fun hc15 => ?_)
            · have hw := hw.1 hc15
              refine r_iload g dX5_endOf_87 1 rfl ?_
              refine r_goto (tgt := 94) g dX5_endOf_89 (by decide) ?_
              refine r_istore (L' := [(6, .int (it_ M (rf_ M a1 0) (ix_ (it_ M (rf_ M a0 5) (ix_ x7))))), (10, .int (0 : Int32)), (9, .int (it_ M (rf_ M a1 0) (ix_ (it_ M (rf_ M a0 5) (ix_ x7))))), (8, .int (it_ M (rf_ M a0 5) (ix_ x7))), (0, .ref a0), (1, .ref a1), (3, .int x3), (4, .int x4), (5, .int x5), (7, .int x7)]) g dX5_endOf_94 (by decide) rfl ?_
              refine r_iconst (v := 1) g dX5_endOf_96 (by decide) ?_
              refine r_istore (L' := [(5, .int (1 : Int32)), (6, .int (it_ M (rf_ M a1 0) (ix_ (it_ M (rf_ M a0 5) (ix_ x7))))), (10, .int (0 : Int32)), (9, .int (it_ M (rf_ M a1 0) (ix_ (it_ M (rf_ M a0 5) (ix_ x7))))), (8, .int (it_ M (rf_ M a0 5) (ix_ x7))), (0, .ref a0), (1, .ref a1), (3, .int x3), (4, .int x4), (7, .int x7)]) g dX5_endOf_97 (by decide) rfl ?_
              refine r_iinc (v := x7 + (1 : Int32)) (L' := [(7, .int (x7 + (1 : Int32))), (5, .int (1 : Int32)), (6, .int (it_ M (rf_ M a1 0) (ix_ (it_ M (rf_ M a0 5) (ix_ x7))))), (10, .int (0 : Int32)), (9, .int (it_ M (rf_ M a1 0) (ix_ (it_ M (rf_ M a0 5) (ix_ x7))))), (8, .int (it_ M (rf_ M a0 5) (ix_ x7))), (0, .ref a0), (1, .ref a1), (3, .int x3), (4, .int x4)]) g dX5_endOf_99 9 rfl rfl (by decide) rfl ?_
              refine r_goto (tgt := 9) g dX5_endOf_102 (by decide) ?_
              exact V_.sub (ih E (1 : Int32) (it_ M (rf_ M a1 0) (ix_ (it_ M (rf_ M a0 5) (ix_ x7)))) (x7 + (1 : Int32)) _ hw hp0 hp1 (fun v6 M9 hE9 hN9 => kE v6 M9 hE9 (Nk_.tr (Nk_.rf _) hN9))) [6, 7, 8, 9, 1, 2, 0] rfl
            · have hw := hw.2 hc15
              refine r_iload g dX5_endOf_82 0 rfl ?_
              refine r_if_eq (tgt := 92) g dX5_endOf_84 (by decide) (fun _ => ?_) (fun h9 => absurd h9 (by decide))
              refine r_iload g dX5_endOf_92 8 rfl ?_
              refine r_istore (L' := [(6, .int x6), (10, .int (0 : Int32)), (9, .int (it_ M (rf_ M a1 0) (ix_ (it_ M (rf_ M a0 5) (ix_ x7))))), (8, .int (it_ M (rf_ M a0 5) (ix_ x7))), (0, .ref a0), (1, .ref a1), (3, .int x3), (4, .int x4), (5, .int x5), (7, .int x7)]) g dX5_endOf_94 (by decide) rfl ?_
              refine r_iconst (v := 1) g dX5_endOf_96 (by decide) ?_
              refine r_istore (L' := [(5, .int (1 : Int32)), (6, .int x6), (10, .int (0 : Int32)), (9, .int (it_ M (rf_ M a1 0) (ix_ (it_ M (rf_ M a0 5) (ix_ x7))))), (8, .int (it_ M (rf_ M a0 5) (ix_ x7))), (0, .ref a0), (1, .ref a1), (3, .int x3), (4, .int x4), (7, .int x7)]) g dX5_endOf_97 (by decide) rfl ?_
              refine r_iinc (v := x7 + (1 : Int32)) (L' := [(7, .int (x7 + (1 : Int32))), (5, .int (1 : Int32)), (6, .int x6), (10, .int (0 : Int32)), (9, .int (it_ M (rf_ M a1 0) (ix_ (it_ M (rf_ M a0 5) (ix_ x7))))), (8, .int (it_ M (rf_ M a0 5) (ix_ x7))), (0, .ref a0), (1, .ref a1), (3, .int x3), (4, .int x4)]) g dX5_endOf_99 9 rfl rfl (by decide) rfl ?_
              refine r_goto (tgt := 9) g dX5_endOf_102 (by decide) ?_
              exact V_.sub (ih E (1 : Int32) x6 (x7 + (1 : Int32)) _ hw hp0 hp1 (fun v6 M9 hE9 hN9 => kE v6 M9 hE9 (Nk_.tr (Nk_.rf _) hN9))) [6, 7, 8, 9, 1, 2, 0] rfl
          · have hw := hw.2 hc14
            refine r_iconst (v := 1) g dX5_endOf_55 (by decide) ?_
            refine r_goto (tgt := 75) g dX5_endOf_56 (by decide) ?_
            refine r_istore (L' := [(10, .int (1 : Int32)), (9, .int (it_ M (rf_ M a1 0) (ix_ (it_ M (rf_ M a0 5) (ix_ x7))))), (8, .int (it_ M (rf_ M a0 5) (ix_ x7))), (0, .ref a0), (1, .ref a1), (3, .int x3), (4, .int x4), (5, .int x5), (6, .int x6), (7, .int x7)]) g dX5_endOf_75 (by decide) rfl ?_
            refine r_iload g dX5_endOf_77 7 rfl ?_
            refine r_if_eq (tgt := 87) g dX5_endOf_79 (by decide) (fun hc16 => ?_) (fun hc16 => ?_)
            · have hw := hw.1 hc16
              refine r_iload g dX5_endOf_87 1 rfl ?_
              refine r_goto (tgt := 94) g dX5_endOf_89 (by decide) ?_
              refine r_istore (L' := [(6, .int (it_ M (rf_ M a1 0) (ix_ (it_ M (rf_ M a0 5) (ix_ x7))))), (10, .int (1 : Int32)), (9, .int (it_ M (rf_ M a1 0) (ix_ (it_ M (rf_ M a0 5) (ix_ x7))))), (8, .int (it_ M (rf_ M a0 5) (ix_ x7))), (0, .ref a0), (1, .ref a1), (3, .int x3), (4, .int x4), (5, .int x5), (7, .int x7)]) g dX5_endOf_94 (by decide) rfl ?_
              refine r_iconst (v := 1) g dX5_endOf_96 (by decide) ?_
              refine r_istore (L' := [(5, .int (1 : Int32)), (6, .int (it_ M (rf_ M a1 0) (ix_ (it_ M (rf_ M a0 5) (ix_ x7))))), (10, .int (1 : Int32)), (9, .int (it_ M (rf_ M a1 0) (ix_ (it_ M (rf_ M a0 5) (ix_ x7))))), (8, .int (it_ M (rf_ M a0 5) (ix_ x7))), (0, .ref a0), (1, .ref a1), (3, .int x3), (4, .int x4), (7, .int x7)]) g dX5_endOf_97 (by decide) rfl ?_
              refine r_iinc (v := x7 + (1 : Int32)) (L' := [(7, .int (x7 + (1 : Int32))), (5, .int (1 : Int32)), (6, .int (it_ M (rf_ M a1 0) (ix_ (it_ M (rf_ M a0 5) (ix_ x7))))), (10, .int (1 : Int32)), (9, .int (it_ M (rf_ M a1 0) (ix_ (it_ M (rf_ M a0 5) (ix_ x7))))), (8, .int (it_ M (rf_ M a0 5) (ix_ x7))), (0, .ref a0), (1, .ref a1), (3, .int x3), (4, .int x4)]) g dX5_endOf_99 9 rfl rfl (by decide) rfl ?_
              refine r_goto (tgt := 9) g dX5_endOf_102 (by decide) ?_
              exact V_.sub (ih E (1 : Int32) (it_ M (rf_ M a1 0) (ix_ (it_ M (rf_ M a0 5) (ix_ x7)))) (x7 + (1 : Int32)) _ hw hp0 hp1 (fun v6 M9 hE9 hN9 => kE v6 M9 hE9 (Nk_.tr (Nk_.rf _) hN9))) [6, 7, 8, 9, 1, 2, 0] rfl
            · have hw := hw.2 hc16
              refine r_iload g dX5_endOf_82 0 rfl ?_
              refine r_if_eq (tgt := 92) g dX5_endOf_84 (by decide) (fun h9 => absurd h9 (by decide)) (fun _ => ?_)
              refine r_iload g dX5_endOf_87 1 rfl ?_
              refine r_goto (tgt := 94) g dX5_endOf_89 (by decide) ?_
              refine r_istore (L' := [(6, .int (it_ M (rf_ M a1 0) (ix_ (it_ M (rf_ M a0 5) (ix_ x7))))), (10, .int (1 : Int32)), (9, .int (it_ M (rf_ M a1 0) (ix_ (it_ M (rf_ M a0 5) (ix_ x7))))), (8, .int (it_ M (rf_ M a0 5) (ix_ x7))), (0, .ref a0), (1, .ref a1), (3, .int x3), (4, .int x4), (5, .int x5), (7, .int x7)]) g dX5_endOf_94 (by decide) rfl ?_
              refine r_iconst (v := 1) g dX5_endOf_96 (by decide) ?_
              refine r_istore (L' := [(5, .int (1 : Int32)), (6, .int (it_ M (rf_ M a1 0) (ix_ (it_ M (rf_ M a0 5) (ix_ x7))))), (10, .int (1 : Int32)), (9, .int (it_ M (rf_ M a1 0) (ix_ (it_ M (rf_ M a0 5) (ix_ x7))))), (8, .int (it_ M (rf_ M a0 5) (ix_ x7))), (0, .ref a0), (1, .ref a1), (3, .int x3), (4, .int x4), (7, .int x7)]) g dX5_endOf_97 (by decide) rfl ?_
              refine r_iinc (v := x7 + (1 : Int32)) (L' := [(7, .int (x7 + (1 : Int32))), (5, .int (1 : Int32)), (6, .int (it_ M (rf_ M a1 0) (ix_ (it_ M (rf_ M a0 5) (ix_ x7))))), (10, .int (1 : Int32)), (9, .int (it_ M (rf_ M a1 0) (ix_ (it_ M (rf_ M a0 5) (ix_ x7))))), (8, .int (it_ M (rf_ M a0 5) (ix_ x7))), (0, .ref a0), (1, .ref a1), (3, .int x3), (4, .int x4)]) g dX5_endOf_99 9 rfl rfl (by decide) rfl ?_
              refine r_goto (tgt := 9) g dX5_endOf_102 (by decide) ?_
              exact V_.sub (ih E (1 : Int32) (it_ M (rf_ M a1 0) (ix_ (it_ M (rf_ M a0 5) (ix_ x7)))) (x7 + (1 : Int32)) _ hw hp0 hp1 (fun v6 M9 hE9 hN9 => kE v6 M9 hE9 (Nk_.tr (Nk_.rf _) hN9))) [6, 7, 8, 9, 1, 2, 0] rfl
set_option maxHeartbeats 4000000 in
set_option maxRecDepth 100000 in
theorem mt_X5_endOf {l : Launch} {D : Dd_} {M : Mm} {a0 : Nat} {a1 : Nat} {x2 : Int32} {x3 : Int32} {x4 : Int32} {K : Mm → Int32 → Prop} (hw : wp_X5_endOf a0 a1 x2 x3 x4 M K) (sz : Nat) : Met l yX5_endOf (Cond.code yX5_endOf cX5_endOf 11 (some .int) :: tbG_) rmX5_endOf (cPc_ D M sz [.ref a0, .ref a1, .int x2, .int x3, .int x4]) (va_Qi (fun r M' => K M' r) (cB_ D M sz) (Aw_ M sz)) 0 0 (Aw_ M sz) := by
  refine ofV (by decide) (Nat.le_of_ble_eq_true rfl) ?_
  intro p e s m below meth c g hr hin hsz
  subst hsz
  obtain ⟨hp0, hp1, hw⟩ := hw
  refine r_iconst (v := 0) g dX5_endOf_0 (by decide) ?_
  refine r_istore (L' := [(5, .int (0 : Int32)), (0, .ref a0), (1, .ref a1), (2, .int x2), (3, .int x3), (4, .int x4)]) g dX5_endOf_1 (by decide) rfl ?_
  refine r_iconst (v := 0) g dX5_endOf_3 (by decide) ?_
  refine r_istore (L' := [(6, .int (0 : Int32)), (5, .int (0 : Int32)), (0, .ref a0), (1, .ref a1), (2, .int x2), (3, .int x3), (4, .int x4)]) g dX5_endOf_4 (by decide) rfl ?_
  refine r_iload_n g dX5_endOf_6 rfl 4 rfl ?_
  refine r_istore (L' := [(7, .int x2), (6, .int (0 : Int32)), (5, .int (0 : Int32)), (0, .ref a0), (1, .ref a1), (2, .int x2), (3, .int x3), (4, .int x4)]) g dX5_endOf_7 (by decide) rfl ?_
  obtain ⟨n19, hw⟩ := hw
  refine V_.sub (lo_X5_endOf_9 g hr rfl n19 _ (0 : Int32) (0 : Int32) x2 _ hw hp0 hp1 (fun xv17 M18 hE hN20 => ?_)) [3, 4, 6, 7, 2, 1, 0] rfl
  have hw := hE hN20
  have hT21 := Nk_.tr (Nk_.rf _) hN20
  refine r_iload g dX5_endOf_105 0 rfl ?_
  exact r_iret g hr (Nat.le_of_ble_eq_true rfl) (Nat.le_of_ble_eq_true rfl) rfl dX5_endOf_107 hw
def rmX5_accountOf : Room := { frames := 1, cells := 0, slots := 0, locals := 30 }
theorem hy_X5_accountOf : yX5_accountOf.cls ≠ "java/lang/invoke/MethodHandle" ∧ yX5_accountOf.cls ≠ "java/lang/invoke/VarHandle" ∧ (parseMethodDescriptor yX5_accountOf.desc).map (fun d => d.parameters.length) = some 4 := by decide +kernel
def wp_X5_accountOf (a0 : Nat) (x1 : Int32) (a2 : Nat) (a3 : Nat) (x4 : Int32) (M : Mm) (K : Mm → Int32 → Prop) : Prop := kd_ M a0 = 7 ∧ kd_ M a2 = 3 ∧ kd_ M a3 = 3 ∧ (kd_ M (rf_ M a0 6) = 20 ∧ (vp_in x1 (ln_ M (rf_ M a0 6)) ∧ (vp_in (x1 + (1 : Int32)) (ln_ M (rf_ M a0 6)) ∧ ((x4 = 0 → (kd_ M (rf_ M a2 0) = 20 ∧ (kd_ M (rf_ M a0 5) = 20 ∧ (vp_in (it_ M (rf_ M a0 6) (ix_ x1)) (ln_ M (rf_ M a0 5)) ∧ (vp_in (it_ M (rf_ M a0 5) (ix_ (it_ M (rf_ M a0 6) (ix_ x1)))) (ln_ M (rf_ M a2 0)) ∧ (K M (it_ M (rf_ M a2 0) (ix_ (it_ M (rf_ M a0 5) (ix_ (it_ M (rf_ M a0 6) (ix_ x1)))))))))))) ∧ (x4 = 1 → (K M ((it_ M (rf_ M a0 6) (ix_ (x1 + (1 : Int32)))) - (it_ M (rf_ M a0 6) (ix_ x1))))) ∧ (x4 = 2 → (wp_X5_sumOf a0 a3 (it_ M (rf_ M a0 6) (ix_ x1)) (it_ M (rf_ M a0 6) (ix_ (x1 + (1 : Int32)))) M (fun M11 r12 => Nk_ M M11 → (K M11 r12)))) ∧ (¬ x4 = 0 → ¬ x4 = 1 → ¬ x4 = 2 → ((x4 = (3 : Int32) → (wp_X5_endOf a0 a3 (it_ M (rf_ M a0 6) (ix_ x1)) (it_ M (rf_ M a0 6) (ix_ (x1 + (1 : Int32)))) (1 : Int32) M (fun M20 r21 => Nk_ M M20 → (K M20 r21)))) ∧ (¬ x4 = (3 : Int32) → (wp_X5_endOf a0 a3 (it_ M (rf_ M a0 6) (ix_ x1)) (it_ M (rf_ M a0 6) (ix_ (x1 + (1 : Int32)))) (0 : Int32) M (fun M28 r29 => Nk_ M M28 → (K M28 r29))))))))))
set_option maxHeartbeats 4000000 in
set_option maxRecDepth 100000 in
theorem mt_X5_accountOf {l : Launch} {D : Dd_} {M : Mm} {a0 : Nat} {x1 : Int32} {a2 : Nat} {a3 : Nat} {x4 : Int32} {K : Mm → Int32 → Prop} (hw : wp_X5_accountOf a0 x1 a2 a3 x4 M K) (sz : Nat) : Met l yX5_accountOf (Cond.code yX5_accountOf cX5_accountOf 7 (some .int) :: tbG_) rmX5_accountOf (cPc_ D M sz [.ref a0, .int x1, .ref a2, .ref a3, .int x4]) (va_Qi (fun r M' => K M' r) (cB_ D M sz) (Aw_ M sz)) 0 0 (Aw_ M sz) := by
  refine ofV (by decide) (Nat.le_of_ble_eq_true rfl) ?_
  intro p e s m below meth c g hr hin hsz
  subst hsz
  obtain ⟨hp0, hp2, hp3, hw⟩ := hw
  refine r_aload_n g dX5_accountOf_0 rfl 0 rfl ?_
  obtain ⟨hk1, hw⟩ := hw
  refine r_gtR (C := RX5) (T := TX5) (N := 7) g (ci := 6) rfl tc_X5 hp0 6 (by decide) tw_318 (fun _ h => h) rfl (k_ne hk1 (by decide)) dX5_accountOf_1 ?_
  refine r_iload_n g dX5_accountOf_4 rfl 1 rfl ?_
  obtain ⟨hi2, hw⟩ := hw
  refine r_iald g (Or.inl hk1) hi2 dX5_accountOf_5 ?_
  refine r_istore (L' := [(5, .int (it_ M (rf_ M a0 6) (ix_ x1))), (0, .ref a0), (1, .int x1), (2, .ref a2), (3, .ref a3), (4, .int x4)]) g dX5_accountOf_6 (by decide) rfl ?_
  refine r_aload_n g dX5_accountOf_8 rfl 1 rfl ?_
  refine r_gtR (C := RX5) (T := TX5) (N := 7) g (ci := 6) rfl tc_X5 hp0 6 (by decide) tw_318 (fun _ h => h) rfl (k_ne hk1 (by decide)) dX5_accountOf_9 ?_
  refine r_iload_n g dX5_accountOf_12 rfl 2 rfl ?_
  refine r_iconst (v := 1) g dX5_accountOf_13 (by decide) ?_
  refine r_iadd g dX5_accountOf_14 ?_
  obtain ⟨hi3, hw⟩ := hw
  refine r_iald g (Or.inl hk1) hi3 dX5_accountOf_15 ?_
  refine r_istore (L' := [(6, .int (it_ M (rf_ M a0 6) (ix_ (x1 + (1 : Int32))))), (5, .int (it_ M (rf_ M a0 6) (ix_ x1))), (0, .ref a0), (1, .int x1), (2, .ref a2), (3, .ref a3), (4, .int x4)]) g dX5_accountOf_16 (by decide) rfl ?_
  refine r_iload g dX5_accountOf_18 6 rfl ?_
  by_cases hs4 : x4 = 0
  · have hw := hw.1 hs4
    refine r_tsi (v := 0) (j := 0) (tgt := 48) g dX5_accountOf_20 hs4 (by decide) (by decide) (by decide) (by decide) ?_
    refine r_aload_n g dX5_accountOf_48 rfl 4 rfl ?_
    obtain ⟨hk5, hw⟩ := hw
    refine r_gtR (C := RX1) (T := TX1) (N := 5) g (ci := 2) rfl tc_X1 hp2 0 (by decide) tw_439 (fun _ h => h) rfl (k_ne hk5 (by decide)) dX5_accountOf_49 ?_
    refine r_aload_n g dX5_accountOf_52 rfl 2 rfl ?_
    obtain ⟨hk6, hw⟩ := hw
    refine r_gtR (C := RX5) (T := TX5) (N := 7) g (ci := 6) rfl tc_X5 hp0 5 (by decide) tw_317 (fun _ h => h) rfl (k_ne hk6 (by decide)) dX5_accountOf_53 ?_
    refine r_iload g dX5_accountOf_56 1 rfl ?_
    obtain ⟨hi7, hw⟩ := hw
    refine r_iald g (Or.inl hk6) hi7 dX5_accountOf_58 ?_
    obtain ⟨hi8, hw⟩ := hw
    refine r_iald g (Or.inl hk5) hi8 dX5_accountOf_59 ?_
    exact r_iret g hr (Nat.le_of_ble_eq_true rfl) (Nat.le_of_ble_eq_true rfl) rfl dX5_accountOf_60 hw
  · by_cases hs9 : x4 = 1
    · have hw := hw.2.1 hs9
      refine r_tsi (v := 1) (j := 1) (tgt := 61) g dX5_accountOf_20 hs9 (by decide) (by decide) (by decide) (by decide) ?_
      refine r_iload g dX5_accountOf_61 0 rfl ?_
      refine r_iload g dX5_accountOf_63 1 rfl ?_
      refine r_isub g dX5_accountOf_65 ?_
      exact r_iret g hr (Nat.le_of_ble_eq_true rfl) (Nat.le_of_ble_eq_true rfl) rfl dX5_accountOf_66 hw
    · by_cases hs10 : x4 = 2
      · have hw := hw.2.2.1 hs10
        refine r_tsi (v := 2) (j := 2) (tgt := 67) g dX5_accountOf_20 hs10 (by decide) (by decide) (by decide) (by decide) ?_
        refine r_aload_n g dX5_accountOf_67 rfl 2 rfl ?_
        refine r_aload_n g dX5_accountOf_68 rfl 5 rfl ?_
        refine r_iload g dX5_accountOf_69 1 rfl ?_
        refine r_iload g dX5_accountOf_71 0 rfl ?_
        refine r_callVi (As := [.ref a3, .int (it_ M (rf_ M a0 6) (ix_ x1)), .int (it_ M (rf_ M a0 6) (ix_ (x1 + (1 : Int32))))]) g (fun sz => mt_X5_sumOf hw sz) tw_1069 tw_1072 tw_13 tw_1071 tp_29 (ci := 6) (T := TX5) (N := 7) rfl hp0 hy_X5_sumOf ⟨rfl, rfl⟩ (Nat.le_of_ble_eq_true rfl) (Nat.le_of_ble_eq_true rfl) (Nat.le_of_ble_eq_true rfl) (Nat.le_of_ble_eq_true rfl) (Nat.le_of_ble_eq_true rfl) rfl dX5_accountOf_73 (fun M11 r12 hK13 hN14 => ?_)
        have hw := hK13 hN14
        have hk15 := Nk_.k hN14 hp0 (by decide)
        have hk16 := Nk_.k hN14 hp2 (by decide)
        have hk17 := Nk_.k hN14 hp3 (by decide)
        have hT18 := Nk_.tr (Nk_.rf _) hN14
        exact r_iret g hr (Nat.le_of_ble_eq_true rfl) (Nat.le_of_ble_eq_true rfl) rfl dX5_accountOf_76 hw
      · have hw := hw.2.2.2 hs4 hs9 hs10
        refine r_tsd (tgt := 77) g dX5_accountOf_20 (sw_out3_0 hs4 hs9 hs10) (by decide) ?_
        refine r_aload_n g dX5_accountOf_77 rfl 2 rfl ?_
        refine r_aload_n g dX5_accountOf_78 rfl 5 rfl ?_
        refine r_iload g dX5_accountOf_79 1 rfl ?_
        refine r_iload g dX5_accountOf_81 0 rfl ?_
        refine r_iload g dX5_accountOf_83 6 rfl ?_
        refine r_iconst (v := 3) g dX5_accountOf_85 (by decide) ?_
        refine r_icmp_ne (tgt := 93) g dX5_accountOf_86 (by decide) (fun hc19 => ?_) (fun hc19 => ?_)
        · have hw := hw.2 hc19
          refine r_iconst (v := 0) g dX5_accountOf_93 (by decide) ?_
          refine r_callVi (As := [.ref a3, .int (it_ M (rf_ M a0 6) (ix_ x1)), .int (it_ M (rf_ M a0 6) (ix_ (x1 + (1 : Int32)))), .int (0 : Int32)]) g (fun sz => mt_X5_endOf hw sz) tw_1073 tw_1076 tw_13 tw_1075 tp_30 (ci := 6) (T := TX5) (N := 7) rfl hp0 hy_X5_endOf ⟨rfl, rfl⟩ (Nat.le_of_ble_eq_true rfl) (Nat.le_of_ble_eq_true rfl) (Nat.le_of_ble_eq_true rfl) (Nat.le_of_ble_eq_true rfl) (Nat.le_of_ble_eq_true rfl) rfl dX5_accountOf_94 (fun M28 r29 hK30 hN31 => ?_)
          have hw := hK30 hN31
          have hk32 := Nk_.k hN31 hp0 (by decide)
          have hk33 := Nk_.k hN31 hp2 (by decide)
          have hk34 := Nk_.k hN31 hp3 (by decide)
          have hT35 := Nk_.tr (Nk_.rf _) hN31
          exact r_iret g hr (Nat.le_of_ble_eq_true rfl) (Nat.le_of_ble_eq_true rfl) rfl dX5_accountOf_97 hw
        · have hw := hw.1 hc19
          refine r_iconst (v := 1) g dX5_accountOf_89 (by decide) ?_
          refine r_goto (tgt := 94) g dX5_accountOf_90 (by decide) ?_
          refine r_callVi (As := [.ref a3, .int (it_ M (rf_ M a0 6) (ix_ x1)), .int (it_ M (rf_ M a0 6) (ix_ (x1 + (1 : Int32)))), .int (1 : Int32)]) g (fun sz => mt_X5_endOf hw sz) tw_1073 tw_1076 tw_13 tw_1075 tp_30 (ci := 6) (T := TX5) (N := 7) rfl hp0 hy_X5_endOf ⟨rfl, rfl⟩ (Nat.le_of_ble_eq_true rfl) (Nat.le_of_ble_eq_true rfl) (Nat.le_of_ble_eq_true rfl) (Nat.le_of_ble_eq_true rfl) (Nat.le_of_ble_eq_true rfl) rfl dX5_accountOf_94 (fun M20 r21 hK22 hN23 => ?_)
          have hw := hK22 hN23
          have hk24 := Nk_.k hN23 hp0 (by decide)
          have hk25 := Nk_.k hN23 hp2 (by decide)
          have hk26 := Nk_.k hN23 hp3 (by decide)
          have hT27 := Nk_.tr (Nk_.rf _) hN23
          exact r_iret g hr (Nat.le_of_ble_eq_true rfl) (Nat.le_of_ble_eq_true rfl) rfl dX5_accountOf_97 hw
def rmX5_pairCount : Room := { frames := 0, cells := 0, slots := 0, locals := 0 }
theorem hy_X5_pairCount : yX5_pairCount.cls ≠ "java/lang/invoke/MethodHandle" ∧ yX5_pairCount.cls ≠ "java/lang/invoke/VarHandle" ∧ (parseMethodDescriptor yX5_pairCount.desc).map (fun d => d.parameters.length) = some 2 := by decide +kernel
def lp_X5_pairCount_26 (a0 : Nat) (a1 : Nat) (a2 : Nat) (x4 : Int32) (x5 : Int32) (K : Mm → Int32 → Prop) (E : Int32 → Mm → Prop) : Nat → Int32 → Int32 → Mm → Prop
  | 0, _, _, _ => False
  | n + 1, x3, x6, M => (((it_ M a0 4) ≤ x6 → E x3 M) ∧ (¬ (it_ M a0 4) ≤ x6 → (kd_ M (rf_ M a1 1) = 21 ∧ (vp_in x5 (ln_ M (rf_ M a1 1)) ∧ (bz_ (it_ M (rf_ M a1 1) (ix_ x5)) → (((it_ M (rf_ M a1 1) (ix_ x5)) = 0 → (kd_ M (rf_ M a0 3) = 20 ∧ (vp_in x6 (ln_ M (rf_ M a0 3)) ∧ (kd_ M (rf_ M a2 1) = 21 ∧ (vp_in (it_ M (rf_ M a0 3) (ix_ x6)) (ln_ M (rf_ M a2 1)) ∧ (bz_ (it_ M (rf_ M a2 1) (ix_ (it_ M (rf_ M a0 3) (ix_ x6)))) → (((it_ M (rf_ M a2 1) (ix_ (it_ M (rf_ M a0 3) (ix_ x6)))) = 0 → (kd_ M (rf_ M a2 0) = 20 ∧ (vp_in (it_ M (rf_ M a0 3) (ix_ x6)) (ln_ M (rf_ M a2 0)) ∧ (kd_ M (rf_ M a1 0) = 20 ∧ (vp_in x5 (ln_ M (rf_ M a1 0)) ∧ (((it_ M (rf_ M a2 0) (ix_ (it_ M (rf_ M a0 3) (ix_ x6)))) = (it_ M (rf_ M a1 0) (ix_ x5)) → lp_X5_pairCount_26 a0 a1 a2 x4 x5 K E n (x3 + (1 : Int32)) (x6 + (1 : Int32)) M) ∧ (¬ (it_ M (rf_ M a2 0) (ix_ (it_ M (rf_ M a0 3) (ix_ x6)))) = (it_ M (rf_ M a1 0) (ix_ x5)) → lp_X5_pairCount_26 a0 a1 a2 x4 x5 K E n x3 (x6 + (1 : Int32)) M))))))) ∧ (¬ (it_ M (rf_ M a2 1) (ix_ (it_ M (rf_ M a0 3) (ix_ x6)))) = 0 → lp_X5_pairCount_26 a0 a1 a2 x4 x5 K E n x3 (x6 + (1 : Int32)) M)))))))) ∧ (¬ (it_ M (rf_ M a1 1) (ix_ x5)) = 0 → E x3 M)))))))
def lp_X5_pairCount_5 (a0 : Nat) (a1 : Nat) (a2 : Nat) (K : Mm → Int32 → Prop) (E : Int32 → Mm → Prop) : Nat → Int32 → Int32 → Mm → Prop
  | 0, _, _, _ => False
  | n + 1, x3, x4, M => (((it_ M a0 1) ≤ x4 → E x3 M) ∧ (¬ (it_ M a0 1) ≤ x4 → (kd_ M (rf_ M a0 0) = 20 ∧ (vp_in x4 (ln_ M (rf_ M a0 0)) ∧ (∃ n22 : Nat, lp_X5_pairCount_26 a0 a1 a2 x4 (it_ M (rf_ M a0 0) (ix_ x4)) K (fun xv20 M21 => Nk_ M M21 → lp_X5_pairCount_5 a0 a1 a2 K E n xv20 (x4 + (1 : Int32)) M21) n22 x3 (0 : Int32) M)))))
def wp_X5_pairCount (a0 : Nat) (a1 : Nat) (a2 : Nat) (M : Mm) (K : Mm → Int32 → Prop) : Prop := kd_ M a0 = 7 ∧ kd_ M a1 = 3 ∧ kd_ M a2 = 3 ∧ (∃ n30 : Nat, lp_X5_pairCount_5 a0 a1 a2 K (fun xv28 M29 => Nk_ M M29 → (K M29 xv28)) n30 (0 : Int32) (0 : Int32) M)
set_option maxHeartbeats 4000000 in
set_option maxRecDepth 100000 in
theorem lo_X5_pairCount_26 {p : Program} {l : Launch} {e : Env} {s : State} {m : MethodId} {args : Array Value} {below : List Frame} {meth : Method} {c : Code} {D : Dd_} {M0 : Mm} {Q : State → Prop} {K : Mm → Int32 → Prop} (g : G_ p s m args meth c cX5_pairCount 8 RX5 D M0) (hr : meth.sig.returnType = some .int) (hQ : Q = MQ below (va_Qi (fun r M' => K M' r) (cB_ D M0 s.heap.size) (Aw_ M0 s.heap.size)) args s 0 0 (Aw_ M0 s.heap.size)) {a0 : Nat} {a1 : Nat} {a2 : Nat} {x4 : Int32} {x5 : Int32} : ∀ (n : Nat) (E : Int32 → Mm → Prop) (x3 : Int32) (x6 : Int32) (M : Mm), lp_X5_pairCount_26 a0 a1 a2 x4 x5 K E n x3 x6 M → kd_ M a0 = 7 → kd_ M a1 = 3 → kd_ M a2 = 3 → (∀ (v3 : Int32) (M' : Mm), E v3 M' → Nk_ M M' → V_ p l e rmX5_pairCount s m args below meth c 8 D M0 Q 90 [(0, .ref a0), (1, .ref a1), (2, .ref a2), (3, .int v3), (4, .int x4)] [] M' 0 0) → V_ p l e rmX5_pairCount s m args below meth c 8 D M0 Q 26 [(0, .ref a0), (1, .ref a1), (2, .ref a2), (3, .int x3), (4, .int x4), (5, .int x5), (6, .int x6)] [] M 0 0 := by
  intro n
  induction n with
  | zero =>
    intro E x3 x6 M hw
    exact hw.elim
  | succ n ih =>
    intro E x3 x6 M hw hp0 hp1 hp2 kE
    refine r_iload g dX5_pairCount_26 6 rfl ?_
    refine r_aload_n g dX5_pairCount_28 rfl 0 rfl ?_
    refine r_gt (C := RX5) (T := TX5) (N := 7) g (ci := 6) rfl tc_X5 hp0 4 (by decide) tw_316 (fun _ h => h) rfl dX5_pairCount_29 ?_
    refine r_icmp_ge (tgt := 90) g dX5_pairCount_32 (by decide) (fun hc4 => ?_) (fun hc4 => ?_)
    · have hw := hw.1 hc4
      exact V_.sub (kE x3 _ hw (Nk_.rf _)) [0, 1, 2, 3, 4] rfl
    · have hw := hw.2 hc4
      refine r_aload_n g dX5_pairCount_35 rfl 1 rfl ?_
      obtain ⟨hk5, hw⟩ := hw
      refine r_gtR (C := RX1) (T := TX1) (N := 5) g (ci := 2) rfl tc_X1 hp1 1 (by decide) tw_446 (fun _ h => h) rfl (k_ne hk5 (by decide)) dX5_pairCount_36 ?_
      refine r_iload g dX5_pairCount_39 5 rfl ?_
      obtain ⟨hi6, hw⟩ := hw
      refine r_zald g hk5 hi6 dX5_pairCount_41 (fun hb7 => ?_)
      have hw := hw hb7
      refine r_if_ne (tgt := 90) g dX5_pairCount_42 (by decide) (fun hc8 => ?_) (fun hc8 => ?_)
      · have hw := hw.2 hc8
        exact V_.sub (kE x3 _ hw (Nk_.rf _)) [0, 1, 2, 3, 4] rfl
      · have hw := hw.1 hc8
        refine r_aload_n g dX5_pairCount_45 rfl 0 rfl ?_
        obtain ⟨hk9, hw⟩ := hw
        refine r_gtR (C := RX5) (T := TX5) (N := 7) g (ci := 6) rfl tc_X5 hp0 3 (by decide) tw_315 (fun _ h => h) rfl (k_ne hk9 (by decide)) dX5_pairCount_46 ?_
        refine r_iload g dX5_pairCount_49 6 rfl ?_
        obtain ⟨hi10, hw⟩ := hw
        refine r_iald g (Or.inl hk9) hi10 dX5_pairCount_51 ?_
        refine r_istore (L' := [(7, .int (it_ M (rf_ M a0 3) (ix_ x6))), (0, .ref a0), (1, .ref a1), (2, .ref a2), (3, .int x3), (4, .int x4), (5, .int x5), (6, .int x6)]) g dX5_pairCount_52 (by decide) rfl ?_
        refine r_aload_n g dX5_pairCount_54 rfl 3 rfl ?_
        obtain ⟨hk11, hw⟩ := hw
        refine r_gtR (C := RX1) (T := TX1) (N := 5) g (ci := 2) rfl tc_X1 hp2 1 (by decide) tw_446 (fun _ h => h) rfl (k_ne hk11 (by decide)) dX5_pairCount_55 ?_
        refine r_iload g dX5_pairCount_58 0 rfl ?_
        obtain ⟨hi12, hw⟩ := hw
        refine r_zald g hk11 hi12 dX5_pairCount_60 (fun hb13 => ?_)
        have hw := hw hb13
        refine r_if_ne (tgt := 84) g dX5_pairCount_61 (by decide) (fun hc14 => ?_) (fun hc14 => ?_)
        · have hw := hw.2 hc14
          refine r_iinc (v := x6 + (1 : Int32)) (L' := [(6, .int (x6 + (1 : Int32))), (7, .int (it_ M (rf_ M a0 3) (ix_ x6))), (0, .ref a0), (1, .ref a1), (2, .ref a2), (3, .int x3), (4, .int x4), (5, .int x5)]) g dX5_pairCount_84 7 rfl rfl (by decide) rfl ?_
          refine r_goto (tgt := 26) g dX5_pairCount_87 (by decide) ?_
          exact V_.sub (ih E x3 (x6 + (1 : Int32)) _ hw hp0 hp1 hp2 (fun v3 M9 hE9 hN9 => kE v3 M9 hE9 (Nk_.tr (Nk_.rf _) hN9))) [2, 3, 4, 5, 6, 7, 0] rfl
        · have hw := hw.1 hc14
          refine r_aload_n g dX5_pairCount_64 rfl 3 rfl ?_
          obtain ⟨hk15, hw⟩ := hw
          refine r_gtR (C := RX1) (T := TX1) (N := 5) g (ci := 2) rfl tc_X1 hp2 0 (by decide) tw_439 (fun _ h => h) rfl (k_ne hk15 (by decide)) dX5_pairCount_65 ?_
          refine r_iload g dX5_pairCount_68 0 rfl ?_
          obtain ⟨hi16, hw⟩ := hw
          refine r_iald g (Or.inl hk15) hi16 dX5_pairCount_70 ?_
          refine r_aload_n g dX5_pairCount_71 rfl 2 rfl ?_
          obtain ⟨hk17, hw⟩ := hw
          refine r_gtR (C := RX1) (T := TX1) (N := 5) g (ci := 2) rfl tc_X1 hp1 0 (by decide) tw_439 (fun _ h => h) rfl (k_ne hk17 (by decide)) dX5_pairCount_72 ?_
          refine r_iload g dX5_pairCount_75 6 rfl ?_
          obtain ⟨hi18, hw⟩ := hw
          refine r_iald g (Or.inl hk17) hi18 dX5_pairCount_77 ?_
          refine r_icmp_ne (tgt := 84) g dX5_pairCount_78 (by decide) (fun hc19 => ?_) (fun hc19 => ?_)
          · have hw := hw.2 hc19
            refine r_iinc (v := x6 + (1 : Int32)) (L' := [(6, .int (x6 + (1 : Int32))), (7, .int (it_ M (rf_ M a0 3) (ix_ x6))), (0, .ref a0), (1, .ref a1), (2, .ref a2), (3, .int x3), (4, .int x4), (5, .int x5)]) g dX5_pairCount_84 7 rfl rfl (by decide) rfl ?_
            refine r_goto (tgt := 26) g dX5_pairCount_87 (by decide) ?_
            exact V_.sub (ih E x3 (x6 + (1 : Int32)) _ hw hp0 hp1 hp2 (fun v3 M9 hE9 hN9 => kE v3 M9 hE9 (Nk_.tr (Nk_.rf _) hN9))) [2, 3, 4, 5, 6, 7, 0] rfl
          · have hw := hw.1 hc19
            refine r_iinc (v := x3 + (1 : Int32)) (L' := [(3, .int (x3 + (1 : Int32))), (7, .int (it_ M (rf_ M a0 3) (ix_ x6))), (0, .ref a0), (1, .ref a1), (2, .ref a2), (4, .int x4), (5, .int x5), (6, .int x6)]) g dX5_pairCount_81 4 rfl rfl (by decide) rfl ?_
            refine r_iinc (v := x6 + (1 : Int32)) (L' := [(6, .int (x6 + (1 : Int32))), (3, .int (x3 + (1 : Int32))), (7, .int (it_ M (rf_ M a0 3) (ix_ x6))), (0, .ref a0), (1, .ref a1), (2, .ref a2), (4, .int x4), (5, .int x5)]) g dX5_pairCount_84 7 rfl rfl (by decide) rfl ?_
            refine r_goto (tgt := 26) g dX5_pairCount_87 (by decide) ?_
            exact V_.sub (ih E (x3 + (1 : Int32)) (x6 + (1 : Int32)) _ hw hp0 hp1 hp2 (fun v3 M9 hE9 hN9 => kE v3 M9 hE9 (Nk_.tr (Nk_.rf _) hN9))) [3, 4, 5, 1, 6, 7, 0] rfl
set_option maxHeartbeats 4000000 in
set_option maxRecDepth 100000 in
theorem lo_X5_pairCount_5 {p : Program} {l : Launch} {e : Env} {s : State} {m : MethodId} {args : Array Value} {below : List Frame} {meth : Method} {c : Code} {D : Dd_} {M0 : Mm} {Q : State → Prop} {K : Mm → Int32 → Prop} (g : G_ p s m args meth c cX5_pairCount 8 RX5 D M0) (hr : meth.sig.returnType = some .int) (hQ : Q = MQ below (va_Qi (fun r M' => K M' r) (cB_ D M0 s.heap.size) (Aw_ M0 s.heap.size)) args s 0 0 (Aw_ M0 s.heap.size)) {a0 : Nat} {a1 : Nat} {a2 : Nat} : ∀ (n : Nat) (E : Int32 → Mm → Prop) (x3 : Int32) (x4 : Int32) (M : Mm), lp_X5_pairCount_5 a0 a1 a2 K E n x3 x4 M → kd_ M a0 = 7 → kd_ M a1 = 3 → kd_ M a2 = 3 → (∀ (v3 : Int32) (M' : Mm), E v3 M' → Nk_ M M' → V_ p l e rmX5_pairCount s m args below meth c 8 D M0 Q 96 [(3, .int v3)] [] M' 0 0) → V_ p l e rmX5_pairCount s m args below meth c 8 D M0 Q 5 [(0, .ref a0), (1, .ref a1), (2, .ref a2), (3, .int x3), (4, .int x4)] [] M 0 0 := by
  intro n
  induction n with
  | zero =>
    intro E x3 x4 M hw
    exact hw.elim
  | succ n ih =>
    intro E x3 x4 M hw hp0 hp1 hp2 kE
    refine r_iload g dX5_pairCount_5 4 rfl ?_
    refine r_aload_n g dX5_pairCount_7 rfl 0 rfl ?_
    refine r_gt (C := RX5) (T := TX5) (N := 7) g (ci := 6) rfl tc_X5 hp0 1 (by decide) tw_311 (fun _ h => h) rfl dX5_pairCount_8 ?_
    refine r_icmp_ge (tgt := 96) g dX5_pairCount_11 (by decide) (fun hc1 => ?_) (fun hc1 => ?_)
    · have hw := hw.1 hc1
      exact V_.sub (kE x3 _ hw (Nk_.rf _)) [3] rfl
    · have hw := hw.2 hc1
      refine r_aload_n g dX5_pairCount_14 rfl 0 rfl ?_
      obtain ⟨hk2, hw⟩ := hw
      refine r_gtR (C := RX5) (T := TX5) (N := 7) g (ci := 6) rfl tc_X5 hp0 0 (by decide) tw_309 (fun _ h => h) rfl (k_ne hk2 (by decide)) dX5_pairCount_15 ?_
      refine r_iload g dX5_pairCount_18 4 rfl ?_
      obtain ⟨hi3, hw⟩ := hw
      refine r_iald g (Or.inl hk2) hi3 dX5_pairCount_20 ?_
      refine r_istore (L' := [(5, .int (it_ M (rf_ M a0 0) (ix_ x4))), (0, .ref a0), (1, .ref a1), (2, .ref a2), (3, .int x3), (4, .int x4)]) g dX5_pairCount_21 (by decide) rfl ?_
      refine r_iconst (v := 0) g dX5_pairCount_23 (by decide) ?_
      refine r_istore (L' := [(6, .int (0 : Int32)), (5, .int (it_ M (rf_ M a0 0) (ix_ x4))), (0, .ref a0), (1, .ref a1), (2, .ref a2), (3, .int x3), (4, .int x4)]) g dX5_pairCount_24 (by decide) rfl ?_
      obtain ⟨n22, hw⟩ := hw
      refine V_.sub (lo_X5_pairCount_26 g hr hQ n22 _ x3 (0 : Int32) _ hw hp0 hp1 hp2 (fun xv20 M21 hE hN23 => ?_)) [2, 3, 4, 5, 6, 1, 0] rfl
      have hw := hE hN23
      have hk24 := Nk_.k hN23 hp0 (by decide)
      have hk25 := Nk_.k hN23 hp1 (by decide)
      have hk26 := Nk_.k hN23 hp2 (by decide)
      have hT27 := Nk_.tr (Nk_.rf _) hN23
      refine r_iinc (v := x4 + (1 : Int32)) (L' := [(4, .int (x4 + (1 : Int32))), (0, .ref a0), (1, .ref a1), (2, .ref a2), (3, .int xv20)]) g dX5_pairCount_90 4 rfl rfl (by decide) rfl ?_
      refine r_goto (tgt := 5) g dX5_pairCount_93 (by decide) ?_
      exact V_.sub (ih E xv20 (x4 + (1 : Int32)) _ hw hk24 hk25 hk26 (fun v3 M9 hE9 hN9 => kE v3 M9 hE9 (Nk_.tr hT27 hN9))) [1, 2, 3, 4, 0] rfl
set_option maxHeartbeats 4000000 in
set_option maxRecDepth 100000 in
theorem mt_X5_pairCount {l : Launch} {D : Dd_} {M : Mm} {a0 : Nat} {a1 : Nat} {a2 : Nat} {K : Mm → Int32 → Prop} (hw : wp_X5_pairCount a0 a1 a2 M K) (sz : Nat) : Met l yX5_pairCount (Cond.code yX5_pairCount cX5_pairCount 8 (some .int) :: tbG_) rmX5_pairCount (cPc_ D M sz [.ref a0, .ref a1, .ref a2]) (va_Qi (fun r M' => K M' r) (cB_ D M sz) (Aw_ M sz)) 0 0 (Aw_ M sz) := by
  refine ofV (by decide) (Nat.le_of_ble_eq_true rfl) ?_
  intro p e s m below meth c g hr hin hsz
  subst hsz
  obtain ⟨hp0, hp1, hp2, hw⟩ := hw
  refine r_iconst (v := 0) g dX5_pairCount_0 (by decide) ?_
  refine r_istore_n (L' := [(3, .int (0 : Int32)), (0, .ref a0), (1, .ref a1), (2, .ref a2)]) g dX5_pairCount_1 rfl (by decide) rfl ?_
  refine r_iconst (v := 0) g dX5_pairCount_2 (by decide) ?_
  refine r_istore (L' := [(4, .int (0 : Int32)), (3, .int (0 : Int32)), (0, .ref a0), (1, .ref a1), (2, .ref a2)]) g dX5_pairCount_3 (by decide) rfl ?_
  obtain ⟨n30, hw⟩ := hw
  refine V_.sub (lo_X5_pairCount_5 g hr rfl n30 _ (0 : Int32) (0 : Int32) _ hw hp0 hp1 hp2 (fun xv28 M29 hE hN31 => ?_)) [2, 3, 4, 1, 0] rfl
  have hw := hE hN31
  have hT32 := Nk_.tr (Nk_.rf _) hN31
  refine r_iload_n g dX5_pairCount_96 rfl 0 rfl ?_
  exact r_iret g hr (Nat.le_of_ble_eq_true rfl) (Nat.le_of_ble_eq_true rfl) rfl dX5_pairCount_97 hw
def rmX0_init : Room := { frames := 2, cells := 18, slots := 272, locals := 32 }
theorem hy_X0_init : yX0_init.cls ≠ "java/lang/invoke/MethodHandle" ∧ yX0_init.cls ≠ "java/lang/invoke/VarHandle" ∧ (parseMethodDescriptor yX0_init.desc).map (fun d => d.parameters.length) = some 0 := by decide +kernel
def lp_X0_init_23 (a0 : Nat) (K : Mm → Prop) (E : Nat → Nat → Mm → Prop) : Nat → Int32 → Nat → Nat → Mm → Prop
  | 0, _, _, _, _ => False
  | n + 1, x1, uc, ud, M => (((8 : Int32) ≤ x1 → E  uc ud M) ∧ (¬ (8 : Int32) ≤ x1 → (kd_ M (rf_ M a0 1) = 23 ∧ (uc + 1 ≤ 18 ∧ ud + 9 ≤ 272 ∧ (∀ q19, q19 ≠ 0 → kd_ M q19 = 0 → ∀ M22, M22 = nw_ M q19 11 0 → ((uc + 1) + 1 ≤ 18 ∧ (ud + 9) + 16 ≤ 272 ∧ wp_X9_init q19 M22 (fun M29 => Nk_ M22 M29 → (vp_in x1 (ln_ M29 (rf_ M a0 1)) ∧ (∀ M39, M39 = sR_ M29 (rf_ M a0 1) (ix_ x1) q19 → lp_X0_init_23 a0 K E n (x1 + (1 : Int32)) ((uc + 1) + 1) ((ud + 9) + 16) M39)))))))))
def wp_X0_init (a0 : Nat) (M : Mm) (K : Mm → Prop) : Prop := kd_ M a0 = 2 ∧ ((∀ q1, q1 ≠ 0 → kd_ M q1 = 0 → ∀ M4, M4 = nw_ M q1 20 (ix_ (64 : Int32)) → (∀ M8, M8 = sR_ M4 a0 0 q1 → ((∀ q9, q9 ≠ 0 → kd_ M8 q9 = 0 → ∀ M12, M12 = nw_ M8 q9 23 (ix_ (8 : Int32)) → (∀ M16, M16 = sR_ M12 a0 1 q9 → (∃ n41 : Nat, lp_X0_init_23 a0 K (fun  c42 d43 M40 => Nk_ M16 M40 → (c42 ≤ 18 ∧ d43 ≤ 272 ∧ K M40)) n41 (0 : Int32) 2 72 M16)))))))
set_option maxHeartbeats 4000000 in
set_option maxRecDepth 100000 in
theorem lo_X0_init_23 {p : Program} {l : Launch} {e : Env} {s : State} {m : MethodId} {args : Array Value} {below : List Frame} {meth : Method} {c : Code} {D : Dd_} {M0 : Mm} {Q : State → Prop} {K : Mm → Prop} (g : G_ p s m args meth c cX0_init 2 RX0 D M0) (hr : meth.sig.returnType = none) (hQ : Q = MQ below (va_Qv (fun M' => K M') (cB_ D M0 s.heap.size) (Aw_ M0 s.heap.size)) args s 18 272 (Aw_ M0 s.heap.size)) {a0 : Nat} : ∀ (n : Nat) (E : Nat → Nat → Mm → Prop) (x1 : Int32) (uc : Nat) (ud : Nat) (M : Mm), lp_X0_init_23 a0 K E n x1 uc ud M → kd_ M a0 = 2 → (∀ (c9 d9 : Nat) (M' : Mm), E  c9 d9 M' → Nk_ M M' → V_ p l e rmX0_init s m args below meth c 2 D M0 Q 48 [] [] M' c9 d9) → V_ p l e rmX0_init s m args below meth c 2 D M0 Q 23 [(0, .ref a0), (1, .int x1)] [] M uc ud := by
  intro n
  induction n with
  | zero =>
    intro E x1 uc ud M hw
    exact hw.elim
  | succ n ih =>
    intro E x1 uc ud M hw hp0 kE
    refine r_iload_n g dX0_init_23 rfl 1 rfl ?_
    refine r_bipush (v := 8) g dX0_init_24 (by decide) ?_
    refine r_icmp_ge (tgt := 48) g dX0_init_26 (by decide) (fun hc17 => ?_) (fun hc17 => ?_)
    · have hw := hw.1 hc17
      exact V_.sub (kE  uc ud _ hw (Nk_.rf _)) [] rfl
    · have hw := hw.2 hc17
      refine r_aload_n g dX0_init_29 rfl 0 rfl ?_
      obtain ⟨hk18, hw⟩ := hw
      refine r_gtR (C := RX0) (T := TX0) (N := 4) g (ci := 1) rfl tc_X0 hp0 1 (by decide) tw_143 (fun _ h => h) rfl (k_ne hk18 (by decide)) dX0_init_30 ?_
      refine r_iload_n g dX0_init_33 rfl 1 rfl ?_
      obtain ⟨h23, h24, hw⟩ := hw
      refine r_new (ci := 10) (C := RX9) (T := TX9) (N := 9) g rfl tc_X9 tyX9 tyX9_ok tw_89 tw_91 tw_8 td_X9 h23 h24 dX0_init_34 (fun q19 h20 hq21 => ?_)
      have hw := hw q19 h20 hq21 _ rfl
      have hk25 := kd_nw_ (c := 11) (n := 0) hq21 hp0 (by decide)
      have hk26 := kd_nw_ (c := 11) (n := 0) hq21 hk18 (by decide)
      have hT27 := Nk_.tr (Nk_.rf _) (Nk_nw_ (c := 11) (n := 0) hq21)
      have hk28 := kd_nq_ M q19 11 0
      refine r_dup g dX0_init_37 rfl ?_
      obtain ⟨h32, h33, hw⟩ := hw
      refine r_callNv (As := []) g (fun sz => mt_X9_init hw sz) tx_92 tw_94 tw_8 tw_93 rfl hy_X9_init ⟨rfl, rfl⟩ (Nat.le_of_ble_eq_true rfl) (Nat.le_of_ble_eq_true rfl) h32 h33 (Nat.le_of_ble_eq_true rfl) rfl dX0_init_38 (fun M29 hK30 hN31 => ?_)
      have hw := hK30 hN31
      have hk34 := Nk_.k hN31 hk25 (by decide)
      have hk35 := Nk_.k hN31 hk28 (by decide)
      have hk36 := Nk_.k hN31 hk26 (by decide)
      have hT37 := Nk_.tr hT27 hN31
      obtain ⟨hi38, hw⟩ := hw
      refine r_aast (t := 3) (ci := 10) (C := RX9) (T := TX9) (N := 9) g rfl (by decide) (by decide) rfl hk36 hk35 hi38 dX0_init_41 ?_
      have hw := hw _ rfl
      refine r_iinc (v := x1 + (1 : Int32)) (L' := [(1, .int (x1 + (1 : Int32))), (0, .ref a0)]) g dX0_init_42 1 rfl rfl (by decide) rfl ?_
      refine r_goto (tgt := 23) g dX0_init_45 (by decide) ?_
      exact V_.sub (ih E (x1 + (1 : Int32)) ((uc + 1) + 1) ((ud + 9) + 16) _ hw hk34 (fun  c9 d9 M9 hE9 hN9 => kE  c9 d9 M9 hE9 (Nk_.tr hT37 hN9))) [1, 0] rfl
set_option maxHeartbeats 4000000 in
set_option maxRecDepth 100000 in
theorem mt_X0_init {l : Launch} {D : Dd_} {M : Mm} {a0 : Nat} {K : Mm → Prop} (hw : wp_X0_init a0 M K) (sz : Nat) : Met l yX0_init (Cond.code yX0_init cX0_init 2 none :: tbG_) rmX0_init (cPc_ D M sz [.ref a0]) (va_Qv (fun M' => K M') (cB_ D M sz) (Aw_ M sz)) 18 272 (Aw_ M sz) := by
  refine ofV (by decide) (Nat.le_of_ble_eq_true rfl) ?_
  intro p e s m below meth c g hr hin hsz
  subst hsz
  have hin := hin rfl
  obtain ⟨hp0, hw⟩ := hw
  refine r_aload_n g dX0_init_0 rfl 0 rfl ?_
  refine r_oinit g tw_88 tw_33 tw_34 dX0_init_1 (Nat.le_of_ble_eq_true rfl) (Nat.le_of_ble_eq_true rfl) ?_
  refine r_aload_n g dX0_init_4 rfl 0 rfl ?_
  refine r_bipush (v := 64) g dX0_init_5 (by decide) ?_
  refine r_newI g tw_81 (by decide) (Nat.le_of_ble_eq_true rfl) (Nat.le_of_ble_eq_true rfl) (Nat.le_of_ble_eq_true rfl) dX0_init_7 (fun q1 h2 hq3 => ?_)
  have hw := hw q1 h2 hq3 _ rfl
  have hk5 := kd_nw_ (c := 20) (n := ix_ (64 : Int32)) hq3 hp0 (by decide)
  have hT6 := Nk_.tr (Nk_.rf _) (Nk_nw_ (c := 20) (n := ix_ (64 : Int32)) hq3)
  have hk7 := kd_nq_ M q1 20 (ix_ (64 : Int32))
  refine r_ptFx (C := RX0) (T := TX0) (N := 4) g (ci := 1) rfl tc_X0 tyX0 tyX0_ok nmX0 hk5 0 (by decide) tw_139 (fun _ h => h) rfl hin rfl rfl (k_ne hk7 (by decide)) rfl rfl dX0_init_9 ?_
  have hw := hw _ rfl
  refine r_aload_n g dX0_init_12 rfl 0 rfl ?_
  refine r_bipush (v := 8) g dX0_init_13 (by decide) ?_
  refine r_newR (t := 3) (C := "ColdFrame$Zone") g (by decide) (by decide) rfl tw_89 tx_90 (by decide) (Nat.le_of_ble_eq_true rfl) (Nat.le_of_ble_eq_true rfl) (Nat.le_of_ble_eq_true rfl) dX0_init_15 (fun q9 h10 hq11 => ?_)
  have hw := hw q9 h10 hq11 _ rfl
  have hk13 := kd_nw_ (c := 23) (n := ix_ (8 : Int32)) hq11 hk5 (by decide)
  have hT14 := Nk_.tr hT6 (Nk_nw_ (c := 23) (n := ix_ (8 : Int32)) hq11)
  have hk15 := kd_nq_ (sR_ (nw_ M q1 20 (ix_ (64 : Int32))) a0 0 q1) q9 23 (ix_ (8 : Int32))
  refine r_ptFx (C := RX0) (T := TX0) (N := 4) g (ci := 1) rfl tc_X0 tyX0 tyX0_ok nmX0 hk13 1 (by decide) tw_143 (fun _ h => h) rfl hin rfl rfl (k_ne hk15 (by decide)) rfl rfl dX0_init_18 ?_
  have hw := hw _ rfl
  refine r_iconst (v := 0) g dX0_init_21 (by decide) ?_
  refine r_istore_n (L' := [(1, .int (0 : Int32)), (0, .ref a0)]) g dX0_init_22 rfl (by decide) rfl ?_
  obtain ⟨n41, hw⟩ := hw
  refine V_.sub (lo_X0_init_23 g hr rfl n41 _ (0 : Int32) 2 72 _ hw hk13 (fun  c42 d43 M40 hE hN44 => ?_)) [1, 0] rfl
  have hw := hE hN44
  have hT45 := Nk_.tr hT14 hN44
  obtain ⟨h46, h47, hw⟩ := hw
  exact r_vret g hr h46 h47 rfl dX0_init_48 hw
def rmX0_append : Room := { frames := 0, cells := 0, slots := 0, locals := 0 }
theorem hy_X0_append : yX0_append.cls ≠ "java/lang/invoke/MethodHandle" ∧ yX0_append.cls ≠ "java/lang/invoke/VarHandle" ∧ (parseMethodDescriptor yX0_append.desc).map (fun d => d.parameters.length) = some 1 := by decide +kernel
def wp_X0_append (a0 : Nat) (x1 : Int32) (M : Mm) (K : Mm → Prop) : Prop := kd_ M a0 = 2 ∧ (((64 : Int32) ≤ (it_ M a0 2) → K M) ∧ (¬ (64 : Int32) ≤ (it_ M a0 2) → (kd_ M (rf_ M a0 0) = 20 ∧ (vp_in (it_ M a0 2) (ln_ M (rf_ M a0 0)) ∧ (∀ M4, M4 = sI_ M (rf_ M a0 0) (ix_ (it_ M a0 2)) x1 → (∀ M5, M5 = sI_ M4 a0 2 ((it_ M4 a0 2) + (1 : Int32)) → K M5))))))
set_option maxHeartbeats 4000000 in
set_option maxRecDepth 100000 in
theorem mt_X0_append {l : Launch} {D : Dd_} {M : Mm} {a0 : Nat} {x1 : Int32} {K : Mm → Prop} (hw : wp_X0_append a0 x1 M K) (sz : Nat) : Met l yX0_append (Cond.code yX0_append cX0_append 2 none :: tbG_) rmX0_append (cPc_ D M sz [.ref a0, .int x1]) (va_Qv (fun M' => K M') (cB_ D M sz) (Aw_ M sz)) 0 0 (Aw_ M sz) := by
  refine ofV (by decide) (Nat.le_of_ble_eq_true rfl) ?_
  intro p e s m below meth c g hr hin hsz
  subst hsz
  obtain ⟨hp0, hw⟩ := hw
  refine r_aload_n g dX0_append_0 rfl 0 rfl ?_
  refine r_gt (C := RX0) (T := TX0) (N := 4) g (ci := 1) rfl tc_X0 hp0 2 (by decide) tw_147 (fun _ h => h) rfl dX0_append_1 ?_
  refine r_bipush (v := 64) g dX0_append_4 (by decide) ?_
  refine r_icmp_ge (tgt := 29) g dX0_append_6 (by decide) (fun hc1 => ?_) (fun hc1 => ?_)
  · have hw := hw.1 hc1
    exact r_vret g hr (Nat.le_of_ble_eq_true rfl) (Nat.le_of_ble_eq_true rfl) rfl dX0_append_29 hw
  · have hw := hw.2 hc1
    refine r_aload_n g dX0_append_9 rfl 0 rfl ?_
    obtain ⟨hk2, hw⟩ := hw
    refine r_gtR (C := RX0) (T := TX0) (N := 4) g (ci := 1) rfl tc_X0 hp0 0 (by decide) tw_139 (fun _ h => h) rfl (k_ne hk2 (by decide)) dX0_append_10 ?_
    refine r_aload_n g dX0_append_13 rfl 0 rfl ?_
    refine r_gt (C := RX0) (T := TX0) (N := 4) g (ci := 1) rfl tc_X0 hp0 2 (by decide) tw_147 (fun _ h => h) rfl dX0_append_14 ?_
    refine r_iload_n g dX0_append_17 rfl 1 rfl ?_
    obtain ⟨hi3, hw⟩ := hw
    refine r_iast g hk2 hi3 dX0_append_18 ?_
    have hw := hw _ rfl
    refine r_aload_n g dX0_append_19 rfl 0 rfl ?_
    refine r_dup g dX0_append_20 rfl ?_
    refine r_gt (C := RX0) (T := TX0) (N := 4) g (ci := 1) rfl tc_X0 hp0 2 (by decide) tw_147 (fun _ h => h) rfl dX0_append_21 ?_
    refine r_iconst (v := 1) g dX0_append_24 (by decide) ?_
    refine r_iadd g dX0_append_25 ?_
    refine r_ptI (C := RX0) (T := TX0) (N := 4) g (ci := 1) rfl tc_X0 tyX0 tyX0_ok nmX0 hp0 2 (by decide) tw_147 (fun _ h => h) rfl rfl rfl rfl dX0_append_26 ?_
    have hw := hw _ rfl
    exact r_vret g hr (Nat.le_of_ble_eq_true rfl) (Nat.le_of_ble_eq_true rfl) rfl dX0_append_29 hw
