/-! walks by program: 17.search -/
def rmX6_init : Room := { frames := 1, cells := 5, slots := 736, locals := 12 }
theorem hy_X6_init : yX6_init.cls ≠ "java/lang/invoke/MethodHandle" ∧ yX6_init.cls ≠ "java/lang/invoke/VarHandle" ∧ (parseMethodDescriptor yX6_init.desc).map (fun d => d.parameters.length) = some 0 := by decide +kernel
def wp_X6_init (a0 : Nat) (M : Mm) (K : Mm → Prop) : Prop := kd_ M a0 = 8 ∧ (∀ q1, q1 ≠ 0 → kd_ M q1 = 0 → (∀ M4, M4 = nw_ M q1 20 (ix_ (600 : Int32)) → (∀ M8, M8 = sR_ M4 a0 0 q1 → (∀ q9, q9 ≠ 0 → kd_ M4 q9 = 0 → (∀ M12, M12 = nw_ M8 q9 21 (ix_ (64 : Int32)) → (∀ M16, M16 = sR_ M12 a0 5 q9 → (∀ q17, q17 ≠ 0 → kd_ M12 q17 = 0 → (∀ M20, M20 = nw_ M16 q17 21 (ix_ (64 : Int32)) → (∀ M24, M24 = sR_ M20 a0 7 q17 → (∀ q25, q25 ≠ 0 → kd_ M20 q25 = 0 → (∀ M28, M28 = nw_ M24 q25 20 (ix_ (4 : Int32)) → (∀ M32, M32 = sR_ M28 a0 8 q25 → (∀ q33, q33 ≠ 0 → kd_ M28 q33 = 0 → (∀ M36, M36 = nw_ M32 q33 20 (ix_ (4 : Int32)) → (∀ M40, M40 = sR_ M36 a0 9 q33 → K M40)))))))))))))))
set_option maxHeartbeats 4000000 in
set_option maxRecDepth 100000 in
theorem mt_X6_init {l : Launch} {D : Dd_} {M : Mm} {a0 : Nat} {K : Mm → Prop} (hw : wp_X6_init a0 M K) (sz : Nat) : Met l yX6_init (Cond.code yX6_init cX6_init 1 none :: tbG_) rmX6_init (cPc_ D M sz [.ref a0]) (va_Qv (fun M' => K M') (cB_ D M sz) (Aw_ M sz)) 5 736 (Aw_ M sz) := by
  refine ofV (by decide) (Nat.le_of_ble_eq_true rfl) ?_
  intro p e s m below meth c g hr hin hsz
  subst hsz
  have hin := hin rfl
  obtain ⟨hp0, hw⟩ := hw
  refine r_aload_n g dX6_init_0 rfl 0 rfl ?_
  refine r_oinit g tw_267 tw_33 tw_34 dX6_init_1 (Nat.le_of_ble_eq_true rfl) (Nat.le_of_ble_eq_true rfl) ?_
  refine r_aload_n g dX6_init_4 rfl 0 rfl ?_
  refine r_sipush (v := 600) g dX6_init_5 (by decide) ?_
  refine r_newI g tw_81 (by decide) (Nat.le_of_ble_eq_true rfl) (Nat.le_of_ble_eq_true rfl) (Nat.le_of_ble_eq_true rfl) dX6_init_8 (fun q1 h2 hq3 => ?_)
  have hw := hw q1 h2 hq3 _ rfl
  have hk5 := Nk_.k (Nk_nw_ (c := 20) (n := (ix_ (600 : Int32))) hq3) hp0 (by decide)
  have hT6 := Nk_.tr (Nk_.rf _) (Nk_nw_ (c := 20) (n := (ix_ (600 : Int32))) hq3)
  have hk7 := kd_nq_ M q1 20 (ix_ (600 : Int32))
  refine r_ptFx (C := RX6) (T := TX6) (N := 10) g (ci := 7) rfl tc_X6 tyX6 tyX6_ok nmX6 hk5 0 (by decide) tw_268 (fun _ h => h) rfl hin rfl rfl (k_ne hk7 (by decide)) rfl rfl dX6_init_10 ?_
  have hw := hw _ rfl
  refine r_aload_n g dX6_init_13 rfl 0 rfl ?_
  refine r_bipush (v := 64) g dX6_init_14 (by decide) ?_
  refine r_newZ g tw_80 (by decide) (Nat.le_of_ble_eq_true rfl) (Nat.le_of_ble_eq_true rfl) (Nat.le_of_ble_eq_true rfl) dX6_init_16 (fun q9 h10 hq11 => ?_)
  have hw := hw q9 h10 hq11 _ rfl
  have hk13 := Nk_.k (Nk_nw_ (c := 21) (n := (ix_ (64 : Int32))) hq11) hk5 (by decide)
  have hT14 := Nk_.tr hT6 (Nk_nw_ (c := 21) (n := (ix_ (64 : Int32))) hq11)
  have hk15 := kd_nq_ (sR_ (nw_ M q1 20 (ix_ (600 : Int32))) a0 0 q1) q9 21 (ix_ (64 : Int32))
  refine r_ptFx (C := RX6) (T := TX6) (N := 10) g (ci := 7) rfl tc_X6 tyX6 tyX6_ok nmX6 hk13 5 (by decide) tw_277 (fun _ h => h) rfl hin rfl rfl (k_ne hk15 (by decide)) rfl rfl dX6_init_18 ?_
  have hw := hw _ rfl
  refine r_aload_n g dX6_init_21 rfl 0 rfl ?_
  refine r_bipush (v := 64) g dX6_init_22 (by decide) ?_
  refine r_newZ g tw_80 (by decide) (Nat.le_of_ble_eq_true rfl) (Nat.le_of_ble_eq_true rfl) (Nat.le_of_ble_eq_true rfl) dX6_init_24 (fun q17 h18 hq19 => ?_)
  have hw := hw q17 h18 hq19 _ rfl
  have hk21 := Nk_.k (Nk_nw_ (c := 21) (n := (ix_ (64 : Int32))) hq19) hk13 (by decide)
  have hT22 := Nk_.tr hT14 (Nk_nw_ (c := 21) (n := (ix_ (64 : Int32))) hq19)
  have hk23 := kd_nq_ (sR_ (nw_ (sR_ (nw_ M q1 20 (ix_ (600 : Int32))) a0 0 q1) q9 21 (ix_ (64 : Int32))) a0 5 q9) q17 21 (ix_ (64 : Int32))
  refine r_ptFx (C := RX6) (T := TX6) (N := 10) g (ci := 7) rfl tc_X6 tyX6 tyX6_ok nmX6 hk21 7 (by decide) tw_279 (fun _ h => h) rfl hin rfl rfl (k_ne hk23 (by decide)) rfl rfl dX6_init_26 ?_
  have hw := hw _ rfl
  refine r_aload_n g dX6_init_29 rfl 0 rfl ?_
  refine r_iconst (v := 4) g dX6_init_30 (by decide) ?_
  refine r_newI g tw_81 (by decide) (Nat.le_of_ble_eq_true rfl) (Nat.le_of_ble_eq_true rfl) (Nat.le_of_ble_eq_true rfl) dX6_init_31 (fun q25 h26 hq27 => ?_)
  have hw := hw q25 h26 hq27 _ rfl
  have hk29 := Nk_.k (Nk_nw_ (c := 20) (n := (ix_ (4 : Int32))) hq27) hk21 (by decide)
  have hT30 := Nk_.tr hT22 (Nk_nw_ (c := 20) (n := (ix_ (4 : Int32))) hq27)
  have hk31 := kd_nq_ (sR_ (nw_ (sR_ (nw_ (sR_ (nw_ M q1 20 (ix_ (600 : Int32))) a0 0 q1) q9 21 (ix_ (64 : Int32))) a0 5 q9) q17 21 (ix_ (64 : Int32))) a0 7 q17) q25 20 (ix_ (4 : Int32))
  refine r_ptFx (C := RX6) (T := TX6) (N := 10) g (ci := 7) rfl tc_X6 tyX6 tyX6_ok nmX6 hk29 8 (by decide) tw_280 (fun _ h => h) rfl hin rfl rfl (k_ne hk31 (by decide)) rfl rfl dX6_init_33 ?_
  have hw := hw _ rfl
  refine r_aload_n g dX6_init_36 rfl 0 rfl ?_
  refine r_iconst (v := 4) g dX6_init_37 (by decide) ?_
  refine r_newI g tw_81 (by decide) (Nat.le_of_ble_eq_true rfl) (Nat.le_of_ble_eq_true rfl) (Nat.le_of_ble_eq_true rfl) dX6_init_38 (fun q33 h34 hq35 => ?_)
  have hw := hw q33 h34 hq35 _ rfl
  have hk37 := Nk_.k (Nk_nw_ (c := 20) (n := (ix_ (4 : Int32))) hq35) hk29 (by decide)
  have hT38 := Nk_.tr hT30 (Nk_nw_ (c := 20) (n := (ix_ (4 : Int32))) hq35)
  have hk39 := kd_nq_ (sR_ (nw_ (sR_ (nw_ (sR_ (nw_ (sR_ (nw_ M q1 20 (ix_ (600 : Int32))) a0 0 q1) q9 21 (ix_ (64 : Int32))) a0 5 q9) q17 21 (ix_ (64 : Int32))) a0 7 q17) q25 20 (ix_ (4 : Int32))) a0 8 q25) q33 20 (ix_ (4 : Int32))
  refine r_ptFx (C := RX6) (T := TX6) (N := 10) g (ci := 7) rfl tc_X6 tyX6 tyX6_ok nmX6 hk37 9 (by decide) tw_281 (fun _ h => h) rfl hin rfl rfl (k_ne hk39 (by decide)) rfl rfl dX6_init_40 ?_
  have hw := hw _ rfl
  exact r_vret g hr (Nat.le_of_ble_eq_true rfl) (Nat.le_of_ble_eq_true rfl) rfl dX6_init_43 hw
def rmX6_collect : Room := { frames := 0, cells := 0, slots := 0, locals := 0 }
theorem hy_X6_collect : yX6_collect.cls ≠ "java/lang/invoke/MethodHandle" ∧ yX6_collect.cls ≠ "java/lang/invoke/VarHandle" ∧ (parseMethodDescriptor yX6_collect.desc).map (fun d => d.parameters.length) = some 3 := by decide +kernel
def lp_X6_collect_3 (a0 : Nat) (a1 : Nat) (a2 : Nat) (x3 : Int32) (K : Mm → Prop) (E : Mm → Prop) : Nat → Int32 → Mm → Prop
  | 0, _, _ => False
  | n + 1, x4, M => (((it_ M a2 2) ≤ x4 → E M) ∧ (¬ (it_ M a2 2) ≤ x4 → (kd_ M (rf_ M a2 0) = 20 ∧ (vp_in x4 (ln_ M (rf_ M a2 0)) ∧ (kd_ M (rf_ M a1 2) = 21 ∧ (vp_in (it_ M (rf_ M a2 0) (ix_ x4)) (ln_ M (rf_ M a1 2)) ∧ (bz_ (it_ M (rf_ M a1 2) (ix_ (it_ M (rf_ M a2 0) (ix_ x4)))) → (((it_ M (rf_ M a1 2) (ix_ (it_ M (rf_ M a2 0) (ix_ x4)))) = 0 → lp_X6_collect_3 a0 a1 a2 x3 K E n (x4 + (1 : Int32)) M) ∧ (¬ (it_ M (rf_ M a1 2) (ix_ (it_ M (rf_ M a2 0) (ix_ x4)))) = 0 → ((x3 = 0 → (kd_ M (rf_ M a0 7) = 21 ∧ (vp_in x4 (ln_ M (rf_ M a0 7)) ∧ (bz_ (it_ M (rf_ M a0 7) (ix_ x4)) → (((it_ M (rf_ M a0 7) (ix_ x4)) = 0 → lp_X6_collect_3 a0 a1 a2 x3 K E n (x4 + (1 : Int32)) M) ∧ (¬ (it_ M (rf_ M a0 7) (ix_ x4)) = 0 → (((600 : Int32) ≤ (it_ M a0 1) → lp_X6_collect_3 a0 a1 a2 x3 K E n (x4 + (1 : Int32)) M) ∧ (¬ (600 : Int32) ≤ (it_ M a0 1) → (kd_ M (rf_ M a0 0) = 20 ∧ (vp_in (it_ M a0 1) (ln_ M (rf_ M a0 0)) ∧ (∀ M21, M21 = sI_ M (rf_ M a0 0) (ix_ (it_ M a0 1)) (it_ M (rf_ M a2 0) (ix_ x4)) → (∀ M22, M22 = sI_ M21 a0 1 ((it_ M21 a0 1) + (1 : Int32)) → lp_X6_collect_3 a0 a1 a2 x3 K E n (x4 + (1 : Int32)) M22)))))))))))) ∧ (¬ x3 = 0 → (((600 : Int32) ≤ (it_ M a0 1) → lp_X6_collect_3 a0 a1 a2 x3 K E n (x4 + (1 : Int32)) M) ∧ (¬ (600 : Int32) ≤ (it_ M a0 1) → (kd_ M (rf_ M a0 0) = 20 ∧ (vp_in (it_ M a0 1) (ln_ M (rf_ M a0 0)) ∧ (∀ M12, M12 = sI_ M (rf_ M a0 0) (ix_ (it_ M a0 1)) (it_ M (rf_ M a2 0) (ix_ x4)) → (∀ M13, M13 = sI_ M12 a0 1 ((it_ M12 a0 1) + (1 : Int32)) → lp_X6_collect_3 a0 a1 a2 x3 K E n (x4 + (1 : Int32)) M13)))))))))))))))))
def wp_X6_collect (a0 : Nat) (a1 : Nat) (a2 : Nat) (x3 : Int32) (M : Mm) (K : Mm → Prop) : Prop := kd_ M a0 = 8 ∧ kd_ M a1 = 10 ∧ kd_ M a2 = 2 ∧ (∃ n23 : Nat, lp_X6_collect_3 a0 a1 a2 x3 K (fun  M24 => Nk_ M M24 → K M24) n23 (0 : Int32) M)
set_option maxHeartbeats 4000000 in
set_option maxRecDepth 100000 in
theorem lo_X6_collect_3 {p : Program} {l : Launch} {e : Env} {s : State} {m : MethodId} {args : Array Value} {below : List Frame} {meth : Method} {c : Code} {D : Dd_} {M0 : Mm} {Q : State → Prop} {K : Mm → Prop} (g : G_ p s m args meth c cX6_collect 6 RX6 D M0) (hr : meth.sig.returnType = none) (hQ : Q = MQ below (va_Qv (fun M' => K M') (cB_ D M0 s.heap.size) (Aw_ M0 s.heap.size)) args s 0 0 (Aw_ M0 s.heap.size)) {a0 : Nat} {a1 : Nat} {a2 : Nat} {x3 : Int32} : ∀ (n : Nat) (E : Mm → Prop) (x4 : Int32) (M : Mm), lp_X6_collect_3 a0 a1 a2 x3 K E n x4 M → kd_ M a0 = 8 → kd_ M a1 = 10 → kd_ M a2 = 2 → (∀  (M' : Mm), E  M' → Nk_ M M' → V_ p l e rmX6_collect s m args below meth c 6 D M0 Q 82 [] [] M' 0 0) → V_ p l e rmX6_collect s m args below meth c 6 D M0 Q 3 [(0, .ref a0), (1, .ref a1), (2, .ref a2), (3, .int x3), (4, .int x4)] [] M 0 0 := by
  intro n
  induction n with
  | zero =>
    intro E x4 M hw
    exact hw.elim
  | succ n ih =>
    intro E x4 M hw hp0 hp1 hp2 kE
    refine r_iload g dX6_collect_3 4 rfl ?_
    refine r_aload_n g dX6_collect_5 rfl 2 rfl ?_
    refine r_gt (C := RX0) (T := TX0) (N := 4) g (ci := 1) rfl tc_X0 hp2 2 (by decide) tw_148 (fun _ h => h) rfl dX6_collect_6 ?_
    refine r_icmp_ge (tgt := 82) g dX6_collect_9 (by decide) (fun hc1 => ?_) (fun hc1 => ?_)
    · have hw := hw.1 hc1
      exact V_.sub (kE  _ hw (Nk_.rf _)) [] rfl
    · have hw := hw.2 hc1
      refine r_aload_n g dX6_collect_12 rfl 2 rfl ?_
      obtain ⟨hk2, hw⟩ := hw
      refine r_gtR (C := RX0) (T := TX0) (N := 4) g (ci := 1) rfl tc_X0 hp2 0 (by decide) tw_140 (fun _ h => h) rfl (k_ne hk2 (by decide)) dX6_collect_13 ?_
      refine r_iload g dX6_collect_16 4 rfl ?_
      obtain ⟨hi3, hw⟩ := hw
      refine r_iald g (Or.inl hk2) hi3 dX6_collect_18 ?_
      refine r_istore (L' := [(5, .int (it_ M (rf_ M a2 0) (ix_ x4))), (0, .ref a0), (1, .ref a1), (2, .ref a2), (3, .int x3), (4, .int x4)]) g dX6_collect_19 (by decide) rfl ?_
      refine r_aload_n g dX6_collect_21 rfl 2 rfl ?_
      obtain ⟨hk4, hw⟩ := hw
      refine r_gtR (C := RX8) (T := TX8) (N := 11) g (ci := 9) rfl tc_X8 hp1 2 (by decide) tw_171 (fun _ h => h) rfl (k_ne hk4 (by decide)) dX6_collect_22 ?_
      refine r_iload g dX6_collect_25 0 rfl ?_
      obtain ⟨hi5, hw⟩ := hw
      refine r_zald g hk4 hi5 dX6_collect_27 (fun hb6 => ?_)
      have hw := hw hb6
      refine r_if_eq (tgt := 76) g dX6_collect_28 (by decide) (fun hc7 => ?_) (fun hc7 => ?_)
      · have hw := hw.1 hc7
        refine r_iinc (v := x4 + (1 : Int32)) (L' := [(4, .int (x4 + (1 : Int32))), (5, .int (it_ M (rf_ M a2 0) (ix_ x4))), (0, .ref a0), (1, .ref a1), (2, .ref a2), (3, .int x3)]) g dX6_collect_76 5 rfl rfl (by decide) rfl ?_
        refine r_goto (tgt := 3) g dX6_collect_79 (by decide) ?_
        exact V_.sub (ih E (x4 + (1 : Int32)) _ hw hp0 hp1 hp2 (fun  M9 hE9 hN9 => kE  M9 hE9 (Nk_.tr (Nk_.rf _) hN9))) [2, 3, 4, 5, 0] rfl
      · have hw := hw.2 hc7
        refine r_iload_n g dX6_collect_31 rfl 4 rfl ?_
        refine r_if_ne (tgt := 45) g dX6_collect_32 (by decide) (fun hc8 => ?_) (fun hc8 => ?_)
        · have hw := hw.2 hc8
          refine r_aload_n g dX6_collect_45 rfl 1 rfl ?_
          refine r_gt (C := RX6) (T := TX6) (N := 10) g (ci := 7) rfl tc_X6 hp0 1 (by decide) tw_270 (fun _ h => h) rfl dX6_collect_46 ?_
          refine r_sipush (v := 600) g dX6_collect_49 (by decide) ?_
          refine r_icmp_ge (tgt := 76) g dX6_collect_52 (by decide) (fun hc9 => ?_) (fun hc9 => ?_)
          · have hw := hw.1 hc9
            refine r_iinc (v := x4 + (1 : Int32)) (L' := [(4, .int (x4 + (1 : Int32))), (5, .int (it_ M (rf_ M a2 0) (ix_ x4))), (0, .ref a0), (1, .ref a1), (2, .ref a2), (3, .int x3)]) g dX6_collect_76 5 rfl rfl (by decide) rfl ?_
            refine r_goto (tgt := 3) g dX6_collect_79 (by decide) ?_
            exact V_.sub (ih E (x4 + (1 : Int32)) _ hw hp0 hp1 hp2 (fun  M9 hE9 hN9 => kE  M9 hE9 (Nk_.tr (Nk_.rf _) hN9))) [2, 3, 4, 5, 0] rfl
          · have hw := hw.2 hc9
            refine r_aload_n g dX6_collect_55 rfl 1 rfl ?_
            obtain ⟨hk10, hw⟩ := hw
            refine r_gtR (C := RX6) (T := TX6) (N := 10) g (ci := 7) rfl tc_X6 hp0 0 (by decide) tw_268 (fun _ h => h) rfl (k_ne hk10 (by decide)) dX6_collect_56 ?_
            refine r_aload_n g dX6_collect_59 rfl 1 rfl ?_
            refine r_gt (C := RX6) (T := TX6) (N := 10) g (ci := 7) rfl tc_X6 hp0 1 (by decide) tw_270 (fun _ h => h) rfl dX6_collect_60 ?_
            refine r_iload g dX6_collect_63 0 rfl ?_
            obtain ⟨hi11, hw⟩ := hw
            refine r_iast g hk10 hi11 dX6_collect_65 ?_
            have hw := hw _ rfl
            refine r_aload_n g dX6_collect_66 rfl 1 rfl ?_
            refine r_dup g dX6_collect_67 rfl ?_
            refine r_gt (C := RX6) (T := TX6) (N := 10) g (ci := 7) rfl tc_X6 hp0 1 (by decide) tw_270 (fun _ h => h) rfl dX6_collect_68 ?_
            refine r_iconst (v := 1) g dX6_collect_71 (by decide) ?_
            refine r_iadd g dX6_collect_72 ?_
            refine r_ptI (C := RX6) (T := TX6) (N := 10) g (ci := 7) rfl tc_X6 tyX6 tyX6_ok nmX6 hp0 1 (by decide) tw_270 (fun _ h => h) rfl rfl rfl rfl dX6_collect_73 ?_
            have hw := hw _ rfl
            refine r_iinc (v := x4 + (1 : Int32)) (L' := [(4, .int (x4 + (1 : Int32))), (5, .int (it_ M (rf_ M a2 0) (ix_ x4))), (0, .ref a0), (1, .ref a1), (2, .ref a2), (3, .int x3)]) g dX6_collect_76 5 rfl rfl (by decide) rfl ?_
            refine r_goto (tgt := 3) g dX6_collect_79 (by decide) ?_
            exact V_.sub (ih E (x4 + (1 : Int32)) _ hw hp0 hp1 hp2 (fun  M9 hE9 hN9 => kE  M9 hE9 (Nk_.tr (Nk_.rf _) hN9))) [2, 3, 4, 5, 0] rfl
        · have hw := hw.1 hc8
          refine r_aload_n g dX6_collect_35 rfl 1 rfl ?_
          obtain ⟨hk14, hw⟩ := hw
          refine r_gtR (C := RX6) (T := TX6) (N := 10) g (ci := 7) rfl tc_X6 hp0 7 (by decide) tw_279 (fun _ h => h) rfl (k_ne hk14 (by decide)) dX6_collect_36 ?_
          refine r_iload g dX6_collect_39 5 rfl ?_
          obtain ⟨hi15, hw⟩ := hw
          refine r_zald g hk14 hi15 dX6_collect_41 (fun hb16 => ?_)
          have hw := hw hb16
          refine r_if_eq (tgt := 76) g dX6_collect_42 (by decide) (fun hc17 => ?_) (fun hc17 => ?_)
          · have hw := hw.1 hc17
            refine r_iinc (v := x4 + (1 : Int32)) (L' := [(4, .int (x4 + (1 : Int32))), (5, .int (it_ M (rf_ M a2 0) (ix_ x4))), (0, .ref a0), (1, .ref a1), (2, .ref a2), (3, .int x3)]) g dX6_collect_76 5 rfl rfl (by decide) rfl ?_
            refine r_goto (tgt := 3) g dX6_collect_79 (by decide) ?_
            exact V_.sub (ih E (x4 + (1 : Int32)) _ hw hp0 hp1 hp2 (fun  M9 hE9 hN9 => kE  M9 hE9 (Nk_.tr (Nk_.rf _) hN9))) [2, 3, 4, 5, 0] rfl
          · have hw := hw.2 hc17
            refine r_aload_n g dX6_collect_45 rfl 1 rfl ?_
            refine r_gt (C := RX6) (T := TX6) (N := 10) g (ci := 7) rfl tc_X6 hp0 1 (by decide) tw_270 (fun _ h => h) rfl dX6_collect_46 ?_
            refine r_sipush (v := 600) g dX6_collect_49 (by decide) ?_
            refine r_icmp_ge (tgt := 76) g dX6_collect_52 (by decide) (fun hc18 => ?_) (fun hc18 => ?_)
            · have hw := hw.1 hc18
              refine r_iinc (v := x4 + (1 : Int32)) (L' := [(4, .int (x4 + (1 : Int32))), (5, .int (it_ M (rf_ M a2 0) (ix_ x4))), (0, .ref a0), (1, .ref a1), (2, .ref a2), (3, .int x3)]) g dX6_collect_76 5 rfl rfl (by decide) rfl ?_
              refine r_goto (tgt := 3) g dX6_collect_79 (by decide) ?_
              exact V_.sub (ih E (x4 + (1 : Int32)) _ hw hp0 hp1 hp2 (fun  M9 hE9 hN9 => kE  M9 hE9 (Nk_.tr (Nk_.rf _) hN9))) [2, 3, 4, 5, 0] rfl
            · have hw := hw.2 hc18
              refine r_aload_n g dX6_collect_55 rfl 1 rfl ?_
              obtain ⟨hk19, hw⟩ := hw
              refine r_gtR (C := RX6) (T := TX6) (N := 10) g (ci := 7) rfl tc_X6 hp0 0 (by decide) tw_268 (fun _ h => h) rfl (k_ne hk19 (by decide)) dX6_collect_56 ?_
              refine r_aload_n g dX6_collect_59 rfl 1 rfl ?_
              refine r_gt (C := RX6) (T := TX6) (N := 10) g (ci := 7) rfl tc_X6 hp0 1 (by decide) tw_270 (fun _ h => h) rfl dX6_collect_60 ?_
              refine r_iload g dX6_collect_63 0 rfl ?_
              obtain ⟨hi20, hw⟩ := hw
              refine r_iast g hk19 hi20 dX6_collect_65 ?_
              have hw := hw _ rfl
              refine r_aload_n g dX6_collect_66 rfl 1 rfl ?_
              refine r_dup g dX6_collect_67 rfl ?_
              refine r_gt (C := RX6) (T := TX6) (N := 10) g (ci := 7) rfl tc_X6 hp0 1 (by decide) tw_270 (fun _ h => h) rfl dX6_collect_68 ?_
              refine r_iconst (v := 1) g dX6_collect_71 (by decide) ?_
              refine r_iadd g dX6_collect_72 ?_
              refine r_ptI (C := RX6) (T := TX6) (N := 10) g (ci := 7) rfl tc_X6 tyX6 tyX6_ok nmX6 hp0 1 (by decide) tw_270 (fun _ h => h) rfl rfl rfl rfl dX6_collect_73 ?_
              have hw := hw _ rfl
              refine r_iinc (v := x4 + (1 : Int32)) (L' := [(4, .int (x4 + (1 : Int32))), (5, .int (it_ M (rf_ M a2 0) (ix_ x4))), (0, .ref a0), (1, .ref a1), (2, .ref a2), (3, .int x3)]) g dX6_collect_76 5 rfl rfl (by decide) rfl ?_
              refine r_goto (tgt := 3) g dX6_collect_79 (by decide) ?_
              exact V_.sub (ih E (x4 + (1 : Int32)) _ hw hp0 hp1 hp2 (fun  M9 hE9 hN9 => kE  M9 hE9 (Nk_.tr (Nk_.rf _) hN9))) [2, 3, 4, 5, 0] rfl
set_option maxHeartbeats 4000000 in
set_option maxRecDepth 100000 in
theorem mt_X6_collect {l : Launch} {D : Dd_} {M : Mm} {a0 : Nat} {a1 : Nat} {a2 : Nat} {x3 : Int32} {K : Mm → Prop} (hw : wp_X6_collect a0 a1 a2 x3 M K) (sz : Nat) : Met l yX6_collect (Cond.code yX6_collect cX6_collect 6 none :: tbG_) rmX6_collect (cPc_ D M sz [.ref a0, .ref a1, .ref a2, .int x3]) (va_Qv (fun M' => K M') (cB_ D M sz) (Aw_ M sz)) 0 0 (Aw_ M sz) := by
  refine ofV (by decide) (Nat.le_of_ble_eq_true rfl) ?_
  intro p e s m below meth c g hr hin hsz
  subst hsz
  obtain ⟨hp0, hp1, hp2, hw⟩ := hw
  refine r_iconst (v := 0) g dX6_collect_0 (by decide) ?_
  refine r_istore (L' := [(4, .int (0 : Int32)), (0, .ref a0), (1, .ref a1), (2, .ref a2), (3, .int x3)]) g dX6_collect_1 (by decide) rfl ?_
  obtain ⟨n23, hw⟩ := hw
  refine V_.sub (lo_X6_collect_3 g hr rfl n23 _ (0 : Int32) _ hw hp0 hp1 hp2 (fun  M24 hE hN25 => ?_)) [1, 2, 3, 4, 0] rfl
  have hw := hE hN25
  have hT26 := Nk_.tr (Nk_.rf _) hN25
  exact r_vret g hr (Nat.le_of_ble_eq_true rfl) (Nat.le_of_ble_eq_true rfl) rfl dX6_collect_82 hw
def rmX6_narrow : Room := { frames := 1, cells := 0, slots := 0, locals := 22 }
theorem hy_X6_narrow : yX6_narrow.cls ≠ "java/lang/invoke/MethodHandle" ∧ yX6_narrow.cls ≠ "java/lang/invoke/VarHandle" ∧ (parseMethodDescriptor yX6_narrow.desc).map (fun d => d.parameters.length) = some 3 := by decide +kernel
def lp_X6_narrow_3 (a0 : Nat) (a1 : Nat) (a2 : Nat) (a3 : Nat) (K : Mm → Prop) (E : Mm → Prop) : Nat → Int32 → Mm → Prop
  | 0, _, _ => False
  | n + 1, x4, M => (((it_ M a1 2) ≤ x4 → E M) ∧ (¬ (it_ M a1 2) ≤ x4 → (kd_ M (rf_ M a1 0) = 20 ∧ (vp_in x4 (ln_ M (rf_ M a1 0)) ∧ (kd_ M (rf_ M a0 5) = 21 ∧ (vp_in x4 (ln_ M (rf_ M a0 5)) ∧ (bz_ (it_ M (rf_ M a0 5) (ix_ x4)) → (((it_ M (rf_ M a0 5) (ix_ x4)) = 0 → lp_X6_narrow_3 a0 a1 a2 a3 K E n (x4 + (1 : Int32)) M) ∧ (¬ (it_ M (rf_ M a0 5) (ix_ x4)) = 0 → (kd_ M (rf_ M a3 1) = 21 ∧ (vp_in (it_ M (rf_ M a1 0) (ix_ x4)) (ln_ M (rf_ M a3 1)) ∧ (bz_ (it_ M (rf_ M a3 1) (ix_ (it_ M (rf_ M a1 0) (ix_ x4)))) → (kd_ M (rf_ M a3 0) = 20 ∧ (vp_in (it_ M (rf_ M a1 0) (ix_ x4)) (ln_ M (rf_ M a3 0)) ∧ (wp_X2_isMetBy a2 (it_ M (rf_ M a3 1) (ix_ (it_ M (rf_ M a1 0) (ix_ x4)))) (it_ M (rf_ M a3 0) (ix_ (it_ M (rf_ M a1 0) (ix_ x4)))) M (fun M13 r14 => Nk_ M M13 → bz_ r14 → ((r14 = 0 → (kd_ M13 (rf_ M13 a0 5) = 21 ∧ (vp_in x4 (ln_ M13 (rf_ M13 a0 5)) ∧ (∀ M26, M26 = sI_ M13 (rf_ M13 a0 5) (ix_ x4) (0 : Int32) → (∀ M27, M27 = sI_ M26 a0 6 ((it_ M26 a0 6) - (1 : Int32)) → lp_X6_narrow_3 a0 a1 a2 a3 K E n (x4 + (1 : Int32)) M27))))) ∧ (¬ r14 = 0 → lp_X6_narrow_3 a0 a1 a2 a3 K E n (x4 + (1 : Int32)) M13))))))))))))))))))
def wp_X6_narrow (a0 : Nat) (a1 : Nat) (a2 : Nat) (a3 : Nat) (M : Mm) (K : Mm → Prop) : Prop := kd_ M a0 = 8 ∧ kd_ M a1 = 2 ∧ kd_ M a2 = 4 ∧ kd_ M a3 = 3 ∧ (∃ n28 : Nat, lp_X6_narrow_3 a0 a1 a2 a3 K (fun  M29 => Nk_ M M29 → K M29) n28 (0 : Int32) M)
set_option maxHeartbeats 4000000 in
set_option maxRecDepth 100000 in
theorem lo_X6_narrow_3 {p : Program} {l : Launch} {e : Env} {s : State} {m : MethodId} {args : Array Value} {below : List Frame} {meth : Method} {c : Code} {D : Dd_} {M0 : Mm} {Q : State → Prop} {K : Mm → Prop} (g : G_ p s m args meth c cX6_narrow 6 RX6 D M0) (hr : meth.sig.returnType = none) (hQ : Q = MQ below (va_Qv (fun M' => K M') (cB_ D M0 s.heap.size) (Aw_ M0 s.heap.size)) args s 0 0 (Aw_ M0 s.heap.size)) {a0 : Nat} {a1 : Nat} {a2 : Nat} {a3 : Nat} : ∀ (n : Nat) (E : Mm → Prop) (x4 : Int32) (M : Mm), lp_X6_narrow_3 a0 a1 a2 a3 K E n x4 M → kd_ M a0 = 8 → kd_ M a1 = 2 → kd_ M a2 = 4 → kd_ M a3 = 3 → (∀  (M' : Mm), E  M' → Nk_ M M' → V_ p l e rmX6_narrow s m args below meth c 6 D M0 Q 76 [] [] M' 0 0) → V_ p l e rmX6_narrow s m args below meth c 6 D M0 Q 3 [(0, .ref a0), (1, .ref a1), (2, .ref a2), (3, .ref a3), (4, .int x4)] [] M 0 0 := by
  intro n
  induction n with
  | zero =>
    intro E x4 M hw
    exact hw.elim
  | succ n ih =>
    intro E x4 M hw hp0 hp1 hp2 hp3 kE
    refine r_iload g dX6_narrow_3 4 rfl ?_
    refine r_aload_n g dX6_narrow_5 rfl 1 rfl ?_
    refine r_gt (C := RX0) (T := TX0) (N := 4) g (ci := 1) rfl tc_X0 hp1 2 (by decide) tw_148 (fun _ h => h) rfl dX6_narrow_6 ?_
    refine r_icmp_ge (tgt := 76) g dX6_narrow_9 (by decide) (fun hc1 => ?_) (fun hc1 => ?_)
    · have hw := hw.1 hc1
      exact V_.sub (kE  _ hw (Nk_.rf _)) [] rfl
    · have hw := hw.2 hc1
      refine r_aload_n g dX6_narrow_12 rfl 1 rfl ?_
      obtain ⟨hk2, hw⟩ := hw
      refine r_gtR (C := RX0) (T := TX0) (N := 4) g (ci := 1) rfl tc_X0 hp1 0 (by decide) tw_140 (fun _ h => h) rfl (k_ne hk2 (by decide)) dX6_narrow_13 ?_
      refine r_iload g dX6_narrow_16 4 rfl ?_
      obtain ⟨hi3, hw⟩ := hw
      refine r_iald g (Or.inl hk2) hi3 dX6_narrow_18 ?_
      refine r_istore (L' := [(5, .int (it_ M (rf_ M a1 0) (ix_ x4))), (0, .ref a0), (1, .ref a1), (2, .ref a2), (3, .ref a3), (4, .int x4)]) g dX6_narrow_19 (by decide) rfl ?_
      refine r_aload_n g dX6_narrow_21 rfl 1 rfl ?_
      obtain ⟨hk4, hw⟩ := hw
      refine r_gtR (C := RX6) (T := TX6) (N := 10) g (ci := 7) rfl tc_X6 hp0 5 (by decide) tw_277 (fun _ h => h) rfl (k_ne hk4 (by decide)) dX6_narrow_22 ?_
      refine r_iload g dX6_narrow_25 5 rfl ?_
      obtain ⟨hi5, hw⟩ := hw
      refine r_zald g hk4 hi5 dX6_narrow_27 (fun hb6 => ?_)
      have hw := hw hb6
      refine r_if_eq (tgt := 70) g dX6_narrow_28 (by decide) (fun hc7 => ?_) (fun hc7 => ?_)
      · have hw := hw.1 hc7
        refine r_iinc (v := x4 + (1 : Int32)) (L' := [(4, .int (x4 + (1 : Int32))), (5, .int (it_ M (rf_ M a1 0) (ix_ x4))), (0, .ref a0), (1, .ref a1), (2, .ref a2), (3, .ref a3)]) g dX6_narrow_70 5 rfl rfl (by decide) rfl ?_
        refine r_goto (tgt := 3) g dX6_narrow_73 (by decide) ?_
        exact V_.sub (ih E (x4 + (1 : Int32)) _ hw hp0 hp1 hp2 hp3 (fun  M9 hE9 hN9 => kE  M9 hE9 (Nk_.tr (Nk_.rf _) hN9))) [2, 3, 4, 5, 0] rfl
      · have hw := hw.2 hc7
        refine r_aload_n g dX6_narrow_31 rfl 3 rfl ?_
        refine r_aload_n g dX6_narrow_32 rfl 4 rfl ?_
        obtain ⟨hk8, hw⟩ := hw
        refine r_gtR (C := RX1) (T := TX1) (N := 5) g (ci := 2) rfl tc_X1 hp3 1 (by decide) tw_445 (fun _ h => h) rfl (k_ne hk8 (by decide)) dX6_narrow_33 ?_
        refine r_iload g dX6_narrow_36 0 rfl ?_
        obtain ⟨hi9, hw⟩ := hw
        refine r_zald g hk8 hi9 dX6_narrow_38 (fun hb10 => ?_)
        have hw := hw hb10
        refine r_aload_n g dX6_narrow_39 rfl 4 rfl ?_
        obtain ⟨hk11, hw⟩ := hw
        refine r_gtR (C := RX1) (T := TX1) (N := 5) g (ci := 2) rfl tc_X1 hp3 0 (by decide) tw_440 (fun _ h => h) rfl (k_ne hk11 (by decide)) dX6_narrow_40 ?_
        refine r_iload g dX6_narrow_43 0 rfl ?_
        obtain ⟨hi12, hw⟩ := hw
        refine r_iald g (Or.inl hk11) hi12 dX6_narrow_45 ?_
        refine r_callVz (As := [.int (it_ M (rf_ M a3 1) (ix_ (it_ M (rf_ M a1 0) (ix_ x4)))), .int (it_ M (rf_ M a3 0) (ix_ (it_ M (rf_ M a1 0) (ix_ x4))))]) g (fun sz => mt_X2_isMetBy hw sz) tw_610 tw_605 tw_11 tw_603 tw_604 (ci := 3) (T := TX2) (N := 3) rfl hp2 hy_X2_isMetBy ⟨rfl, rfl⟩ (Nat.le_of_ble_eq_true rfl) (Nat.le_of_ble_eq_true rfl) (Nat.le_of_ble_eq_true rfl) (Nat.le_of_ble_eq_true rfl) (Nat.le_of_ble_eq_true rfl) rfl dX6_narrow_46 (fun M13 r14 hK15 hb17 hN16 => ?_)
        have hw := hK15 hN16 hb17
        have hk18 := Nk_.k hN16 hp0 (by decide)
        have hk19 := Nk_.k hN16 hp1 (by decide)
        have hk20 := Nk_.k hN16 hp2 (by decide)
        have hk21 := Nk_.k hN16 hp3 (by decide)
        have hT22 := Nk_.tr (Nk_.rf _) hN16
        refine r_if_ne (tgt := 70) g dX6_narrow_49 (by decide) (fun hc23 => ?_) (fun hc23 => ?_)
        · have hw := hw.2 hc23
          refine r_iinc (v := x4 + (1 : Int32)) (L' := [(4, .int (x4 + (1 : Int32))), (5, .int (it_ M (rf_ M a1 0) (ix_ x4))), (0, .ref a0), (1, .ref a1), (2, .ref a2), (3, .ref a3)]) g dX6_narrow_70 5 rfl rfl (by decide) rfl ?_
          refine r_goto (tgt := 3) g dX6_narrow_73 (by decide) ?_
          exact V_.sub (ih E (x4 + (1 : Int32)) _ hw hk18 hk19 hk20 hk21 (fun  M9 hE9 hN9 => kE  M9 hE9 (Nk_.tr hT22 hN9))) [2, 3, 4, 5, 0] rfl
        · have hw := hw.1 hc23
          refine r_aload_n g dX6_narrow_52 rfl 1 rfl ?_
          obtain ⟨hk24, hw⟩ := hw
          refine r_gtR (C := RX6) (T := TX6) (N := 10) g (ci := 7) rfl tc_X6 hk18 5 (by decide) tw_277 (fun _ h => h) rfl (k_ne hk24 (by decide)) dX6_narrow_53 ?_
          refine r_iload g dX6_narrow_56 5 rfl ?_
          refine r_iconst (v := 0) g dX6_narrow_58 (by decide) ?_
          obtain ⟨hi25, hw⟩ := hw
          refine r_zast g hk24 hi25 (Or.inl rfl) dX6_narrow_59 ?_
          have hw := hw _ rfl
          refine r_aload_n g dX6_narrow_60 rfl 1 rfl ?_
          refine r_dup g dX6_narrow_61 rfl ?_
          refine r_gt (C := RX6) (T := TX6) (N := 10) g (ci := 7) rfl tc_X6 hk18 6 (by decide) tw_278 (fun _ h => h) rfl dX6_narrow_62 ?_
          refine r_iconst (v := 1) g dX6_narrow_65 (by decide) ?_
          refine r_isub g dX6_narrow_66 ?_
          refine r_ptI (C := RX6) (T := TX6) (N := 10) g (ci := 7) rfl tc_X6 tyX6 tyX6_ok nmX6 hk18 6 (by decide) tw_278 (fun _ h => h) rfl rfl rfl rfl dX6_narrow_67 ?_
          have hw := hw _ rfl
          refine r_iinc (v := x4 + (1 : Int32)) (L' := [(4, .int (x4 + (1 : Int32))), (5, .int (it_ M (rf_ M a1 0) (ix_ x4))), (0, .ref a0), (1, .ref a1), (2, .ref a2), (3, .ref a3)]) g dX6_narrow_70 5 rfl rfl (by decide) rfl ?_
          refine r_goto (tgt := 3) g dX6_narrow_73 (by decide) ?_
          exact V_.sub (ih E (x4 + (1 : Int32)) _ hw hk18 hk19 hk20 hk21 (fun  M9 hE9 hN9 => kE  M9 hE9 (Nk_.tr hT22 hN9))) [2, 3, 4, 5, 0] rfl
set_option maxHeartbeats 4000000 in
set_option maxRecDepth 100000 in
theorem mt_X6_narrow {l : Launch} {D : Dd_} {M : Mm} {a0 : Nat} {a1 : Nat} {a2 : Nat} {a3 : Nat} {K : Mm → Prop} (hw : wp_X6_narrow a0 a1 a2 a3 M K) (sz : Nat) : Met l yX6_narrow (Cond.code yX6_narrow cX6_narrow 6 none :: tbG_) rmX6_narrow (cPc_ D M sz [.ref a0, .ref a1, .ref a2, .ref a3]) (va_Qv (fun M' => K M') (cB_ D M sz) (Aw_ M sz)) 0 0 (Aw_ M sz) := by
  refine ofV (by decide) (Nat.le_of_ble_eq_true rfl) ?_
  intro p e s m below meth c g hr hin hsz
  subst hsz
  obtain ⟨hp0, hp1, hp2, hp3, hw⟩ := hw
  refine r_iconst (v := 0) g dX6_narrow_0 (by decide) ?_
  refine r_istore (L' := [(4, .int (0 : Int32)), (0, .ref a0), (1, .ref a1), (2, .ref a2), (3, .ref a3)]) g dX6_narrow_1 (by decide) rfl ?_
  obtain ⟨n28, hw⟩ := hw
  refine V_.sub (lo_X6_narrow_3 g hr rfl n28 _ (0 : Int32) _ hw hp0 hp1 hp2 hp3 (fun  M29 hE hN30 => ?_)) [1, 2, 3, 4, 0] rfl
  have hw := hE hN30
  have hT31 := Nk_.tr (Nk_.rf _) hN30
  exact r_vret g hr (Nat.le_of_ble_eq_true rfl) (Nat.le_of_ble_eq_true rfl) rfl dX6_narrow_76 hw
def rmX6_costIn : Room := { frames := 2, cells := 0, slots := 0, locals := 45 }
theorem hy_X6_costIn : yX6_costIn.cls ≠ "java/lang/invoke/MethodHandle" ∧ yX6_costIn.cls ≠ "java/lang/invoke/VarHandle" ∧ (parseMethodDescriptor yX6_costIn.desc).map (fun d => d.parameters.length) = some 3 := by decide +kernel
def wp_X6_costIn (a0 : Nat) (a1 : Nat) (a2 : Nat) (a3 : Nat) (M : Mm) (K : Mm → Int32 → Prop) : Prop := kd_ M a0 = 8 ∧ kd_ M a1 = 11 ∧ kd_ M a2 = 4 ∧ kd_ M a3 = 3 ∧ (bz_ (it_ M a0 4) → (((it_ M a0 4) = 0 → (wp_X2_methodIn a2 a1 (0 : Int32) M (fun M3 r4 => Nk_ M M3 → ((r4 = 0 → (K M3 (0 : Int32))) ∧ (r4 = 1 → (K M3 (0 : Int32))) ∧ (r4 = 2 → (wp_X9_bitmapsFor a1 a2 M3 (fun M15 r16 => Nk_ M3 M15 → (K M15 r16)))) ∧ (r4 = 3 → (K M3 (it_ M3 a1 3))) ∧ (r4 = 4 → (K M3 ((it_ M3 a1 2) + (it_ M3 a0 6)))) ∧ (¬ r4 = 0 → ¬ r4 = 1 → ¬ r4 = 2 → ¬ r4 = 3 → ¬ r4 = 4 → (K M3 (it_ M3 a0 6))))))) ∧ (¬ (it_ M a0 4) = 0 → (bz_ (it_ M a3 2) → (((it_ M a3 2) = 0 → (wp_X2_methodIn a2 a1 (0 : Int32) M (fun M29 r30 => Nk_ M M29 → ((r30 = 0 → (K M29 (0 : Int32))) ∧ (r30 = 1 → (K M29 (0 : Int32))) ∧ (r30 = 2 → (wp_X9_bitmapsFor a1 a2 M29 (fun M41 r42 => Nk_ M29 M41 → (K M41 r42)))) ∧ (r30 = 3 → (K M29 (it_ M29 a1 3))) ∧ (r30 = 4 → (K M29 ((it_ M29 a1 2) + (it_ M29 a0 6)))) ∧ (¬ r30 = 0 → ¬ r30 = 1 → ¬ r30 = 2 → ¬ r30 = 3 → ¬ r30 = 4 → (K M29 (it_ M29 a0 6))))))) ∧ (¬ (it_ M a3 2) = 0 → (wp_X2_methodIn a2 a1 (1 : Int32) M (fun M53 r54 => Nk_ M M53 → ((r54 = 0 → (K M53 (0 : Int32))) ∧ (r54 = 1 → (K M53 (0 : Int32))) ∧ (r54 = 2 → (wp_X9_bitmapsFor a1 a2 M53 (fun M65 r66 => Nk_ M53 M65 → (K M65 r66)))) ∧ (r54 = 3 → (K M53 (it_ M53 a1 3))) ∧ (r54 = 4 → (K M53 ((it_ M53 a1 2) + (it_ M53 a0 6)))) ∧ (¬ r54 = 0 → ¬ r54 = 1 → ¬ r54 = 2 → ¬ r54 = 3 → ¬ r54 = 4 → (K M53 (it_ M53 a0 6))))))))))))
set_option maxHeartbeats 4000000 in
set_option maxRecDepth 100000 in
theorem mt_X6_costIn {l : Launch} {D : Dd_} {M : Mm} {a0 : Nat} {a1 : Nat} {a2 : Nat} {a3 : Nat} {K : Mm → Int32 → Prop} (hw : wp_X6_costIn a0 a1 a2 a3 M K) (sz : Nat) : Met l yX6_costIn (Cond.code yX6_costIn cX6_costIn 4 (some .int) :: tbG_) rmX6_costIn (cPc_ D M sz [.ref a0, .ref a1, .ref a2, .ref a3]) (va_Qi (fun r M' => K M' r) (cB_ D M sz) (Aw_ M sz)) 0 0 (Aw_ M sz) := by
  refine ofV (by decide) (Nat.le_of_ble_eq_true rfl) ?_
  intro p e s m below meth c g hr hin hsz
  subst hsz
  obtain ⟨hp0, hp1, hp2, hp3, hw⟩ := hw
  refine r_aload_n g dX6_costIn_0 rfl 2 rfl ?_
  refine r_aload_n g dX6_costIn_1 rfl 1 rfl ?_
  refine r_aload_n g dX6_costIn_2 rfl 0 rfl ?_
  refine r_gtZ (C := RX6) (T := TX6) (N := 10) g (ci := 7) rfl tc_X6 hp0 4 (by decide) tw_276 (fun _ h => h) rfl dX6_costIn_3 (fun hb1 => ?_)
  have hw := hw hb1
  refine r_if_eq (tgt := 20) g dX6_costIn_6 (by decide) (fun hc2 => ?_) (fun hc2 => ?_)
  · have hw := hw.1 hc2
    refine r_iconst (v := 0) g dX6_costIn_20 (by decide) ?_
    refine r_callVi (As := [.ref a1, .int (0 : Int32)]) g (fun sz => mt_X2_methodIn hw sz) tw_590 tw_593 tw_11 tw_591 tw_592 (ci := 3) (T := TX2) (N := 3) rfl hp2 hy_X2_methodIn ⟨rfl, rfl⟩ (Nat.le_of_ble_eq_true rfl) (Nat.le_of_ble_eq_true rfl) (Nat.le_of_ble_eq_true rfl) (Nat.le_of_ble_eq_true rfl) (Nat.le_of_ble_eq_true rfl) rfl dX6_costIn_21 (fun M3 r4 hK5 hN6 => ?_)
    have hw := hK5 hN6
    have hk7 := Nk_.k hN6 hp0 (by decide)
    have hk8 := Nk_.k hN6 hp1 (by decide)
    have hk9 := Nk_.k hN6 hp2 (by decide)
    have hk10 := Nk_.k hN6 hp3 (by decide)
    have hT11 := Nk_.tr (Nk_.rf _) hN6
    by_cases hs12 : r4 = 0
    · have hw := hw.1 hs12
      refine r_tsi (v := 0) (j := 0) (tgt := 60) g dX6_costIn_24 hs12 (by decide) (by decide) (by decide) (by decide) ?_
      refine r_iconst (v := 0) g dX6_costIn_60 (by decide) ?_
      exact r_iret g hr (Nat.le_of_ble_eq_true rfl) (Nat.le_of_ble_eq_true rfl) rfl dX6_costIn_61 hw
    by_cases hs13 : r4 = 1
    · have hw := hw.2.1 hs13
      refine r_tsi (v := 1) (j := 1) (tgt := 60) g dX6_costIn_24 hs13 (by decide) (by decide) (by decide) (by decide) ?_
      refine r_iconst (v := 0) g dX6_costIn_60 (by decide) ?_
      exact r_iret g hr (Nat.le_of_ble_eq_true rfl) (Nat.le_of_ble_eq_true rfl) rfl dX6_costIn_61 hw
    by_cases hs14 : r4 = 2
    · have hw := hw.2.2.1 hs14
      refine r_tsi (v := 2) (j := 2) (tgt := 62) g dX6_costIn_24 hs14 (by decide) (by decide) (by decide) (by decide) ?_
      refine r_aload_n g dX6_costIn_62 rfl 1 rfl ?_
      refine r_aload_n g dX6_costIn_63 rfl 2 rfl ?_
      refine r_callVi (As := [.ref a2]) g (fun sz => mt_X9_bitmapsFor hw sz) tw_598 tw_601 tw_8 tw_599 tw_600 (ci := 10) (T := TX9) (N := 9) rfl hk8 hy_X9_bitmapsFor ⟨rfl, rfl⟩ (Nat.le_of_ble_eq_true rfl) (Nat.le_of_ble_eq_true rfl) (Nat.le_of_ble_eq_true rfl) (Nat.le_of_ble_eq_true rfl) (Nat.le_of_ble_eq_true rfl) rfl dX6_costIn_64 (fun M15 r16 hK17 hN18 => ?_)
      have hw := hK17 hN18
      have hk19 := Nk_.k hN18 hk7 (by decide)
      have hk20 := Nk_.k hN18 hk8 (by decide)
      have hk21 := Nk_.k hN18 hk9 (by decide)
      have hk22 := Nk_.k hN18 hk10 (by decide)
      have hT23 := Nk_.tr hT11 hN18
      exact r_iret g hr (Nat.le_of_ble_eq_true rfl) (Nat.le_of_ble_eq_true rfl) rfl dX6_costIn_67 hw
    by_cases hs24 : r4 = 3
    · have hw := hw.2.2.2.1 hs24
      refine r_tsi (v := 3) (j := 3) (tgt := 68) g dX6_costIn_24 hs24 (by decide) (by decide) (by decide) (by decide) ?_
      refine r_aload_n g dX6_costIn_68 rfl 1 rfl ?_
      refine r_gt (C := RX9) (T := TX9) (N := 9) g (ci := 10) rfl tc_X9 hk8 3 (by decide) tw_106 (fun _ h => h) rfl dX6_costIn_69 ?_
      exact r_iret g hr (Nat.le_of_ble_eq_true rfl) (Nat.le_of_ble_eq_true rfl) rfl dX6_costIn_72 hw
    by_cases hs25 : r4 = 4
    · have hw := hw.2.2.2.2.1 hs25
      refine r_tsi (v := 4) (j := 4) (tgt := 73) g dX6_costIn_24 hs25 (by decide) (by decide) (by decide) (by decide) ?_
      refine r_aload_n g dX6_costIn_73 rfl 1 rfl ?_
      refine r_gt (C := RX9) (T := TX9) (N := 9) g (ci := 10) rfl tc_X9 hk8 2 (by decide) tw_102 (fun _ h => h) rfl dX6_costIn_74 ?_
      refine r_aload_n g dX6_costIn_77 rfl 0 rfl ?_
      refine r_gt (C := RX6) (T := TX6) (N := 10) g (ci := 7) rfl tc_X6 hk7 6 (by decide) tw_278 (fun _ h => h) rfl dX6_costIn_78 ?_
      refine r_iadd g dX6_costIn_81 ?_
      exact r_iret g hr (Nat.le_of_ble_eq_true rfl) (Nat.le_of_ble_eq_true rfl) rfl dX6_costIn_82 hw
    have hw := hw.2.2.2.2.2 hs12 hs13 hs14 hs24 hs25
    refine r_tsd (tgt := 83) g dX6_costIn_24 (sw_out5_0 hs12 hs13 hs14 hs24 hs25) (by decide) ?_
    refine r_aload_n g dX6_costIn_83 rfl 0 rfl ?_
    refine r_gt (C := RX6) (T := TX6) (N := 10) g (ci := 7) rfl tc_X6 hk7 6 (by decide) tw_278 (fun _ h => h) rfl dX6_costIn_84 ?_
    exact r_iret g hr (Nat.le_of_ble_eq_true rfl) (Nat.le_of_ble_eq_true rfl) rfl dX6_costIn_87 hw
  · have hw := hw.2 hc2
    refine r_aload_n g dX6_costIn_9 rfl 3 rfl ?_
    refine r_gtZ (C := RX1) (T := TX1) (N := 5) g (ci := 2) rfl tc_X1 hp3 2 (by decide) tw_448 (fun _ h => h) rfl dX6_costIn_10 (fun hb27 => ?_)
    have hw := hw hb27
    refine r_if_eq (tgt := 20) g dX6_costIn_13 (by decide) (fun hc28 => ?_) (fun hc28 => ?_)
    · have hw := hw.1 hc28
      refine r_iconst (v := 0) g dX6_costIn_20 (by decide) ?_
      refine r_callVi (As := [.ref a1, .int (0 : Int32)]) g (fun sz => mt_X2_methodIn hw sz) tw_590 tw_593 tw_11 tw_591 tw_592 (ci := 3) (T := TX2) (N := 3) rfl hp2 hy_X2_methodIn ⟨rfl, rfl⟩ (Nat.le_of_ble_eq_true rfl) (Nat.le_of_ble_eq_true rfl) (Nat.le_of_ble_eq_true rfl) (Nat.le_of_ble_eq_true rfl) (Nat.le_of_ble_eq_true rfl) rfl dX6_costIn_21 (fun M29 r30 hK31 hN32 => ?_)
      have hw := hK31 hN32
      have hk33 := Nk_.k hN32 hp0 (by decide)
      have hk34 := Nk_.k hN32 hp1 (by decide)
      have hk35 := Nk_.k hN32 hp2 (by decide)
      have hk36 := Nk_.k hN32 hp3 (by decide)
      have hT37 := Nk_.tr (Nk_.rf _) hN32
      by_cases hs38 : r30 = 0
      · have hw := hw.1 hs38
        refine r_tsi (v := 0) (j := 0) (tgt := 60) g dX6_costIn_24 hs38 (by decide) (by decide) (by decide) (by decide) ?_
        refine r_iconst (v := 0) g dX6_costIn_60 (by decide) ?_
        exact r_iret g hr (Nat.le_of_ble_eq_true rfl) (Nat.le_of_ble_eq_true rfl) rfl dX6_costIn_61 hw
      by_cases hs39 : r30 = 1
      · have hw := hw.2.1 hs39
        refine r_tsi (v := 1) (j := 1) (tgt := 60) g dX6_costIn_24 hs39 (by decide) (by decide) (by decide) (by decide) ?_
        refine r_iconst (v := 0) g dX6_costIn_60 (by decide) ?_
        exact r_iret g hr (Nat.le_of_ble_eq_true rfl) (Nat.le_of_ble_eq_true rfl) rfl dX6_costIn_61 hw
      by_cases hs40 : r30 = 2
      · have hw := hw.2.2.1 hs40
        refine r_tsi (v := 2) (j := 2) (tgt := 62) g dX6_costIn_24 hs40 (by decide) (by decide) (by decide) (by decide) ?_
        refine r_aload_n g dX6_costIn_62 rfl 1 rfl ?_
        refine r_aload_n g dX6_costIn_63 rfl 2 rfl ?_
        refine r_callVi (As := [.ref a2]) g (fun sz => mt_X9_bitmapsFor hw sz) tw_598 tw_601 tw_8 tw_599 tw_600 (ci := 10) (T := TX9) (N := 9) rfl hk34 hy_X9_bitmapsFor ⟨rfl, rfl⟩ (Nat.le_of_ble_eq_true rfl) (Nat.le_of_ble_eq_true rfl) (Nat.le_of_ble_eq_true rfl) (Nat.le_of_ble_eq_true rfl) (Nat.le_of_ble_eq_true rfl) rfl dX6_costIn_64 (fun M41 r42 hK43 hN44 => ?_)
        have hw := hK43 hN44
        have hk45 := Nk_.k hN44 hk33 (by decide)
        have hk46 := Nk_.k hN44 hk34 (by decide)
        have hk47 := Nk_.k hN44 hk35 (by decide)
        have hk48 := Nk_.k hN44 hk36 (by decide)
        have hT49 := Nk_.tr hT37 hN44
        exact r_iret g hr (Nat.le_of_ble_eq_true rfl) (Nat.le_of_ble_eq_true rfl) rfl dX6_costIn_67 hw
      by_cases hs50 : r30 = 3
      · have hw := hw.2.2.2.1 hs50
        refine r_tsi (v := 3) (j := 3) (tgt := 68) g dX6_costIn_24 hs50 (by decide) (by decide) (by decide) (by decide) ?_
        refine r_aload_n g dX6_costIn_68 rfl 1 rfl ?_
        refine r_gt (C := RX9) (T := TX9) (N := 9) g (ci := 10) rfl tc_X9 hk34 3 (by decide) tw_106 (fun _ h => h) rfl dX6_costIn_69 ?_
        exact r_iret g hr (Nat.le_of_ble_eq_true rfl) (Nat.le_of_ble_eq_true rfl) rfl dX6_costIn_72 hw
      by_cases hs51 : r30 = 4
      · have hw := hw.2.2.2.2.1 hs51
        refine r_tsi (v := 4) (j := 4) (tgt := 73) g dX6_costIn_24 hs51 (by decide) (by decide) (by decide) (by decide) ?_
        refine r_aload_n g dX6_costIn_73 rfl 1 rfl ?_
        refine r_gt (C := RX9) (T := TX9) (N := 9) g (ci := 10) rfl tc_X9 hk34 2 (by decide) tw_102 (fun _ h => h) rfl dX6_costIn_74 ?_
        refine r_aload_n g dX6_costIn_77 rfl 0 rfl ?_
        refine r_gt (C := RX6) (T := TX6) (N := 10) g (ci := 7) rfl tc_X6 hk33 6 (by decide) tw_278 (fun _ h => h) rfl dX6_costIn_78 ?_
        refine r_iadd g dX6_costIn_81 ?_
        exact r_iret g hr (Nat.le_of_ble_eq_true rfl) (Nat.le_of_ble_eq_true rfl) rfl dX6_costIn_82 hw
      have hw := hw.2.2.2.2.2 hs38 hs39 hs40 hs50 hs51
      refine r_tsd (tgt := 83) g dX6_costIn_24 (sw_out5_0 hs38 hs39 hs40 hs50 hs51) (by decide) ?_
      refine r_aload_n g dX6_costIn_83 rfl 0 rfl ?_
      refine r_gt (C := RX6) (T := TX6) (N := 10) g (ci := 7) rfl tc_X6 hk33 6 (by decide) tw_278 (fun _ h => h) rfl dX6_costIn_84 ?_
      exact r_iret g hr (Nat.le_of_ble_eq_true rfl) (Nat.le_of_ble_eq_true rfl) rfl dX6_costIn_87 hw
    · have hw := hw.2 hc28
      refine r_iconst (v := 1) g dX6_costIn_16 (by decide) ?_
      refine r_goto (tgt := 21) g dX6_costIn_17 (by decide) ?_
      refine r_callVi (As := [.ref a1, .int (1 : Int32)]) g (fun sz => mt_X2_methodIn hw sz) tw_590 tw_593 tw_11 tw_591 tw_592 (ci := 3) (T := TX2) (N := 3) rfl hp2 hy_X2_methodIn ⟨rfl, rfl⟩ (Nat.le_of_ble_eq_true rfl) (Nat.le_of_ble_eq_true rfl) (Nat.le_of_ble_eq_true rfl) (Nat.le_of_ble_eq_true rfl) (Nat.le_of_ble_eq_true rfl) rfl dX6_costIn_21 (fun M53 r54 hK55 hN56 => ?_)
      have hw := hK55 hN56
      have hk57 := Nk_.k hN56 hp0 (by decide)
      have hk58 := Nk_.k hN56 hp1 (by decide)
      have hk59 := Nk_.k hN56 hp2 (by decide)
      have hk60 := Nk_.k hN56 hp3 (by decide)
      have hT61 := Nk_.tr (Nk_.rf _) hN56
      by_cases hs62 : r54 = 0
      · have hw := hw.1 hs62
        refine r_tsi (v := 0) (j := 0) (tgt := 60) g dX6_costIn_24 hs62 (by decide) (by decide) (by decide) (by decide) ?_
        refine r_iconst (v := 0) g dX6_costIn_60 (by decide) ?_
        exact r_iret g hr (Nat.le_of_ble_eq_true rfl) (Nat.le_of_ble_eq_true rfl) rfl dX6_costIn_61 hw
      by_cases hs63 : r54 = 1
      · have hw := hw.2.1 hs63
        refine r_tsi (v := 1) (j := 1) (tgt := 60) g dX6_costIn_24 hs63 (by decide) (by decide) (by decide) (by decide) ?_
        refine r_iconst (v := 0) g dX6_costIn_60 (by decide) ?_
        exact r_iret g hr (Nat.le_of_ble_eq_true rfl) (Nat.le_of_ble_eq_true rfl) rfl dX6_costIn_61 hw
      by_cases hs64 : r54 = 2
      · have hw := hw.2.2.1 hs64
        refine r_tsi (v := 2) (j := 2) (tgt := 62) g dX6_costIn_24 hs64 (by decide) (by decide) (by decide) (by decide) ?_
        refine r_aload_n g dX6_costIn_62 rfl 1 rfl ?_
        refine r_aload_n g dX6_costIn_63 rfl 2 rfl ?_
        refine r_callVi (As := [.ref a2]) g (fun sz => mt_X9_bitmapsFor hw sz) tw_598 tw_601 tw_8 tw_599 tw_600 (ci := 10) (T := TX9) (N := 9) rfl hk58 hy_X9_bitmapsFor ⟨rfl, rfl⟩ (Nat.le_of_ble_eq_true rfl) (Nat.le_of_ble_eq_true rfl) (Nat.le_of_ble_eq_true rfl) (Nat.le_of_ble_eq_true rfl) (Nat.le_of_ble_eq_true rfl) rfl dX6_costIn_64 (fun M65 r66 hK67 hN68 => ?_)
        have hw := hK67 hN68
        have hk69 := Nk_.k hN68 hk57 (by decide)
        have hk70 := Nk_.k hN68 hk58 (by decide)
        have hk71 := Nk_.k hN68 hk59 (by decide)
        have hk72 := Nk_.k hN68 hk60 (by decide)
        have hT73 := Nk_.tr hT61 hN68
        exact r_iret g hr (Nat.le_of_ble_eq_true rfl) (Nat.le_of_ble_eq_true rfl) rfl dX6_costIn_67 hw
      by_cases hs74 : r54 = 3
      · have hw := hw.2.2.2.1 hs74
        refine r_tsi (v := 3) (j := 3) (tgt := 68) g dX6_costIn_24 hs74 (by decide) (by decide) (by decide) (by decide) ?_
        refine r_aload_n g dX6_costIn_68 rfl 1 rfl ?_
        refine r_gt (C := RX9) (T := TX9) (N := 9) g (ci := 10) rfl tc_X9 hk58 3 (by decide) tw_106 (fun _ h => h) rfl dX6_costIn_69 ?_
        exact r_iret g hr (Nat.le_of_ble_eq_true rfl) (Nat.le_of_ble_eq_true rfl) rfl dX6_costIn_72 hw
      by_cases hs75 : r54 = 4
      · have hw := hw.2.2.2.2.1 hs75
        refine r_tsi (v := 4) (j := 4) (tgt := 73) g dX6_costIn_24 hs75 (by decide) (by decide) (by decide) (by decide) ?_
        refine r_aload_n g dX6_costIn_73 rfl 1 rfl ?_
        refine r_gt (C := RX9) (T := TX9) (N := 9) g (ci := 10) rfl tc_X9 hk58 2 (by decide) tw_102 (fun _ h => h) rfl dX6_costIn_74 ?_
        refine r_aload_n g dX6_costIn_77 rfl 0 rfl ?_
        refine r_gt (C := RX6) (T := TX6) (N := 10) g (ci := 7) rfl tc_X6 hk57 6 (by decide) tw_278 (fun _ h => h) rfl dX6_costIn_78 ?_
        refine r_iadd g dX6_costIn_81 ?_
        exact r_iret g hr (Nat.le_of_ble_eq_true rfl) (Nat.le_of_ble_eq_true rfl) rfl dX6_costIn_82 hw
      have hw := hw.2.2.2.2.2 hs62 hs63 hs64 hs74 hs75
      refine r_tsd (tgt := 83) g dX6_costIn_24 (sw_out5_0 hs62 hs63 hs64 hs74 hs75) (by decide) ?_
      refine r_aload_n g dX6_costIn_83 rfl 0 rfl ?_
      refine r_gt (C := RX6) (T := TX6) (N := 10) g (ci := 7) rfl tc_X6 hk57 6 (by decide) tw_278 (fun _ h => h) rfl dX6_costIn_84 ?_
      exact r_iret g hr (Nat.le_of_ble_eq_true rfl) (Nat.le_of_ble_eq_true rfl) rfl dX6_costIn_87 hw
def rmX6_orderConditions : Room := { frames := 3, cells := 0, slots := 0, locals := 63 }
theorem hy_X6_orderConditions : yX6_orderConditions.cls ≠ "java/lang/invoke/MethodHandle" ∧ yX6_orderConditions.cls ≠ "java/lang/invoke/VarHandle" ∧ (parseMethodDescriptor yX6_orderConditions.desc).map (fun d => d.parameters.length) = some 3 := by decide +kernel
def lp_X6_orderConditions_50 (a0 : Nat) (a1 : Nat) (a2 : Nat) (x3 : Int32) (x4 : Int32) (x6 : Int32) (K : Mm → Prop) (E : Int32 → Mm → Prop) : Nat → Int32 → Mm → Prop
  | 0, _, _ => False
  | n + 1, x7, M => ((x7 ≤ 0 → E x7 M) ∧ (¬ x7 ≤ 0 → (kd_ M (rf_ M a0 9) = 20 ∧ (vp_in (x7 - (1 : Int32)) (ln_ M (rf_ M a0 9)) ∧ (((it_ M (rf_ M a0 9) (ix_ (x7 - (1 : Int32)))) ≤ x6 → E x7 M) ∧ (¬ (it_ M (rf_ M a0 9) (ix_ (x7 - (1 : Int32)))) ≤ x6 → (vp_in (x7 - (1 : Int32)) (ln_ M (rf_ M a0 9)) ∧ (vp_in x7 (ln_ M (rf_ M a0 9)) ∧ (∀ M12, M12 = sI_ M (rf_ M a0 9) (ix_ x7) (it_ M (rf_ M a0 9) (ix_ (x7 - (1 : Int32)))) → (kd_ M (rf_ M a0 8) = 20 ∧ (vp_in (x7 - (1 : Int32)) (ln_ M (rf_ M a0 8)) ∧ (vp_in x7 (ln_ M (rf_ M a0 8)) ∧ (∀ M16, M16 = sI_ M12 (rf_ M a0 8) (ix_ x7) (it_ M12 (rf_ M a0 8) (ix_ (x7 - (1 : Int32)))) → lp_X6_orderConditions_50 a0 a1 a2 x3 x4 x6 K E n (x7 + (-1 : Int32)) M16)))))))))))))
def lp_X6_orderConditions_3 (a0 : Nat) (a1 : Nat) (a2 : Nat) (x3 : Int32) (K : Mm → Prop) (E : Mm → Prop) : Nat → Int32 → Mm → Prop
  | 0, _, _ => False
  | n + 1, x4, M => (((it_ M a1 1) ≤ x4 → E M) ∧ (¬ (it_ M a1 1) ≤ x4 → (kd_ M (rf_ M a1 0) = 24 ∧ (vp_in x4 (ln_ M (rf_ M a1 0)) ∧ (kd_ M (rf_ M (rf_ M a1 0) (ix_ x4)) = 4 ∧ ((x3 = 0 → (∃ n17 : Nat, lp_X6_orderConditions_50 a0 a1 a2 x3 x4 (0 : Int32) K (fun xv20 M18 => Nk_ M M18 → (kd_ M18 (rf_ M18 a0 9) = 20 ∧ (vp_in xv20 (ln_ M18 (rf_ M18 a0 9)) ∧ (∀ M27, M27 = sI_ M18 (rf_ M18 a0 9) (ix_ xv20) (0 : Int32) → (kd_ M18 (rf_ M18 a0 8) = 20 ∧ (vp_in xv20 (ln_ M18 (rf_ M18 a0 8)) ∧ (∀ M30, M30 = sI_ M27 (rf_ M18 a0 8) (ix_ xv20) x4 → lp_X6_orderConditions_3 a0 a1 a2 x3 K E n (x4 + (1 : Int32)) M30))))))) n17 x4 M)) ∧ (¬ x3 = 0 → (kd_ M (rf_ M a2 1) = 23 ∧ (vp_in (it_ M (rf_ M (rf_ M a1 0) (ix_ x4)) 0) (ln_ M (rf_ M a2 1)) ∧ (kd_ M (rf_ M (rf_ M a2 1) (ix_ (it_ M (rf_ M (rf_ M a1 0) (ix_ x4)) 0))) = 11 ∧ (wp_X2_guessIn (rf_ M (rf_ M a1 0) (ix_ x4)) (rf_ M (rf_ M a2 1) (ix_ (it_ M (rf_ M (rf_ M a1 0) (ix_ x4)) 0))) M (fun M34 r35 => Nk_ M M34 → (∃ n42 : Nat, lp_X6_orderConditions_50 a0 a1 a2 x3 x4 r35 K (fun xv45 M43 => Nk_ M34 M43 → (kd_ M43 (rf_ M43 a0 9) = 20 ∧ (vp_in xv45 (ln_ M43 (rf_ M43 a0 9)) ∧ (∀ M52, M52 = sI_ M43 (rf_ M43 a0 9) (ix_ xv45) r35 → (kd_ M43 (rf_ M43 a0 8) = 20 ∧ (vp_in xv45 (ln_ M43 (rf_ M43 a0 8)) ∧ (∀ M55, M55 = sI_ M52 (rf_ M43 a0 8) (ix_ xv45) x4 → lp_X6_orderConditions_3 a0 a1 a2 x3 K E n (x4 + (1 : Int32)) M55))))))) n42 x4 M34)))))))))))))
def wp_X6_orderConditions (a0 : Nat) (a1 : Nat) (a2 : Nat) (x3 : Int32) (M : Mm) (K : Mm → Prop) : Prop := kd_ M a0 = 8 ∧ kd_ M a1 = 5 ∧ kd_ M a2 = 2 ∧ (∃ n56 : Nat, lp_X6_orderConditions_3 a0 a1 a2 x3 K (fun  M57 => Nk_ M M57 → K M57) n56 (0 : Int32) M)
set_option maxHeartbeats 4000000 in
set_option maxRecDepth 100000 in
theorem lo_X6_orderConditions_50 {p : Program} {l : Launch} {e : Env} {s : State} {m : MethodId} {args : Array Value} {below : List Frame} {meth : Method} {c : Code} {D : Dd_} {M0 : Mm} {Q : State → Prop} {K : Mm → Prop} (g : G_ p s m args meth c cX6_orderConditions 8 RX6 D M0) (hr : meth.sig.returnType = none) (hQ : Q = MQ below (va_Qv (fun M' => K M') (cB_ D M0 s.heap.size) (Aw_ M0 s.heap.size)) args s 0 0 (Aw_ M0 s.heap.size)) {a0 : Nat} {a1 : Nat} {a2 : Nat} {x3 : Int32} {x4 : Int32} {x6 : Int32} : ∀ (n : Nat) (E : Int32 → Mm → Prop) (x7 : Int32) (M : Mm), lp_X6_orderConditions_50 a0 a1 a2 x3 x4 x6 K E n x7 M → kd_ M a0 = 8 → kd_ M a1 = 5 → kd_ M a2 = 2 → (∀ (e9_7 : Int32) (M' : Mm), E e9_7 M' → Nk_ M M' → V_ p l e rmX6_orderConditions s m args below meth c 8 D M0 Q 107 [(0, .ref a0), (1, .ref a1), (2, .ref a2), (3, .int x3), (4, .int x4), (6, .int x6), (7, .int e9_7)] [] M' 0 0) → V_ p l e rmX6_orderConditions s m args below meth c 8 D M0 Q 50 [(0, .ref a0), (1, .ref a1), (2, .ref a2), (3, .int x3), (4, .int x4), (6, .int x6), (7, .int x7)] [] M 0 0 := by
  intro n
  induction n with
  | zero =>
    intro E x7 M hw
    exact hw.elim
  | succ n ih =>
    intro E x7 M hw hp0 hp1 hp2 kE
    refine r_iload g dX6_orderConditions_50 6 rfl ?_
    refine r_if_le (tgt := 107) g dX6_orderConditions_52 (by decide) (fun hc6 => ?_) (fun hc6 => ?_)
    · have hw := hw.1 hc6
      exact V_.sub (kE x7 _ hw (Nk_.rf _)) [0, 1, 2, 3, 4, 5, 6] rfl
    · have hw := hw.2 hc6
      refine r_aload_n g dX6_orderConditions_55 rfl 0 rfl ?_
      obtain ⟨hk7, hw⟩ := hw
      refine r_gtR (C := RX6) (T := TX6) (N := 10) g (ci := 7) rfl tc_X6 hp0 9 (by decide) tw_281 (fun _ h => h) rfl (k_ne hk7 (by decide)) dX6_orderConditions_56 ?_
      refine r_iload g dX6_orderConditions_59 6 rfl ?_
      refine r_iconst (v := 1) g dX6_orderConditions_61 (by decide) ?_
      refine r_isub g dX6_orderConditions_62 ?_
      obtain ⟨hi8, hw⟩ := hw
      refine r_iald g (Or.inl hk7) hi8 dX6_orderConditions_63 ?_
      refine r_iload g dX6_orderConditions_64 5 rfl ?_
      refine r_icmp_le (tgt := 107) g dX6_orderConditions_66 (by decide) (fun hc9 => ?_) (fun hc9 => ?_)
      · have hw := hw.1 hc9
        exact V_.sub (kE x7 _ hw (Nk_.rf _)) [0, 1, 2, 3, 4, 5, 6] rfl
      · have hw := hw.2 hc9
        refine r_aload_n g dX6_orderConditions_69 rfl 0 rfl ?_
        refine r_gtR (C := RX6) (T := TX6) (N := 10) g (ci := 7) rfl tc_X6 hp0 9 (by decide) tw_281 (fun _ h => h) rfl (k_ne hk7 (by decide)) dX6_orderConditions_70 ?_
        refine r_iload g dX6_orderConditions_73 6 rfl ?_
        refine r_aload_n g dX6_orderConditions_75 rfl 0 rfl ?_
        refine r_gtR (C := RX6) (T := TX6) (N := 10) g (ci := 7) rfl tc_X6 hp0 9 (by decide) tw_281 (fun _ h => h) rfl (k_ne hk7 (by decide)) dX6_orderConditions_76 ?_
        refine r_iload g dX6_orderConditions_79 6 rfl ?_
        refine r_iconst (v := 1) g dX6_orderConditions_81 (by decide) ?_
        refine r_isub g dX6_orderConditions_82 ?_
        obtain ⟨hi10, hw⟩ := hw
        refine r_iald g (Or.inl hk7) hi10 dX6_orderConditions_83 ?_
        obtain ⟨hi11, hw⟩ := hw
        refine r_iast g hk7 hi11 dX6_orderConditions_84 ?_
        have hw := hw _ rfl
        refine r_aload_n g dX6_orderConditions_85 rfl 0 rfl ?_
        obtain ⟨hk13, hw⟩ := hw
        refine r_gtR (C := RX6) (T := TX6) (N := 10) g (ci := 7) rfl tc_X6 hp0 8 (by decide) tw_280 (fun _ h => h) rfl (k_ne hk13 (by decide)) dX6_orderConditions_86 ?_
        refine r_iload g dX6_orderConditions_89 6 rfl ?_
        refine r_aload_n g dX6_orderConditions_91 rfl 0 rfl ?_
        refine r_gtR (C := RX6) (T := TX6) (N := 10) g (ci := 7) rfl tc_X6 hp0 8 (by decide) tw_280 (fun _ h => h) rfl (k_ne hk13 (by decide)) dX6_orderConditions_92 ?_
        refine r_iload g dX6_orderConditions_95 6 rfl ?_
        refine r_iconst (v := 1) g dX6_orderConditions_97 (by decide) ?_
        refine r_isub g dX6_orderConditions_98 ?_
        obtain ⟨hi14, hw⟩ := hw
        refine r_iald g (Or.inl hk13) hi14 dX6_orderConditions_99 ?_
        obtain ⟨hi15, hw⟩ := hw
        refine r_iast g hk13 hi15 dX6_orderConditions_100 ?_
        have hw := hw _ rfl
        refine r_iinc (v := x7 + (-1 : Int32)) (L' := [(7, .int (x7 + (-1 : Int32))), (0, .ref a0), (1, .ref a1), (2, .ref a2), (3, .int x3), (4, .int x4), (6, .int x6)]) g dX6_orderConditions_101 6 rfl rfl (by decide) rfl ?_
        refine r_goto (tgt := 50) g dX6_orderConditions_104 (by decide) ?_
        exact V_.sub (ih E (x7 + (-1 : Int32)) _ hw hp0 hp1 hp2 (fun e9_7 M9 hE9 hN9 => kE e9_7 M9 hE9 (Nk_.tr (Nk_.rf _) hN9))) [1, 2, 3, 4, 5, 6, 0] rfl
set_option maxHeartbeats 4000000 in
set_option maxRecDepth 100000 in
theorem lo_X6_orderConditions_3 {p : Program} {l : Launch} {e : Env} {s : State} {m : MethodId} {args : Array Value} {below : List Frame} {meth : Method} {c : Code} {D : Dd_} {M0 : Mm} {Q : State → Prop} {K : Mm → Prop} (g : G_ p s m args meth c cX6_orderConditions 8 RX6 D M0) (hr : meth.sig.returnType = none) (hQ : Q = MQ below (va_Qv (fun M' => K M') (cB_ D M0 s.heap.size) (Aw_ M0 s.heap.size)) args s 0 0 (Aw_ M0 s.heap.size)) {a0 : Nat} {a1 : Nat} {a2 : Nat} {x3 : Int32} : ∀ (n : Nat) (E : Mm → Prop) (x4 : Int32) (M : Mm), lp_X6_orderConditions_3 a0 a1 a2 x3 K E n x4 M → kd_ M a0 = 8 → kd_ M a1 = 5 → kd_ M a2 = 2 → (∀  (M' : Mm), E  M' → Nk_ M M' → V_ p l e rmX6_orderConditions s m args below meth c 8 D M0 Q 131 [] [] M' 0 0) → V_ p l e rmX6_orderConditions s m args below meth c 8 D M0 Q 3 [(0, .ref a0), (1, .ref a1), (2, .ref a2), (3, .int x3), (4, .int x4)] [] M 0 0 := by
  intro n
  induction n with
  | zero =>
    intro E x4 M hw
    exact hw.elim
  | succ n ih =>
    intro E x4 M hw hp0 hp1 hp2 kE
    refine r_iload g dX6_orderConditions_3 4 rfl ?_
    refine r_aload_n g dX6_orderConditions_5 rfl 1 rfl ?_
    refine r_gt (C := RX3) (T := TX3) (N := 2) g (ci := 4) rfl tc_X3 hp1 1 (by decide) tw_245 (fun _ h => h) rfl dX6_orderConditions_6 ?_
    refine r_icmp_ge (tgt := 131) g dX6_orderConditions_9 (by decide) (fun hc1 => ?_) (fun hc1 => ?_)
    · have hw := hw.1 hc1
      exact V_.sub (kE  _ hw (Nk_.rf _)) [] rfl
    · have hw := hw.2 hc1
      refine r_aload_n g dX6_orderConditions_12 rfl 1 rfl ?_
      obtain ⟨hk2, hw⟩ := hw
      refine r_gtR (C := RX3) (T := TX3) (N := 2) g (ci := 4) rfl tc_X3 hp1 0 (by decide) tw_242 (fun _ h => h) rfl (k_ne hk2 (by decide)) dX6_orderConditions_13 ?_
      refine r_iload g dX6_orderConditions_16 4 rfl ?_
      obtain ⟨hi3, hw⟩ := hw
      obtain ⟨hk4, hw⟩ := hw
      refine r_aald (t := 4) g (by decide) (by decide) hk2 hi3 dX6_orderConditions_18 ?_
      refine r_rv (k_ne hk4 (by decide)) ?_
      refine r_astore (L' := [(5, .ref (rf_ M (rf_ M a1 0) (ix_ x4))), (0, .ref a0), (1, .ref a1), (2, .ref a2), (3, .int x3), (4, .int x4)]) g dX6_orderConditions_19 (by decide) rfl ?_
      refine r_iload_n g dX6_orderConditions_21 rfl 4 rfl ?_
      refine r_if_eq (tgt := 43) g dX6_orderConditions_22 (by decide) (fun hc5 => ?_) (fun hc5 => ?_)
      · have hw := hw.1 hc5
        refine r_iconst (v := 0) g dX6_orderConditions_43 (by decide) ?_
        refine r_istore (L' := [(6, .int (0 : Int32)), (5, .ref (rf_ M (rf_ M a1 0) (ix_ x4))), (0, .ref a0), (1, .ref a1), (2, .ref a2), (3, .int x3), (4, .int x4)]) g dX6_orderConditions_44 (by decide) rfl ?_
        refine r_iload g dX6_orderConditions_46 6 rfl ?_
        refine r_istore (L' := [(7, .int x4), (6, .int (0 : Int32)), (5, .ref (rf_ M (rf_ M a1 0) (ix_ x4))), (0, .ref a0), (1, .ref a1), (2, .ref a2), (3, .int x3), (4, .int x4)]) g dX6_orderConditions_48 (by decide) rfl ?_
        obtain ⟨n17, hw⟩ := hw
        refine V_.sub (lo_X6_orderConditions_50 g hr hQ n17 _ x4 _ hw hp0 hp1 hp2 (fun xv20 M18 hE hN19 => ?_)) [3, 4, 5, 6, 7, 1, 0] rfl
        have hw := hE hN19
        have hk21 := Nk_.k hN19 hp0 (by decide)
        have hk22 := Nk_.k hN19 hp1 (by decide)
        have hk23 := Nk_.k hN19 hp2 (by decide)
        have hT24 := Nk_.tr (Nk_.rf _) hN19
        refine r_aload_n g dX6_orderConditions_107 rfl 0 rfl ?_
        obtain ⟨hk25, hw⟩ := hw
        refine r_gtR (C := RX6) (T := TX6) (N := 10) g (ci := 7) rfl tc_X6 hk21 9 (by decide) tw_281 (fun _ h => h) rfl (k_ne hk25 (by decide)) dX6_orderConditions_108 ?_
        refine r_iload g dX6_orderConditions_111 6 rfl ?_
        refine r_iload g dX6_orderConditions_113 5 rfl ?_
        obtain ⟨hi26, hw⟩ := hw
        refine r_iast g hk25 hi26 dX6_orderConditions_115 ?_
        have hw := hw _ rfl
        refine r_aload_n g dX6_orderConditions_116 rfl 0 rfl ?_
        obtain ⟨hk28, hw⟩ := hw
        refine r_gtR (C := RX6) (T := TX6) (N := 10) g (ci := 7) rfl tc_X6 hk21 8 (by decide) tw_280 (fun _ h => h) rfl (k_ne hk28 (by decide)) dX6_orderConditions_117 ?_
        refine r_iload g dX6_orderConditions_120 6 rfl ?_
        refine r_iload g dX6_orderConditions_122 4 rfl ?_
        obtain ⟨hi29, hw⟩ := hw
        refine r_iast g hk28 hi29 dX6_orderConditions_124 ?_
        have hw := hw _ rfl
        refine r_iinc (v := x4 + (1 : Int32)) (L' := [(4, .int (x4 + (1 : Int32))), (0, .ref a0), (1, .ref a1), (2, .ref a2), (3, .int x3), (6, .int (0 : Int32)), (7, .int xv20)]) g dX6_orderConditions_125 4 rfl rfl (by decide) rfl ?_
        refine r_goto (tgt := 3) g dX6_orderConditions_128 (by decide) ?_
        exact V_.sub (ih E (x4 + (1 : Int32)) _ hw hk21 hk22 hk23 (fun  M9 hE9 hN9 => kE  M9 hE9 (Nk_.tr hT24 hN9))) [1, 2, 3, 4, 0] rfl
      · have hw := hw.2 hc5
        refine r_aload g dX6_orderConditions_25 0 rfl ?_
        refine r_aload_n g dX6_orderConditions_27 rfl 3 rfl ?_
        obtain ⟨hk31, hw⟩ := hw
        refine r_gtR (C := RX0) (T := TX0) (N := 4) g (ci := 1) rfl tc_X0 hp2 1 (by decide) tw_144 (fun _ h => h) rfl (k_ne hk31 (by decide)) dX6_orderConditions_28 ?_
        refine r_aload g dX6_orderConditions_31 0 rfl ?_
        refine r_gt (C := RX2) (T := TX2) (N := 3) g (ci := 3) rfl tc_X2 hk4 0 (by decide) tw_231 (fun _ h => h) rfl dX6_orderConditions_33 ?_
        obtain ⟨hi32, hw⟩ := hw
        obtain ⟨hk33, hw⟩ := hw
        refine r_aald (t := 3) g (by decide) (by decide) hk31 hi32 dX6_orderConditions_36 ?_
        refine r_rv (k_ne hk33 (by decide)) ?_
        refine r_callVi (As := [.ref (rf_ M (rf_ M a2 1) (ix_ (it_ M (rf_ M (rf_ M a1 0) (ix_ x4)) 0)))]) g (fun sz => mt_X2_guessIn hw sz) tw_567 tw_570 tw_11 tw_568 tw_569 (ci := 3) (T := TX2) (N := 3) rfl hk4 hy_X2_guessIn ⟨rfl, rfl⟩ (Nat.le_of_ble_eq_true rfl) (Nat.le_of_ble_eq_true rfl) (Nat.le_of_ble_eq_true rfl) (Nat.le_of_ble_eq_true rfl) (Nat.le_of_ble_eq_true rfl) rfl dX6_orderConditions_37 (fun M34 r35 hK36 hN37 => ?_)
        have hw := hK36 hN37
        have hk38 := Nk_.k hN37 hp0 (by decide)
        have hk39 := Nk_.k hN37 hp1 (by decide)
        have hk40 := Nk_.k hN37 hp2 (by decide)
        have hT41 := Nk_.tr (Nk_.rf _) hN37
        refine r_goto (tgt := 44) g dX6_orderConditions_40 (by decide) ?_
        refine r_istore (L' := [(6, .int r35), (5, .ref (rf_ M (rf_ M a1 0) (ix_ x4))), (0, .ref a0), (1, .ref a1), (2, .ref a2), (3, .int x3), (4, .int x4)]) g dX6_orderConditions_44 (by decide) rfl ?_
        refine r_iload g dX6_orderConditions_46 6 rfl ?_
        refine r_istore (L' := [(7, .int x4), (6, .int r35), (5, .ref (rf_ M (rf_ M a1 0) (ix_ x4))), (0, .ref a0), (1, .ref a1), (2, .ref a2), (3, .int x3), (4, .int x4)]) g dX6_orderConditions_48 (by decide) rfl ?_
        obtain ⟨n42, hw⟩ := hw
        refine V_.sub (lo_X6_orderConditions_50 g hr hQ n42 _ x4 _ hw hk38 hk39 hk40 (fun xv45 M43 hE hN44 => ?_)) [3, 4, 5, 6, 7, 1, 0] rfl
        have hw := hE hN44
        have hk46 := Nk_.k hN44 hk38 (by decide)
        have hk47 := Nk_.k hN44 hk39 (by decide)
        have hk48 := Nk_.k hN44 hk40 (by decide)
        have hT49 := Nk_.tr hT41 hN44
        refine r_aload_n g dX6_orderConditions_107 rfl 0 rfl ?_
        obtain ⟨hk50, hw⟩ := hw
        refine r_gtR (C := RX6) (T := TX6) (N := 10) g (ci := 7) rfl tc_X6 hk46 9 (by decide) tw_281 (fun _ h => h) rfl (k_ne hk50 (by decide)) dX6_orderConditions_108 ?_
        refine r_iload g dX6_orderConditions_111 6 rfl ?_
        refine r_iload g dX6_orderConditions_113 5 rfl ?_
        obtain ⟨hi51, hw⟩ := hw
        refine r_iast g hk50 hi51 dX6_orderConditions_115 ?_
        have hw := hw _ rfl
        refine r_aload_n g dX6_orderConditions_116 rfl 0 rfl ?_
        obtain ⟨hk53, hw⟩ := hw
        refine r_gtR (C := RX6) (T := TX6) (N := 10) g (ci := 7) rfl tc_X6 hk46 8 (by decide) tw_280 (fun _ h => h) rfl (k_ne hk53 (by decide)) dX6_orderConditions_117 ?_
        refine r_iload g dX6_orderConditions_120 6 rfl ?_
        refine r_iload g dX6_orderConditions_122 4 rfl ?_
        obtain ⟨hi54, hw⟩ := hw
        refine r_iast g hk53 hi54 dX6_orderConditions_124 ?_
        have hw := hw _ rfl
        refine r_iinc (v := x4 + (1 : Int32)) (L' := [(4, .int (x4 + (1 : Int32))), (0, .ref a0), (1, .ref a1), (2, .ref a2), (3, .int x3), (6, .int r35), (7, .int xv45)]) g dX6_orderConditions_125 4 rfl rfl (by decide) rfl ?_
        refine r_goto (tgt := 3) g dX6_orderConditions_128 (by decide) ?_
        exact V_.sub (ih E (x4 + (1 : Int32)) _ hw hk46 hk47 hk48 (fun  M9 hE9 hN9 => kE  M9 hE9 (Nk_.tr hT49 hN9))) [1, 2, 3, 4, 0] rfl
set_option maxHeartbeats 4000000 in
set_option maxRecDepth 100000 in
theorem mt_X6_orderConditions {l : Launch} {D : Dd_} {M : Mm} {a0 : Nat} {a1 : Nat} {a2 : Nat} {x3 : Int32} {K : Mm → Prop} (hw : wp_X6_orderConditions a0 a1 a2 x3 M K) (sz : Nat) : Met l yX6_orderConditions (Cond.code yX6_orderConditions cX6_orderConditions 8 none :: tbG_) rmX6_orderConditions (cPc_ D M sz [.ref a0, .ref a1, .ref a2, .int x3]) (va_Qv (fun M' => K M') (cB_ D M sz) (Aw_ M sz)) 0 0 (Aw_ M sz) := by
  refine ofV (by decide) (Nat.le_of_ble_eq_true rfl) ?_
  intro p e s m below meth c g hr hin hsz
  subst hsz
  obtain ⟨hp0, hp1, hp2, hw⟩ := hw
  refine r_iconst (v := 0) g dX6_orderConditions_0 (by decide) ?_
  refine r_istore (L' := [(4, .int (0 : Int32)), (0, .ref a0), (1, .ref a1), (2, .ref a2), (3, .int x3)]) g dX6_orderConditions_1 (by decide) rfl ?_
  obtain ⟨n56, hw⟩ := hw
  refine V_.sub (lo_X6_orderConditions_3 g hr rfl n56 _ (0 : Int32) _ hw hp0 hp1 hp2 (fun  M57 hE hN58 => ?_)) [1, 2, 3, 4, 0] rfl
  have hw := hE hN58
  have hT59 := Nk_.tr (Nk_.rf _) hN58
  exact r_vret g hr (Nat.le_of_ble_eq_true rfl) (Nat.le_of_ble_eq_true rfl) rfl dX6_orderConditions_131 hw
def rmX6_select : Room := { frames := 4, cells := 0, slots := 0, locals := 90 }
theorem hy_X6_select : yX6_select.cls ≠ "java/lang/invoke/MethodHandle" ∧ yX6_select.cls ≠ "java/lang/invoke/VarHandle" ∧ (parseMethodDescriptor yX6_select.desc).map (fun d => d.parameters.length) = some 4 := by decide +kernel
def lp_X6_select_19 (a0 : Nat) (a1 : Nat) (a2 : Nat) (a3 : Nat) (x4 : Int32) (K : Mm → Prop) (E : Mm → Prop) : Nat → Int32 → Mm → Prop
  | 0, _, _ => False
  | n + 1, x5, M => (((it_ M a3 2) ≤ x5 → E M) ∧ (¬ (it_ M a3 2) ≤ x5 → (kd_ M (rf_ M a0 5) = 21 ∧ (vp_in x5 (ln_ M (rf_ M a0 5)) ∧ (∀ M13, M13 = sI_ M (rf_ M a0 5) (ix_ x5) (1 : Int32) → lp_X6_select_19 a0 a1 a2 a3 x4 K E n (x5 + (1 : Int32)) M13)))))
def lp_X6_select_45 (a0 : Nat) (a1 : Nat) (a2 : Nat) (a3 : Nat) (x4 : Int32) (K : Mm → Prop) (E : Mm → Prop) : Nat → Int32 → Mm → Prop
  | 0, _, _ => False
  | n + 1, x5, M => (((it_ M a2 1) ≤ x5 → E M) ∧ (¬ (it_ M a2 1) ≤ x5 → (((it_ M a0 6) ≤ 0 → E M) ∧ (¬ (it_ M a0 6) ≤ 0 → (kd_ M (rf_ M a2 0) = 24 ∧ (kd_ M (rf_ M a0 8) = 20 ∧ (vp_in x5 (ln_ M (rf_ M a0 8)) ∧ (vp_in (it_ M (rf_ M a0 8) (ix_ x5)) (ln_ M (rf_ M a2 0)) ∧ (kd_ M (rf_ M (rf_ M a2 0) (ix_ (it_ M (rf_ M a0 8) (ix_ x5)))) = 4 ∧ (kd_ M (rf_ M a1 0) = 1 ∧ (wp_Jx4a65c_get_915e3 (rf_ M a1 0) (it_ M (rf_ M (rf_ M a2 0) (ix_ (it_ M (rf_ M a0 8) (ix_ x5)))) 0) M (fun M30 r31 => Nk_ M M30 → (kd_ M30 r31 = 3 ∧ ((x4 = 0 → (∀ M43, M43 = sI_ M30 a0 2 ((it_ M30 a0 2) + (it_ M30 a0 6)) → (wp_X6_narrow a0 a3 (rf_ M (rf_ M a2 0) (ix_ (it_ M (rf_ M a0 8) (ix_ x5)))) r31 M43 (fun M44 => Nk_ M43 M44 → lp_X6_select_45 a0 a1 a2 a3 x4 K E n (x5 + (1 : Int32)) M44)))) ∧ (¬ x4 = 0 → (kd_ M30 (rf_ M30 a3 1) = 23 ∧ (vp_in (it_ M30 (rf_ M (rf_ M a2 0) (ix_ (it_ M (rf_ M a0 8) (ix_ x5)))) 0) (ln_ M30 (rf_ M30 a3 1)) ∧ (kd_ M30 (rf_ M30 (rf_ M30 a3 1) (ix_ (it_ M30 (rf_ M (rf_ M a2 0) (ix_ (it_ M (rf_ M a0 8) (ix_ x5)))) 0))) = 11 ∧ (wp_X6_costIn a0 (rf_ M30 (rf_ M30 a3 1) (ix_ (it_ M30 (rf_ M (rf_ M a2 0) (ix_ (it_ M (rf_ M a0 8) (ix_ x5)))) 0))) (rf_ M (rf_ M a2 0) (ix_ (it_ M (rf_ M a0 8) (ix_ x5)))) r31 M30 (fun M55 r56 => Nk_ M30 M55 → (∀ M66, M66 = sI_ M55 a0 2 ((it_ M30 a0 2) + r56) → (wp_X6_narrow a0 a3 (rf_ M (rf_ M a2 0) (ix_ (it_ M (rf_ M a0 8) (ix_ x5)))) r31 M66 (fun M67 => Nk_ M66 M67 → lp_X6_select_45 a0 a1 a2 a3 x4 K E n (x5 + (1 : Int32)) M67)))))))))))))))))))))))
def wp_X6_select (a0 : Nat) (a1 : Nat) (a2 : Nat) (a3 : Nat) (x4 : Int32) (M : Mm) (K : Mm → Prop) : Prop := kd_ M a0 = 8 ∧ kd_ M a1 = 10 ∧ kd_ M a2 = 5 ∧ kd_ M a3 = 2 ∧ (wp_X6_orderConditions a0 a2 a3 x4 M (fun M1 => Nk_ M M1 → (∀ M9, M9 = sI_ M1 a0 6 (it_ M1 a3 2) → (∃ n14 : Nat, lp_X6_select_19 a0 a1 a2 a3 x4 K (fun  M15 => Nk_ M9 M15 → (∃ n75 : Nat, lp_X6_select_45 a0 a1 a2 a3 x4 K (fun  M76 => Nk_ M15 M76 → K M76) n75 (0 : Int32) M15)) n14 (0 : Int32) M9))))
set_option maxHeartbeats 4000000 in
set_option maxRecDepth 100000 in
theorem lo_X6_select_19 {p : Program} {l : Launch} {e : Env} {s : State} {m : MethodId} {args : Array Value} {below : List Frame} {meth : Method} {c : Code} {D : Dd_} {M0 : Mm} {Q : State → Prop} {K : Mm → Prop} (g : G_ p s m args meth c cX6_select 8 RX6 D M0) (hr : meth.sig.returnType = none) (hQ : Q = MQ below (va_Qv (fun M' => K M') (cB_ D M0 s.heap.size) (Aw_ M0 s.heap.size)) args s 0 0 (Aw_ M0 s.heap.size)) {a0 : Nat} {a1 : Nat} {a2 : Nat} {a3 : Nat} {x4 : Int32} : ∀ (n : Nat) (E : Mm → Prop) (x5 : Int32) (M : Mm), lp_X6_select_19 a0 a1 a2 a3 x4 K E n x5 M → kd_ M a0 = 8 → kd_ M a1 = 10 → kd_ M a2 = 5 → kd_ M a3 = 2 → (∀  (M' : Mm), E  M' → Nk_ M M' → V_ p l e rmX6_select s m args below meth c 8 D M0 Q 42 [(0, .ref a0), (1, .ref a1), (2, .ref a2), (3, .ref a3), (4, .int x4)] [] M' 0 0) → V_ p l e rmX6_select s m args below meth c 8 D M0 Q 19 [(0, .ref a0), (1, .ref a1), (2, .ref a2), (3, .ref a3), (4, .int x4), (5, .int x5)] [] M 0 0 := by
  intro n
  induction n with
  | zero =>
    intro E x5 M hw
    exact hw.elim
  | succ n ih =>
    intro E x5 M hw hp0 hp1 hp2 hp3 kE
    refine r_iload g dX6_select_19 5 rfl ?_
    refine r_aload_n g dX6_select_21 rfl 3 rfl ?_
    refine r_gt (C := RX0) (T := TX0) (N := 4) g (ci := 1) rfl tc_X0 hp3 2 (by decide) tw_148 (fun _ h => h) rfl dX6_select_22 ?_
    refine r_icmp_ge (tgt := 42) g dX6_select_25 (by decide) (fun hc10 => ?_) (fun hc10 => ?_)
    · have hw := hw.1 hc10
      exact V_.sub (kE  _ hw (Nk_.rf _)) [0, 1, 2, 3, 4] rfl
    · have hw := hw.2 hc10
      refine r_aload_n g dX6_select_28 rfl 0 rfl ?_
      obtain ⟨hk11, hw⟩ := hw
      refine r_gtR (C := RX6) (T := TX6) (N := 10) g (ci := 7) rfl tc_X6 hp0 5 (by decide) tw_277 (fun _ h => h) rfl (k_ne hk11 (by decide)) dX6_select_29 ?_
      refine r_iload g dX6_select_32 5 rfl ?_
      refine r_iconst (v := 1) g dX6_select_34 (by decide) ?_
      obtain ⟨hi12, hw⟩ := hw
      refine r_zast g hk11 hi12 (Or.inr rfl) dX6_select_35 ?_
      have hw := hw _ rfl
      refine r_iinc (v := x5 + (1 : Int32)) (L' := [(5, .int (x5 + (1 : Int32))), (0, .ref a0), (1, .ref a1), (2, .ref a2), (3, .ref a3), (4, .int x4)]) g dX6_select_36 5 rfl rfl (by decide) rfl ?_
      refine r_goto (tgt := 19) g dX6_select_39 (by decide) ?_
      exact V_.sub (ih E (x5 + (1 : Int32)) _ hw hp0 hp1 hp2 hp3 (fun  M9 hE9 hN9 => kE  M9 hE9 (Nk_.tr (Nk_.rf _) hN9))) [1, 2, 3, 4, 5, 0] rfl
set_option maxHeartbeats 4000000 in
set_option maxRecDepth 100000 in
theorem lo_X6_select_45 {p : Program} {l : Launch} {e : Env} {s : State} {m : MethodId} {args : Array Value} {below : List Frame} {meth : Method} {c : Code} {D : Dd_} {M0 : Mm} {Q : State → Prop} {K : Mm → Prop} (g : G_ p s m args meth c cX6_select 8 RX6 D M0) (hr : meth.sig.returnType = none) (hQ : Q = MQ below (va_Qv (fun M' => K M') (cB_ D M0 s.heap.size) (Aw_ M0 s.heap.size)) args s 0 0 (Aw_ M0 s.heap.size)) {a0 : Nat} {a1 : Nat} {a2 : Nat} {a3 : Nat} {x4 : Int32} : ∀ (n : Nat) (E : Mm → Prop) (x5 : Int32) (M : Mm), lp_X6_select_45 a0 a1 a2 a3 x4 K E n x5 M → kd_ M a0 = 8 → kd_ M a1 = 10 → kd_ M a2 = 5 → kd_ M a3 = 2 → (∀  (M' : Mm), E  M' → Nk_ M M' → V_ p l e rmX6_select s m args below meth c 8 D M0 Q 146 [] [] M' 0 0) → V_ p l e rmX6_select s m args below meth c 8 D M0 Q 45 [(0, .ref a0), (1, .ref a1), (2, .ref a2), (3, .ref a3), (4, .int x4), (5, .int x5)] [] M 0 0 := by
  intro n
  induction n with
  | zero =>
    intro E x5 M hw
    exact hw.elim
  | succ n ih =>
    intro E x5 M hw hp0 hp1 hp2 hp3 kE
    refine r_iload g dX6_select_45 5 rfl ?_
    refine r_aload_n g dX6_select_47 rfl 2 rfl ?_
    refine r_gt (C := RX3) (T := TX3) (N := 2) g (ci := 4) rfl tc_X3 hp2 1 (by decide) tw_245 (fun _ h => h) rfl dX6_select_48 ?_
    refine r_icmp_ge (tgt := 146) g dX6_select_51 (by decide) (fun hc22 => ?_) (fun hc22 => ?_)
    · have hw := hw.1 hc22
      exact V_.sub (kE  _ hw (Nk_.rf _)) [] rfl
    · have hw := hw.2 hc22
      refine r_aload_n g dX6_select_54 rfl 0 rfl ?_
      refine r_gt (C := RX6) (T := TX6) (N := 10) g (ci := 7) rfl tc_X6 hp0 6 (by decide) tw_278 (fun _ h => h) rfl dX6_select_55 ?_
      refine r_if_le (tgt := 146) g dX6_select_58 (by decide) (fun hc23 => ?_) (fun hc23 => ?_)
      · have hw := hw.1 hc23
        exact V_.sub (kE  _ hw (Nk_.rf _)) [] rfl
      · have hw := hw.2 hc23
        refine r_aload_n g dX6_select_61 rfl 2 rfl ?_
        obtain ⟨hk24, hw⟩ := hw
        refine r_gtR (C := RX3) (T := TX3) (N := 2) g (ci := 4) rfl tc_X3 hp2 0 (by decide) tw_242 (fun _ h => h) rfl (k_ne hk24 (by decide)) dX6_select_62 ?_
        refine r_aload_n g dX6_select_65 rfl 0 rfl ?_
        obtain ⟨hk25, hw⟩ := hw
        refine r_gtR (C := RX6) (T := TX6) (N := 10) g (ci := 7) rfl tc_X6 hp0 8 (by decide) tw_280 (fun _ h => h) rfl (k_ne hk25 (by decide)) dX6_select_66 ?_
        refine r_iload g dX6_select_69 5 rfl ?_
        obtain ⟨hi26, hw⟩ := hw
        refine r_iald g (Or.inl hk25) hi26 dX6_select_71 ?_
        obtain ⟨hi27, hw⟩ := hw
        obtain ⟨hk28, hw⟩ := hw
        refine r_aald (t := 4) g (by decide) (by decide) hk24 hi27 dX6_select_72 ?_
        refine r_rv (k_ne hk28 (by decide)) ?_
        refine r_astore (L' := [(6, .ref (rf_ M (rf_ M a2 0) (ix_ (it_ M (rf_ M a0 8) (ix_ x5))))), (0, .ref a0), (1, .ref a1), (2, .ref a2), (3, .ref a3), (4, .int x4), (5, .int x5)]) g dX6_select_73 (by decide) rfl ?_
        refine r_aload_n g dX6_select_75 rfl 2 rfl ?_
        obtain ⟨hk29, hw⟩ := hw
        refine r_gtR (C := RX8) (T := TX8) (N := 11) g (ci := 9) rfl tc_X8 hp1 0 (by decide) tw_165 (fun _ h => h) rfl (k_ne hk29 (by decide)) dX6_select_76 ?_
        refine r_aload g dX6_select_79 0 rfl ?_
        refine r_gt (C := RX2) (T := TX2) (N := 3) g (ci := 3) rfl tc_X2 hk28 0 (by decide) tw_231 (fun _ h => h) rfl dX6_select_81 ?_
        refine r_callVr (As := [.int (it_ M (rf_ M (rf_ M a2 0) (ix_ (it_ M (rf_ M a0 8) (ix_ x5)))) 0)]) g (fun sz => mt_Jx4a65c_get_915e3 hw sz) tw_540 tw_543 tw_5 tw_541 tw_542 (ci := 0) (T := TJx4a65c) (N := 3) rfl hk29 hy_Jx4a65c_get_915e3 ⟨rfl, rfl⟩ (Nat.le_of_ble_eq_true rfl) (Nat.le_of_ble_eq_true rfl) (Nat.le_of_ble_eq_true rfl) (Nat.le_of_ble_eq_true rfl) (Nat.le_of_ble_eq_true rfl) rfl dX6_select_84 (fun M30 r31 hK32 h34 hN33 => ?_)
        have hw := hK32 hN33
        have hk35 := Nk_.k hN33 hk28 (by decide)
        have hk36 := Nk_.k hN33 hp0 (by decide)
        have hk37 := Nk_.k hN33 hp1 (by decide)
        have hk38 := Nk_.k hN33 hp2 (by decide)
        have hk39 := Nk_.k hN33 hp3 (by decide)
        have hT40 := Nk_.tr (Nk_.rf _) hN33
        obtain ⟨hk41, hw⟩ := hw
        refine r_cast (C := RX1) (T := TX1) (N := 5) g (ci := 2) rfl tw_585 hk41 dX6_select_87 ?_
        refine r_astore (L' := [(7, .ref r31), (6, .ref (rf_ M (rf_ M a2 0) (ix_ (it_ M (rf_ M a0 8) (ix_ x5))))), (0, .ref a0), (1, .ref a1), (2, .ref a2), (3, .ref a3), (4, .int x4), (5, .int x5)]) g dX6_select_90 (by decide) rfl ?_
        refine r_aload_n g dX6_select_92 rfl 2 rfl ?_
        refine r_dup g dX6_select_93 rfl ?_
        refine r_gt (C := RX6) (T := TX6) (N := 10) g (ci := 7) rfl tc_X6 hk36 2 (by decide) tw_272 (fun _ h => h) rfl dX6_select_94 ?_
        refine r_iload g dX6_select_97 6 rfl ?_
        refine r_if_eq (tgt := 123) g dX6_select_99 (by decide) (fun hc42 => ?_) (fun hc42 => ?_)
        · have hw := hw.1 hc42
          refine r_aload_n g dX6_select_123 rfl 2 rfl ?_
          refine r_gt (C := RX6) (T := TX6) (N := 10) g (ci := 7) rfl tc_X6 hk36 6 (by decide) tw_278 (fun _ h => h) rfl dX6_select_124 ?_
          refine r_iadd g dX6_select_127 ?_
          refine r_ptI (C := RX6) (T := TX6) (N := 10) g (ci := 7) rfl tc_X6 tyX6 tyX6_ok nmX6 hk36 2 (by decide) tw_272 (fun _ h => h) rfl rfl rfl rfl dX6_select_128 ?_
          have hw := hw _ rfl
          refine r_aload_n g dX6_select_131 rfl 2 rfl ?_
          refine r_aload_n g dX6_select_132 rfl 5 rfl ?_
          refine r_aload g dX6_select_133 1 rfl ?_
          refine r_aload g dX6_select_135 0 rfl ?_
          refine r_callVv (As := [.ref a3, .ref (rf_ M (rf_ M a2 0) (ix_ (it_ M (rf_ M a0 8) (ix_ x5)))), .ref r31]) g (fun sz => mt_X6_narrow hw sz) tw_606 tw_609 tw_12 tw_608 tp_10 (ci := 7) (T := TX6) (N := 10) rfl hk36 hy_X6_narrow ⟨rfl, rfl⟩ (Nat.le_of_ble_eq_true rfl) (Nat.le_of_ble_eq_true rfl) (Nat.le_of_ble_eq_true rfl) (Nat.le_of_ble_eq_true rfl) (Nat.le_of_ble_eq_true rfl) rfl dX6_select_137 (fun M44 hK45 hN46 => ?_)
          have hw := hK45 hN46
          have hk47 := Nk_.k hN46 hk36 (by decide)
          have hk48 := Nk_.k hN46 hk37 (by decide)
          have hk49 := Nk_.k hN46 hk38 (by decide)
          have hk50 := Nk_.k hN46 hk39 (by decide)
          have hT51 := Nk_.tr hT40 hN46
          refine r_iinc (v := x5 + (1 : Int32)) (L' := [(5, .int (x5 + (1 : Int32))), (7, .ref r31), (6, .ref (rf_ M (rf_ M a2 0) (ix_ (it_ M (rf_ M a0 8) (ix_ x5))))), (0, .ref a0), (1, .ref a1), (2, .ref a2), (3, .ref a3), (4, .int x4)]) g dX6_select_140 7 rfl rfl (by decide) rfl ?_
          refine r_goto (tgt := 45) g dX6_select_143 (by decide) ?_
          exact V_.sub (ih E (x5 + (1 : Int32)) _ hw hk47 hk48 hk49 hk50 (fun  M9 hE9 hN9 => kE  M9 hE9 (Nk_.tr hT51 hN9))) [3, 4, 5, 6, 7, 0] rfl
        · have hw := hw.2 hc42
          refine r_aload_n g dX6_select_102 rfl 2 rfl ?_
          refine r_aload_n g dX6_select_103 rfl 5 rfl ?_
          obtain ⟨hk52, hw⟩ := hw
          refine r_gtR (C := RX0) (T := TX0) (N := 4) g (ci := 1) rfl tc_X0 hk39 1 (by decide) tw_144 (fun _ h => h) rfl (k_ne hk52 (by decide)) dX6_select_104 ?_
          refine r_aload g dX6_select_107 1 rfl ?_
          refine r_gt (C := RX2) (T := TX2) (N := 3) g (ci := 3) rfl tc_X2 hk35 0 (by decide) tw_231 (fun _ h => h) rfl dX6_select_109 ?_
          obtain ⟨hi53, hw⟩ := hw
          obtain ⟨hk54, hw⟩ := hw
          refine r_aald (t := 3) g (by decide) (by decide) hk52 hi53 dX6_select_112 ?_
          refine r_rv (k_ne hk54 (by decide)) ?_
          refine r_aload g dX6_select_113 1 rfl ?_
          refine r_aload g dX6_select_115 0 rfl ?_
          refine r_callVi (As := [.ref (rf_ M30 (rf_ M30 a3 1) (ix_ (it_ M30 (rf_ M (rf_ M a2 0) (ix_ (it_ M (rf_ M a0 8) (ix_ x5)))) 0))), .ref (rf_ M (rf_ M a2 0) (ix_ (it_ M (rf_ M a0 8) (ix_ x5)))), .ref r31]) g (fun sz => mt_X6_costIn hw sz) tw_586 tw_589 tw_12 tw_588 tp_9 (ci := 7) (T := TX6) (N := 10) rfl hk36 hy_X6_costIn ⟨rfl, rfl⟩ (Nat.le_of_ble_eq_true rfl) (Nat.le_of_ble_eq_true rfl) (Nat.le_of_ble_eq_true rfl) (Nat.le_of_ble_eq_true rfl) (Nat.le_of_ble_eq_true rfl) rfl dX6_select_117 (fun M55 r56 hK57 hN58 => ?_)
          have hw := hK57 hN58
          have hk59 := Nk_.k hN58 hk41 (by decide)
          have hk60 := Nk_.k hN58 hk35 (by decide)
          have hk61 := Nk_.k hN58 hk36 (by decide)
          have hk62 := Nk_.k hN58 hk37 (by decide)
          have hk63 := Nk_.k hN58 hk38 (by decide)
          have hk64 := Nk_.k hN58 hk39 (by decide)
          have hT65 := Nk_.tr hT40 hN58
          refine r_goto (tgt := 127) g dX6_select_120 (by decide) ?_
          refine r_iadd g dX6_select_127 ?_
          refine r_ptI (C := RX6) (T := TX6) (N := 10) g (ci := 7) rfl tc_X6 tyX6 tyX6_ok nmX6 hk61 2 (by decide) tw_272 (fun _ h => h) rfl rfl rfl rfl dX6_select_128 ?_
          have hw := hw _ rfl
          refine r_aload_n g dX6_select_131 rfl 2 rfl ?_
          refine r_aload_n g dX6_select_132 rfl 5 rfl ?_
          refine r_aload g dX6_select_133 1 rfl ?_
          refine r_aload g dX6_select_135 0 rfl ?_
          refine r_callVv (As := [.ref a3, .ref (rf_ M (rf_ M a2 0) (ix_ (it_ M (rf_ M a0 8) (ix_ x5)))), .ref r31]) g (fun sz => mt_X6_narrow hw sz) tw_606 tw_609 tw_12 tw_608 tp_10 (ci := 7) (T := TX6) (N := 10) rfl hk61 hy_X6_narrow ⟨rfl, rfl⟩ (Nat.le_of_ble_eq_true rfl) (Nat.le_of_ble_eq_true rfl) (Nat.le_of_ble_eq_true rfl) (Nat.le_of_ble_eq_true rfl) (Nat.le_of_ble_eq_true rfl) rfl dX6_select_137 (fun M67 hK68 hN69 => ?_)
          have hw := hK68 hN69
          have hk70 := Nk_.k hN69 hk61 (by decide)
          have hk71 := Nk_.k hN69 hk62 (by decide)
          have hk72 := Nk_.k hN69 hk63 (by decide)
          have hk73 := Nk_.k hN69 hk64 (by decide)
          have hT74 := Nk_.tr hT65 hN69
          refine r_iinc (v := x5 + (1 : Int32)) (L' := [(5, .int (x5 + (1 : Int32))), (7, .ref r31), (6, .ref (rf_ M (rf_ M a2 0) (ix_ (it_ M (rf_ M a0 8) (ix_ x5))))), (0, .ref a0), (1, .ref a1), (2, .ref a2), (3, .ref a3), (4, .int x4)]) g dX6_select_140 7 rfl rfl (by decide) rfl ?_
          refine r_goto (tgt := 45) g dX6_select_143 (by decide) ?_
          exact V_.sub (ih E (x5 + (1 : Int32)) _ hw hk70 hk71 hk72 hk73 (fun  M9 hE9 hN9 => kE  M9 hE9 (Nk_.tr hT74 hN9))) [3, 4, 5, 6, 7, 0] rfl
set_option maxHeartbeats 4000000 in
set_option maxRecDepth 100000 in
theorem mt_X6_select {l : Launch} {D : Dd_} {M : Mm} {a0 : Nat} {a1 : Nat} {a2 : Nat} {a3 : Nat} {x4 : Int32} {K : Mm → Prop} (hw : wp_X6_select a0 a1 a2 a3 x4 M K) (sz : Nat) : Met l yX6_select (Cond.code yX6_select cX6_select 8 none :: tbG_) rmX6_select (cPc_ D M sz [.ref a0, .ref a1, .ref a2, .ref a3, .int x4]) (va_Qv (fun M' => K M') (cB_ D M sz) (Aw_ M sz)) 0 0 (Aw_ M sz) := by
  refine ofV (by decide) (Nat.le_of_ble_eq_true rfl) ?_
  intro p e s m below meth c g hr hin hsz
  subst hsz
  obtain ⟨hp0, hp1, hp2, hp3, hw⟩ := hw
  refine r_aload_n g dX6_select_0 rfl 0 rfl ?_
  refine r_aload_n g dX6_select_1 rfl 2 rfl ?_
  refine r_aload_n g dX6_select_2 rfl 3 rfl ?_
  refine r_iload g dX6_select_3 4 rfl ?_
  refine r_callVv (As := [.ref a2, .ref a3, .int x4]) g (fun sz => mt_X6_orderConditions hw sz) tw_563 tw_566 tw_12 tw_565 tp_6 (ci := 7) (T := TX6) (N := 10) rfl hp0 hy_X6_orderConditions ⟨rfl, rfl⟩ (Nat.le_of_ble_eq_true rfl) (Nat.le_of_ble_eq_true rfl) (Nat.le_of_ble_eq_true rfl) (Nat.le_of_ble_eq_true rfl) (Nat.le_of_ble_eq_true rfl) rfl dX6_select_5 (fun M1 hK2 hN3 => ?_)
  have hw := hK2 hN3
  have hk4 := Nk_.k hN3 hp0 (by decide)
  have hk5 := Nk_.k hN3 hp1 (by decide)
  have hk6 := Nk_.k hN3 hp2 (by decide)
  have hk7 := Nk_.k hN3 hp3 (by decide)
  have hT8 := Nk_.tr (Nk_.rf _) hN3
  refine r_aload_n g dX6_select_8 rfl 0 rfl ?_
  refine r_aload_n g dX6_select_9 rfl 3 rfl ?_
  refine r_gt (C := RX0) (T := TX0) (N := 4) g (ci := 1) rfl tc_X0 hk7 2 (by decide) tw_148 (fun _ h => h) rfl dX6_select_10 ?_
  refine r_ptI (C := RX6) (T := TX6) (N := 10) g (ci := 7) rfl tc_X6 tyX6 tyX6_ok nmX6 hk4 6 (by decide) tw_278 (fun _ h => h) rfl rfl rfl rfl dX6_select_13 ?_
  have hw := hw _ rfl
  refine r_iconst (v := 0) g dX6_select_16 (by decide) ?_
  refine r_istore (L' := [(5, .int (0 : Int32)), (0, .ref a0), (1, .ref a1), (2, .ref a2), (3, .ref a3), (4, .int x4)]) g dX6_select_17 (by decide) rfl ?_
  obtain ⟨n14, hw⟩ := hw
  refine V_.sub (lo_X6_select_19 g hr rfl n14 _ (0 : Int32) _ hw hk4 hk5 hk6 hk7 (fun  M15 hE hN16 => ?_)) [1, 2, 3, 4, 5, 0] rfl
  have hw := hE hN16
  have hk17 := Nk_.k hN16 hk4 (by decide)
  have hk18 := Nk_.k hN16 hk5 (by decide)
  have hk19 := Nk_.k hN16 hk6 (by decide)
  have hk20 := Nk_.k hN16 hk7 (by decide)
  have hT21 := Nk_.tr hT8 hN16
  refine r_iconst (v := 0) g dX6_select_42 (by decide) ?_
  refine r_istore (L' := [(5, .int (0 : Int32)), (0, .ref a0), (1, .ref a1), (2, .ref a2), (3, .ref a3), (4, .int x4)]) g dX6_select_43 (by decide) rfl ?_
  obtain ⟨n75, hw⟩ := hw
  refine V_.sub (lo_X6_select_45 g hr rfl n75 _ (0 : Int32) _ hw hk17 hk18 hk19 hk20 (fun  M76 hE hN77 => ?_)) [1, 2, 3, 4, 5, 0] rfl
  have hw := hE hN77
  have hT78 := Nk_.tr hT21 hN77
  exact r_vret g hr (Nat.le_of_ble_eq_true rfl) (Nat.le_of_ble_eq_true rfl) rfl dX6_select_146 hw
def rmX6_lookThrough : Room := { frames := 5, cells := 0, slots := 0, locals := 117 }
theorem hy_X6_lookThrough : yX6_lookThrough.cls ≠ "java/lang/invoke/MethodHandle" ∧ yX6_lookThrough.cls ≠ "java/lang/invoke/VarHandle" ∧ (parseMethodDescriptor yX6_lookThrough.desc).map (fun d => d.parameters.length) = some 4 := by decide +kernel
def lp_X6_lookThrough_6 (a0 : Nat) (a1 : Nat) (a2 : Nat) (a3 : Nat) (x4 : Int32) (x5 : Int32) (K : Mm → Int32 → Prop) (E : Mm → Prop) : Nat → Int32 → Mm → Prop
  | 0, _, _ => False
  | n + 1, x6, M => (((it_ M a3 2) ≤ x6 → E M) ∧ (¬ (it_ M a3 2) ≤ x6 → (kd_ M (rf_ M a0 7) = 21 ∧ (vp_in x6 (ln_ M (rf_ M a0 7)) ∧ (∀ M4, M4 = sI_ M (rf_ M a0 7) (ix_ x6) (0 : Int32) → lp_X6_lookThrough_6 a0 a1 a2 a3 x4 x5 K E n (x6 + (1 : Int32)) M4)))))
def lp_X6_lookThrough_90 (a0 : Nat) (a1 : Nat) (a2 : Nat) (a3 : Nat) (x4 : Int32) (x5 : Int32) (x6 : Int32) (K : Mm → Int32 → Prop) (E : Mm → Prop) : Nat → Int32 → Mm → Prop
  | 0, _, _ => False
  | n + 1, x8, M => (((it_ M a3 2) ≤ x8 → E M) ∧ (¬ (it_ M a3 2) ≤ x8 → (kd_ M (rf_ M a0 7) = 21 ∧ (vp_in x8 (ln_ M (rf_ M a0 7)) ∧ (bz_ (it_ M (rf_ M a0 7) (ix_ x8)) → (((it_ M (rf_ M a0 7) (ix_ x8)) = 0 → (kd_ M (rf_ M a0 5) = 21 ∧ (vp_in x8 (ln_ M (rf_ M a0 5)) ∧ (bz_ (it_ M (rf_ M a0 5) (ix_ x8)) → (((it_ M (rf_ M a0 5) (ix_ x8)) = 0 → (vp_in x8 (ln_ M (rf_ M a0 7)) ∧ (∀ M39, M39 = sI_ M (rf_ M a0 7) (ix_ x8) (0 : Int32) → lp_X6_lookThrough_90 a0 a1 a2 a3 x4 x5 x6 K E n (x8 + (1 : Int32)) M39))) ∧ (¬ (it_ M (rf_ M a0 5) (ix_ x8)) = 0 → (vp_in x8 (ln_ M (rf_ M a0 7)) ∧ (∀ M41, M41 = sI_ M (rf_ M a0 7) (ix_ x8) (1 : Int32) → lp_X6_lookThrough_90 a0 a1 a2 a3 x4 x5 x6 K E n (x8 + (1 : Int32)) M41)))))))) ∧ (¬ (it_ M (rf_ M a0 7) (ix_ x8)) = 0 → (vp_in x8 (ln_ M (rf_ M a0 7)) ∧ (∀ M33, M33 = sI_ M (rf_ M a0 7) (ix_ x8) (1 : Int32) → lp_X6_lookThrough_90 a0 a1 a2 a3 x4 x5 x6 K E n (x8 + (1 : Int32)) M33)))))))))
def lp_X6_lookThrough_32 (a0 : Nat) (a1 : Nat) (a2 : Nat) (a3 : Nat) (x4 : Int32) (K : Mm → Int32 → Prop) (E : Int32 → Mm → Prop) : Nat → Int32 → Int32 → Mm → Prop
  | 0, _, _, _ => False
  | n + 1, x5, x6, M => (((it_ M a2 1) ≤ x6 → E x5 M) ∧ (¬ (it_ M a2 1) ≤ x6 → (kd_ M (rf_ M a2 0) = 25 ∧ (vp_in x6 (ln_ M (rf_ M a2 0)) ∧ (kd_ M (rf_ M (rf_ M a2 0) (ix_ x6)) = 5 ∧ (((it_ M (rf_ M (rf_ M a2 0) (ix_ x6)) 1) ≤ 0 → lp_X6_lookThrough_32 a0 a1 a2 a3 x4 K E n x5 (x6 + (1 : Int32)) M) ∧ (¬ (it_ M (rf_ M (rf_ M a2 0) (ix_ x6)) 1) ≤ 0 → (wp_X6_select a0 a1 (rf_ M (rf_ M a2 0) (ix_ x6)) a3 x4 M (fun M18 => Nk_ M M18 → ((x5 = 0 → (((it_ M18 a0 6) ≤ 0 → (∃ n51 : Nat, lp_X6_lookThrough_90 a0 a1 a2 a3 x4 (0 : Int32) x6 K (fun  M52 => Nk_ M18 M52 → lp_X6_lookThrough_32 a0 a1 a2 a3 x4 K E n (0 : Int32) (x6 + (1 : Int32)) M52) n51 (0 : Int32) M18)) ∧ (¬ (it_ M18 a0 6) ≤ 0 → (∃ n59 : Nat, lp_X6_lookThrough_90 a0 a1 a2 a3 x4 (1 : Int32) x6 K (fun  M60 => Nk_ M18 M60 → lp_X6_lookThrough_32 a0 a1 a2 a3 x4 K E n (1 : Int32) (x6 + (1 : Int32)) M60) n59 (0 : Int32) M18)))) ∧ (¬ x5 = 0 → (∃ n42 : Nat, lp_X6_lookThrough_90 a0 a1 a2 a3 x4 (1 : Int32) x6 K (fun  M43 => Nk_ M18 M43 → lp_X6_lookThrough_32 a0 a1 a2 a3 x4 K E n (1 : Int32) (x6 + (1 : Int32)) M43) n42 (0 : Int32) M18))))))))))))
def wp_X6_lookThrough (a0 : Nat) (a1 : Nat) (a2 : Nat) (a3 : Nat) (x4 : Int32) (M : Mm) (K : Mm → Int32 → Prop) : Prop := kd_ M a0 = 8 ∧ kd_ M a1 = 10 ∧ kd_ M a2 = 6 ∧ kd_ M a3 = 2 ∧ (∃ n5 : Nat, lp_X6_lookThrough_6 a0 a1 a2 a3 x4 (0 : Int32) K (fun  M6 => Nk_ M M6 → (∃ n67 : Nat, lp_X6_lookThrough_32 a0 a1 a2 a3 x4 K (fun xv70 M68 => Nk_ M6 M68 → (bz_ xv70 ∧ (K M68 xv70))) n67 (0 : Int32) (0 : Int32) M6)) n5 (0 : Int32) M)
set_option maxHeartbeats 4000000 in
set_option maxRecDepth 100000 in
theorem lo_X6_lookThrough_6 {p : Program} {l : Launch} {e : Env} {s : State} {m : MethodId} {args : Array Value} {below : List Frame} {meth : Method} {c : Code} {D : Dd_} {M0 : Mm} {Q : State → Prop} {K : Mm → Int32 → Prop} (g : G_ p s m args meth c cX6_lookThrough 9 RX6 D M0) (hr : meth.sig.returnType = some .boolean) (hQ : Q = MQ below (va_Qi (fun r M' => K M' r ∧ bz_ r) (cB_ D M0 s.heap.size) (Aw_ M0 s.heap.size)) args s 0 0 (Aw_ M0 s.heap.size)) {a0 : Nat} {a1 : Nat} {a2 : Nat} {a3 : Nat} {x4 : Int32} {x5 : Int32} : ∀ (n : Nat) (E : Mm → Prop) (x6 : Int32) (M : Mm), lp_X6_lookThrough_6 a0 a1 a2 a3 x4 x5 K E n x6 M → kd_ M a0 = 8 → kd_ M a1 = 10 → kd_ M a2 = 6 → kd_ M a3 = 2 → (∀  (M' : Mm), E  M' → Nk_ M M' → V_ p l e rmX6_lookThrough s m args below meth c 9 D M0 Q 29 [(0, .ref a0), (1, .ref a1), (2, .ref a2), (3, .ref a3), (4, .int x4), (5, .int x5)] [] M' 0 0) → V_ p l e rmX6_lookThrough s m args below meth c 9 D M0 Q 6 [(0, .ref a0), (1, .ref a1), (2, .ref a2), (3, .ref a3), (4, .int x4), (5, .int x5), (6, .int x6)] [] M 0 0 := by
  intro n
  induction n with
  | zero =>
    intro E x6 M hw
    exact hw.elim
  | succ n ih =>
    intro E x6 M hw hp0 hp1 hp2 hp3 kE
    refine r_iload g dX6_lookThrough_6 6 rfl ?_
    refine r_aload_n g dX6_lookThrough_8 rfl 3 rfl ?_
    refine r_gt (C := RX0) (T := TX0) (N := 4) g (ci := 1) rfl tc_X0 hp3 2 (by decide) tw_148 (fun _ h => h) rfl dX6_lookThrough_9 ?_
    refine r_icmp_ge (tgt := 29) g dX6_lookThrough_12 (by decide) (fun hc1 => ?_) (fun hc1 => ?_)
    · have hw := hw.1 hc1
      exact V_.sub (kE  _ hw (Nk_.rf _)) [0, 1, 2, 3, 4, 5] rfl
    · have hw := hw.2 hc1
      refine r_aload_n g dX6_lookThrough_15 rfl 0 rfl ?_
      obtain ⟨hk2, hw⟩ := hw
      refine r_gtR (C := RX6) (T := TX6) (N := 10) g (ci := 7) rfl tc_X6 hp0 7 (by decide) tw_279 (fun _ h => h) rfl (k_ne hk2 (by decide)) dX6_lookThrough_16 ?_
      refine r_iload g dX6_lookThrough_19 6 rfl ?_
      refine r_iconst (v := 0) g dX6_lookThrough_21 (by decide) ?_
      obtain ⟨hi3, hw⟩ := hw
      refine r_zast g hk2 hi3 (Or.inl rfl) dX6_lookThrough_22 ?_
      have hw := hw _ rfl
      refine r_iinc (v := x6 + (1 : Int32)) (L' := [(6, .int (x6 + (1 : Int32))), (0, .ref a0), (1, .ref a1), (2, .ref a2), (3, .ref a3), (4, .int x4), (5, .int x5)]) g dX6_lookThrough_23 6 rfl rfl (by decide) rfl ?_
      refine r_goto (tgt := 6) g dX6_lookThrough_26 (by decide) ?_
      exact V_.sub (ih E (x6 + (1 : Int32)) _ hw hp0 hp1 hp2 hp3 (fun  M9 hE9 hN9 => kE  M9 hE9 (Nk_.tr (Nk_.rf _) hN9))) [1, 2, 3, 4, 5, 6, 0] rfl
set_option maxHeartbeats 4000000 in
set_option maxRecDepth 100000 in
theorem lo_X6_lookThrough_90 {p : Program} {l : Launch} {e : Env} {s : State} {m : MethodId} {args : Array Value} {below : List Frame} {meth : Method} {c : Code} {D : Dd_} {M0 : Mm} {Q : State → Prop} {K : Mm → Int32 → Prop} (g : G_ p s m args meth c cX6_lookThrough 9 RX6 D M0) (hr : meth.sig.returnType = some .boolean) (hQ : Q = MQ below (va_Qi (fun r M' => K M' r ∧ bz_ r) (cB_ D M0 s.heap.size) (Aw_ M0 s.heap.size)) args s 0 0 (Aw_ M0 s.heap.size)) {a0 : Nat} {a1 : Nat} {a2 : Nat} {a3 : Nat} {x4 : Int32} {x5 : Int32} {x6 : Int32} : ∀ (n : Nat) (E : Mm → Prop) (x8 : Int32) (M : Mm), lp_X6_lookThrough_90 a0 a1 a2 a3 x4 x5 x6 K E n x8 M → kd_ M a0 = 8 → kd_ M a1 = 10 → kd_ M a2 = 6 → kd_ M a3 = 2 → (∀  (M' : Mm), E  M' → Nk_ M M' → V_ p l e rmX6_lookThrough s m args below meth c 9 D M0 Q 137 [(0, .ref a0), (1, .ref a1), (2, .ref a2), (3, .ref a3), (4, .int x4), (5, .int x5), (6, .int x6)] [] M' 0 0) → V_ p l e rmX6_lookThrough s m args below meth c 9 D M0 Q 90 [(0, .ref a0), (1, .ref a1), (2, .ref a2), (3, .ref a3), (4, .int x4), (5, .int x5), (6, .int x6), (8, .int x8)] [] M 0 0 := by
  intro n
  induction n with
  | zero =>
    intro E x8 M hw
    exact hw.elim
  | succ n ih =>
    intro E x8 M hw hp0 hp1 hp2 hp3 kE
    refine r_iload g dX6_lookThrough_90 7 rfl ?_
    refine r_aload_n g dX6_lookThrough_92 rfl 3 rfl ?_
    refine r_gt (C := RX0) (T := TX0) (N := 4) g (ci := 1) rfl tc_X0 hp3 2 (by decide) tw_148 (fun _ h => h) rfl dX6_lookThrough_93 ?_
    refine r_icmp_ge (tgt := 137) g dX6_lookThrough_96 (by decide) (fun hc27 => ?_) (fun hc27 => ?_)
    · have hw := hw.1 hc27
      exact V_.sub (kE  _ hw (Nk_.rf _)) [0, 1, 2, 3, 4, 5, 6] rfl
    · have hw := hw.2 hc27
      refine r_aload_n g dX6_lookThrough_99 rfl 0 rfl ?_
      obtain ⟨hk28, hw⟩ := hw
      refine r_gtR (C := RX6) (T := TX6) (N := 10) g (ci := 7) rfl tc_X6 hp0 7 (by decide) tw_279 (fun _ h => h) rfl (k_ne hk28 (by decide)) dX6_lookThrough_100 ?_
      refine r_iload g dX6_lookThrough_103 7 rfl ?_
      refine r_aload_n g dX6_lookThrough_105 rfl 0 rfl ?_
      refine r_gtR (C := RX6) (T := TX6) (N := 10) g (ci := 7) rfl tc_X6 hp0 7 (by decide) tw_279 (fun _ h => h) rfl (k_ne hk28 (by decide)) dX6_lookThrough_106 ?_
      refine r_iload g dX6_lookThrough_109 7 rfl ?_
      obtain ⟨hi29, hw⟩ := hw
      refine r_zald g hk28 hi29 dX6_lookThrough_111 (fun hb30 => ?_)
      have hw := hw hb30
      refine r_if_ne (tgt := 125) g dX6_lookThrough_112 (by decide) (fun hc31 => ?_) (fun hc31 => ?_)
      · have hw := hw.2 hc31
        refine r_iconst (v := 1) g dX6_lookThrough_125 (by decide) ?_
        refine r_goto (tgt := 130) g dX6_lookThrough_126 (by decide) ?_
        obtain ⟨hi32, hw⟩ := hw
        refine r_zast g hk28 hi32 (Or.inr rfl) dX6_lookThrough_130 ?_
        have hw := hw _ rfl
        refine r_iinc (v := x8 + (1 : Int32)) (L' := [(8, .int (x8 + (1 : Int32))), (0, .ref a0), (1, .ref a1), (2, .ref a2), (3, .ref a3), (4, .int x4), (5, .int x5), (6, .int x6)]) g dX6_lookThrough_131 7 rfl rfl (by decide) rfl ?_
        refine r_goto (tgt := 90) g dX6_lookThrough_134 (by decide) ?_
        exact V_.sub (ih E (x8 + (1 : Int32)) _ hw hp0 hp1 hp2 hp3 (fun  M9 hE9 hN9 => kE  M9 hE9 (Nk_.tr (Nk_.rf _) hN9))) [1, 2, 3, 4, 5, 6, 7, 0] rfl
      · have hw := hw.1 hc31
        refine r_aload_n g dX6_lookThrough_115 rfl 0 rfl ?_
        obtain ⟨hk34, hw⟩ := hw
        refine r_gtR (C := RX6) (T := TX6) (N := 10) g (ci := 7) rfl tc_X6 hp0 5 (by decide) tw_277 (fun _ h => h) rfl (k_ne hk34 (by decide)) dX6_lookThrough_116 ?_
        refine r_iload g dX6_lookThrough_119 7 rfl ?_
        obtain ⟨hi35, hw⟩ := hw
        refine r_zald g hk34 hi35 dX6_lookThrough_121 (fun hb36 => ?_)
        have hw := hw hb36
        refine r_if_eq (tgt := 129) g dX6_lookThrough_122 (by decide) (fun hc37 => ?_) (fun hc37 => ?_)
        · have hw := hw.1 hc37
          refine r_iconst (v := 0) g dX6_lookThrough_129 (by decide) ?_
          obtain ⟨hi38, hw⟩ := hw
          refine r_zast g hk28 hi38 (Or.inl rfl) dX6_lookThrough_130 ?_
          have hw := hw _ rfl
          refine r_iinc (v := x8 + (1 : Int32)) (L' := [(8, .int (x8 + (1 : Int32))), (0, .ref a0), (1, .ref a1), (2, .ref a2), (3, .ref a3), (4, .int x4), (5, .int x5), (6, .int x6)]) g dX6_lookThrough_131 7 rfl rfl (by decide) rfl ?_
          refine r_goto (tgt := 90) g dX6_lookThrough_134 (by decide) ?_
          exact V_.sub (ih E (x8 + (1 : Int32)) _ hw hp0 hp1 hp2 hp3 (fun  M9 hE9 hN9 => kE  M9 hE9 (Nk_.tr (Nk_.rf _) hN9))) [1, 2, 3, 4, 5, 6, 7, 0] rfl
        · have hw := hw.2 hc37
          refine r_iconst (v := 1) g dX6_lookThrough_125 (by decide) ?_
          refine r_goto (tgt := 130) g dX6_lookThrough_126 (by decide) ?_
          obtain ⟨hi40, hw⟩ := hw
          refine r_zast g hk28 hi40 (Or.inr rfl) dX6_lookThrough_130 ?_
          have hw := hw _ rfl
          refine r_iinc (v := x8 + (1 : Int32)) (L' := [(8, .int (x8 + (1 : Int32))), (0, .ref a0), (1, .ref a1), (2, .ref a2), (3, .ref a3), (4, .int x4), (5, .int x5), (6, .int x6)]) g dX6_lookThrough_131 7 rfl rfl (by decide) rfl ?_
          refine r_goto (tgt := 90) g dX6_lookThrough_134 (by decide) ?_
          exact V_.sub (ih E (x8 + (1 : Int32)) _ hw hp0 hp1 hp2 hp3 (fun  M9 hE9 hN9 => kE  M9 hE9 (Nk_.tr (Nk_.rf _) hN9))) [1, 2, 3, 4, 5, 6, 7, 0] rfl
set_option maxHeartbeats 4000000 in
set_option maxRecDepth 100000 in
theorem lo_X6_lookThrough_32 {p : Program} {l : Launch} {e : Env} {s : State} {m : MethodId} {args : Array Value} {below : List Frame} {meth : Method} {c : Code} {D : Dd_} {M0 : Mm} {Q : State → Prop} {K : Mm → Int32 → Prop} (g : G_ p s m args meth c cX6_lookThrough 9 RX6 D M0) (hr : meth.sig.returnType = some .boolean) (hQ : Q = MQ below (va_Qi (fun r M' => K M' r ∧ bz_ r) (cB_ D M0 s.heap.size) (Aw_ M0 s.heap.size)) args s 0 0 (Aw_ M0 s.heap.size)) {a0 : Nat} {a1 : Nat} {a2 : Nat} {a3 : Nat} {x4 : Int32} : ∀ (n : Nat) (E : Int32 → Mm → Prop) (x5 : Int32) (x6 : Int32) (M : Mm), lp_X6_lookThrough_32 a0 a1 a2 a3 x4 K E n x5 x6 M → kd_ M a0 = 8 → kd_ M a1 = 10 → kd_ M a2 = 6 → kd_ M a3 = 2 → (∀ (e9_5 : Int32) (M' : Mm), E e9_5 M' → Nk_ M M' → V_ p l e rmX6_lookThrough s m args below meth c 9 D M0 Q 143 [(5, .int e9_5)] [] M' 0 0) → V_ p l e rmX6_lookThrough s m args below meth c 9 D M0 Q 32 [(0, .ref a0), (1, .ref a1), (2, .ref a2), (3, .ref a3), (4, .int x4), (5, .int x5), (6, .int x6)] [] M 0 0 := by
  intro n
  induction n with
  | zero =>
    intro E x5 x6 M hw
    exact hw.elim
  | succ n ih =>
    intro E x5 x6 M hw hp0 hp1 hp2 hp3 kE
    refine r_iload g dX6_lookThrough_32 6 rfl ?_
    refine r_aload_n g dX6_lookThrough_34 rfl 2 rfl ?_
    refine r_gt (C := RX4) (T := TX4) (N := 2) g (ci := 5) rfl tc_X4 hp2 1 (by decide) tw_255 (fun _ h => h) rfl dX6_lookThrough_35 ?_
    refine r_icmp_ge (tgt := 143) g dX6_lookThrough_38 (by decide) (fun hc13 => ?_) (fun hc13 => ?_)
    · have hw := hw.1 hc13
      exact V_.sub (kE x5 _ hw (Nk_.rf _)) [5] rfl
    · have hw := hw.2 hc13
      refine r_aload_n g dX6_lookThrough_41 rfl 2 rfl ?_
      obtain ⟨hk14, hw⟩ := hw
      refine r_gtR (C := RX4) (T := TX4) (N := 2) g (ci := 5) rfl tc_X4 hp2 0 (by decide) tw_253 (fun _ h => h) rfl (k_ne hk14 (by decide)) dX6_lookThrough_42 ?_
      refine r_iload g dX6_lookThrough_45 6 rfl ?_
      obtain ⟨hi15, hw⟩ := hw
      obtain ⟨hk16, hw⟩ := hw
      refine r_aald (t := 5) g (by decide) (by decide) hk14 hi15 dX6_lookThrough_47 ?_
      refine r_rv (k_ne hk16 (by decide)) ?_
      refine r_astore (L' := [(7, .ref (rf_ M (rf_ M a2 0) (ix_ x6))), (0, .ref a0), (1, .ref a1), (2, .ref a2), (3, .ref a3), (4, .int x4), (5, .int x5), (6, .int x6)]) g dX6_lookThrough_48 (by decide) rfl ?_
      refine r_aload g dX6_lookThrough_50 0 rfl ?_
      refine r_gt (C := RX3) (T := TX3) (N := 2) g (ci := 4) rfl tc_X3 hk16 1 (by decide) tw_245 (fun _ h => h) rfl dX6_lookThrough_52 ?_
      refine r_if_le (tgt := 137) g dX6_lookThrough_55 (by decide) (fun hc17 => ?_) (fun hc17 => ?_)
      · have hw := hw.1 hc17
        refine r_iinc (v := x6 + (1 : Int32)) (L' := [(6, .int (x6 + (1 : Int32))), (7, .ref (rf_ M (rf_ M a2 0) (ix_ x6))), (0, .ref a0), (1, .ref a1), (2, .ref a2), (3, .ref a3), (4, .int x4), (5, .int x5)]) g dX6_lookThrough_137 7 rfl rfl (by decide) rfl ?_
        refine r_goto (tgt := 32) g dX6_lookThrough_140 (by decide) ?_
        exact V_.sub (ih E x5 (x6 + (1 : Int32)) _ hw hp0 hp1 hp2 hp3 (fun e9_5 M9 hE9 hN9 => kE e9_5 M9 hE9 (Nk_.tr (Nk_.rf _) hN9))) [2, 3, 4, 5, 6, 7, 0] rfl
      · have hw := hw.2 hc17
        refine r_aload_n g dX6_lookThrough_58 rfl 1 rfl ?_
        refine r_aload_n g dX6_lookThrough_59 rfl 2 rfl ?_
        refine r_aload g dX6_lookThrough_60 0 rfl ?_
        refine r_aload_n g dX6_lookThrough_62 rfl 4 rfl ?_
        refine r_iload g dX6_lookThrough_63 5 rfl ?_
        refine r_callVv (As := [.ref a1, .ref (rf_ M (rf_ M a2 0) (ix_ x6)), .ref a3, .int x4]) g (fun sz => mt_X6_select hw sz) tw_559 tw_562 tw_12 tw_561 tp_5 (ci := 7) (T := TX6) (N := 10) rfl hp0 hy_X6_select ⟨rfl, rfl⟩ (Nat.le_of_ble_eq_true rfl) (Nat.le_of_ble_eq_true rfl) (Nat.le_of_ble_eq_true rfl) (Nat.le_of_ble_eq_true rfl) (Nat.le_of_ble_eq_true rfl) rfl dX6_lookThrough_65 (fun M18 hK19 hN20 => ?_)
        have hw := hK19 hN20
        have hk21 := Nk_.k hN20 hp0 (by decide)
        have hk22 := Nk_.k hN20 hp1 (by decide)
        have hk23 := Nk_.k hN20 hp2 (by decide)
        have hk24 := Nk_.k hN20 hp3 (by decide)
        have hT25 := Nk_.tr (Nk_.rf _) hN20
        refine r_iload g dX6_lookThrough_68 6 rfl ?_
        refine r_if_ne (tgt := 80) g dX6_lookThrough_70 (by decide) (fun hc26 => ?_) (fun hc26 => ?_)
        · have hw := hw.2 hc26
          refine r_iconst (v := 1) g dX6_lookThrough_80 (by decide) ?_
          refine r_goto (tgt := 85) g dX6_lookThrough_81 (by decide) ?_
          refine r_istore (L' := [(5, .int (1 : Int32)), (7, .ref (rf_ M (rf_ M a2 0) (ix_ x6))), (0, .ref a0), (1, .ref a1), (2, .ref a2), (3, .ref a3), (4, .int x4), (6, .int x6)]) g dX6_lookThrough_85 (by decide) rfl ?_
          refine r_iconst (v := 0) g dX6_lookThrough_87 (by decide) ?_
          refine r_istore (L' := [(8, .int (0 : Int32)), (5, .int (1 : Int32)), (7, .ref (rf_ M (rf_ M a2 0) (ix_ x6))), (0, .ref a0), (1, .ref a1), (2, .ref a2), (3, .ref a3), (4, .int x4), (6, .int x6)]) g dX6_lookThrough_88 (by decide) rfl ?_
          obtain ⟨n42, hw⟩ := hw
          refine V_.sub (lo_X6_lookThrough_90 g hr hQ n42 _ (0 : Int32) _ hw hk21 hk22 hk23 hk24 (fun  M43 hE hN44 => ?_)) [3, 4, 5, 6, 7, 1, 8, 0] rfl
          have hw := hE hN44
          have hk45 := Nk_.k hN44 hk21 (by decide)
          have hk46 := Nk_.k hN44 hk22 (by decide)
          have hk47 := Nk_.k hN44 hk23 (by decide)
          have hk48 := Nk_.k hN44 hk24 (by decide)
          have hT49 := Nk_.tr hT25 hN44
          refine r_iinc (v := x6 + (1 : Int32)) (L' := [(6, .int (x6 + (1 : Int32))), (0, .ref a0), (1, .ref a1), (2, .ref a2), (3, .ref a3), (4, .int x4), (5, .int (1 : Int32))]) g dX6_lookThrough_137 6 rfl rfl (by decide) rfl ?_
          refine r_goto (tgt := 32) g dX6_lookThrough_140 (by decide) ?_
          exact V_.sub (ih E (1 : Int32) (x6 + (1 : Int32)) _ hw hk45 hk46 hk47 hk48 (fun e9_5 M9 hE9 hN9 => kE e9_5 M9 hE9 (Nk_.tr hT49 hN9))) [1, 2, 3, 4, 5, 6, 0] rfl
        · have hw := hw.1 hc26
          refine r_aload_n g dX6_lookThrough_73 rfl 1 rfl ?_
          refine r_gt (C := RX6) (T := TX6) (N := 10) g (ci := 7) rfl tc_X6 hk21 6 (by decide) tw_278 (fun _ h => h) rfl dX6_lookThrough_74 ?_
          refine r_if_le (tgt := 84) g dX6_lookThrough_77 (by decide) (fun hc50 => ?_) (fun hc50 => ?_)
          · have hw := hw.1 hc50
            refine r_iconst (v := 0) g dX6_lookThrough_84 (by decide) ?_
            refine r_istore (L' := [(5, .int (0 : Int32)), (7, .ref (rf_ M (rf_ M a2 0) (ix_ x6))), (0, .ref a0), (1, .ref a1), (2, .ref a2), (3, .ref a3), (4, .int x4), (6, .int x6)]) g dX6_lookThrough_85 (by decide) rfl ?_
            refine r_iconst (v := 0) g dX6_lookThrough_87 (by decide) ?_
            refine r_istore (L' := [(8, .int (0 : Int32)), (5, .int (0 : Int32)), (7, .ref (rf_ M (rf_ M a2 0) (ix_ x6))), (0, .ref a0), (1, .ref a1), (2, .ref a2), (3, .ref a3), (4, .int x4), (6, .int x6)]) g dX6_lookThrough_88 (by decide) rfl ?_
            obtain ⟨n51, hw⟩ := hw
            refine V_.sub (lo_X6_lookThrough_90 g hr hQ n51 _ (0 : Int32) _ hw hk21 hk22 hk23 hk24 (fun  M52 hE hN53 => ?_)) [3, 4, 5, 6, 7, 1, 8, 0] rfl
            have hw := hE hN53
            have hk54 := Nk_.k hN53 hk21 (by decide)
            have hk55 := Nk_.k hN53 hk22 (by decide)
            have hk56 := Nk_.k hN53 hk23 (by decide)
            have hk57 := Nk_.k hN53 hk24 (by decide)
            have hT58 := Nk_.tr hT25 hN53
            refine r_iinc (v := x6 + (1 : Int32)) (L' := [(6, .int (x6 + (1 : Int32))), (0, .ref a0), (1, .ref a1), (2, .ref a2), (3, .ref a3), (4, .int x4), (5, .int (0 : Int32))]) g dX6_lookThrough_137 6 rfl rfl (by decide) rfl ?_
            refine r_goto (tgt := 32) g dX6_lookThrough_140 (by decide) ?_
            exact V_.sub (ih E (0 : Int32) (x6 + (1 : Int32)) _ hw hk54 hk55 hk56 hk57 (fun e9_5 M9 hE9 hN9 => kE e9_5 M9 hE9 (Nk_.tr hT58 hN9))) [1, 2, 3, 4, 5, 6, 0] rfl
          · have hw := hw.2 hc50
            refine r_iconst (v := 1) g dX6_lookThrough_80 (by decide) ?_
            refine r_goto (tgt := 85) g dX6_lookThrough_81 (by decide) ?_
            refine r_istore (L' := [(5, .int (1 : Int32)), (7, .ref (rf_ M (rf_ M a2 0) (ix_ x6))), (0, .ref a0), (1, .ref a1), (2, .ref a2), (3, .ref a3), (4, .int x4), (6, .int x6)]) g dX6_lookThrough_85 (by decide) rfl ?_
            refine r_iconst (v := 0) g dX6_lookThrough_87 (by decide) ?_
            refine r_istore (L' := [(8, .int (0 : Int32)), (5, .int (1 : Int32)), (7, .ref (rf_ M (rf_ M a2 0) (ix_ x6))), (0, .ref a0), (1, .ref a1), (2, .ref a2), (3, .ref a3), (4, .int x4), (6, .int x6)]) g dX6_lookThrough_88 (by decide) rfl ?_
            obtain ⟨n59, hw⟩ := hw
            refine V_.sub (lo_X6_lookThrough_90 g hr hQ n59 _ (0 : Int32) _ hw hk21 hk22 hk23 hk24 (fun  M60 hE hN61 => ?_)) [3, 4, 5, 6, 7, 1, 8, 0] rfl
            have hw := hE hN61
            have hk62 := Nk_.k hN61 hk21 (by decide)
            have hk63 := Nk_.k hN61 hk22 (by decide)
            have hk64 := Nk_.k hN61 hk23 (by decide)
            have hk65 := Nk_.k hN61 hk24 (by decide)
            have hT66 := Nk_.tr hT25 hN61
            refine r_iinc (v := x6 + (1 : Int32)) (L' := [(6, .int (x6 + (1 : Int32))), (0, .ref a0), (1, .ref a1), (2, .ref a2), (3, .ref a3), (4, .int x4), (5, .int (1 : Int32))]) g dX6_lookThrough_137 6 rfl rfl (by decide) rfl ?_
            refine r_goto (tgt := 32) g dX6_lookThrough_140 (by decide) ?_
            exact V_.sub (ih E (1 : Int32) (x6 + (1 : Int32)) _ hw hk62 hk63 hk64 hk65 (fun e9_5 M9 hE9 hN9 => kE e9_5 M9 hE9 (Nk_.tr hT66 hN9))) [1, 2, 3, 4, 5, 6, 0] rfl
set_option maxHeartbeats 4000000 in
set_option maxRecDepth 100000 in
theorem mt_X6_lookThrough {l : Launch} {D : Dd_} {M : Mm} {a0 : Nat} {a1 : Nat} {a2 : Nat} {a3 : Nat} {x4 : Int32} {K : Mm → Int32 → Prop} (hw : wp_X6_lookThrough a0 a1 a2 a3 x4 M K) (sz : Nat) : Met l yX6_lookThrough (Cond.code yX6_lookThrough cX6_lookThrough 9 (some .boolean) :: tbG_) rmX6_lookThrough (cPc_ D M sz [.ref a0, .ref a1, .ref a2, .ref a3, .int x4]) (va_Qi (fun r M' => K M' r ∧ bz_ r) (cB_ D M sz) (Aw_ M sz)) 0 0 (Aw_ M sz) := by
  refine ofV (by decide) (Nat.le_of_ble_eq_true rfl) ?_
  intro p e s m below meth c g hr hin hsz
  subst hsz
  obtain ⟨hp0, hp1, hp2, hp3, hw⟩ := hw
  refine r_iconst (v := 0) g dX6_lookThrough_0 (by decide) ?_
  refine r_istore (L' := [(5, .int (0 : Int32)), (0, .ref a0), (1, .ref a1), (2, .ref a2), (3, .ref a3), (4, .int x4)]) g dX6_lookThrough_1 (by decide) rfl ?_
  refine r_iconst (v := 0) g dX6_lookThrough_3 (by decide) ?_
  refine r_istore (L' := [(6, .int (0 : Int32)), (5, .int (0 : Int32)), (0, .ref a0), (1, .ref a1), (2, .ref a2), (3, .ref a3), (4, .int x4)]) g dX6_lookThrough_4 (by decide) rfl ?_
  obtain ⟨n5, hw⟩ := hw
  refine V_.sub (lo_X6_lookThrough_6 g hr rfl n5 _ (0 : Int32) _ hw hp0 hp1 hp2 hp3 (fun  M6 hE hN7 => ?_)) [2, 3, 4, 5, 6, 1, 0] rfl
  have hw := hE hN7
  have hk8 := Nk_.k hN7 hp0 (by decide)
  have hk9 := Nk_.k hN7 hp1 (by decide)
  have hk10 := Nk_.k hN7 hp2 (by decide)
  have hk11 := Nk_.k hN7 hp3 (by decide)
  have hT12 := Nk_.tr (Nk_.rf _) hN7
  refine r_iconst (v := 0) g dX6_lookThrough_29 (by decide) ?_
  refine r_istore (L' := [(6, .int (0 : Int32)), (0, .ref a0), (1, .ref a1), (2, .ref a2), (3, .ref a3), (4, .int x4), (5, .int (0 : Int32))]) g dX6_lookThrough_30 (by decide) rfl ?_
  obtain ⟨n67, hw⟩ := hw
  refine V_.sub (lo_X6_lookThrough_32 g hr rfl n67 _ (0 : Int32) (0 : Int32) _ hw hk8 hk9 hk10 hk11 (fun xv70 M68 hE hN69 => ?_)) [1, 2, 3, 4, 5, 6, 0] rfl
  have hw := hE hN69
  have hT71 := Nk_.tr hT12 hN69
  refine r_iload g dX6_lookThrough_143 0 rfl ?_
  obtain ⟨hb72, hw⟩ := hw
  exact r_zret g hr (Nat.le_of_ble_eq_true rfl) (Nat.le_of_ble_eq_true rfl) rfl hb72 dX6_lookThrough_145 hw
def rmX6_run : Room := { frames := 6, cells := 0, slots := 0, locals := 145 }
theorem hy_X6_run : yX6_run.cls ≠ "java/lang/invoke/MethodHandle" ∧ yX6_run.cls ≠ "java/lang/invoke/VarHandle" ∧ (parseMethodDescriptor yX6_run.desc).map (fun d => d.parameters.length) = some 3 := by decide +kernel
def lp_X6_run_37 (a0 : Nat) (a1 : Nat) (a2 : Nat) (x4 : Int32) (K : Mm → Prop) (E : Mm → Prop) : Nat → Int32 → Mm → Prop
  | 0, _, _ => False
  | n + 1, x5, M => (kd_ M (rf_ M a1 1) = 1 ∧ (wp_Jx4a65c_size_8abf5 (rf_ M a1 1) M (fun M16 r17 => Nk_ M M16 → ((r17 ≤ x5 → E M16) ∧ (¬ r17 ≤ x5 → (kd_ M16 (rf_ M16 a1 1) = 1 ∧ (wp_Jx4a65c_get_915e3 (rf_ M16 a1 1) x5 M16 (fun M26 r27 => Nk_ M16 M26 → (kd_ M26 r27 = 2 ∧ (wp_X6_lookThrough a0 a1 a2 r27 (1 : Int32) M26 (fun M36 r37 => Nk_ M26 M36 → bz_ r37 → ((r37 = 0 → ((x4 = 0 → (∀ M83, M83 = sI_ M36 a0 3 ((it_ M36 a0 3) + (1 : Int32)) → (kd_ M36 (rf_ M36 a1 1) = 1 ∧ (wp_Jx4a65c_get_915e3 (rf_ M36 a1 1) x5 M83 (fun M85 r86 => Nk_ M83 M85 → (kd_ M85 r86 = 2 ∧ (wp_X6_collect a0 a1 r86 x4 M85 (fun M95 => Nk_ M85 M95 → lp_X6_run_37 a0 a1 a2 x4 K E n (x5 + (1 : Int32)) M95)))))))) ∧ (¬ x4 = 0 → (kd_ M36 (rf_ M36 a1 1) = 1 ∧ (wp_Jx4a65c_get_915e3 (rf_ M36 a1 1) x5 M36 (fun M66 r67 => Nk_ M36 M66 → (kd_ M66 r67 = 2 ∧ (wp_X6_collect a0 a1 r67 x4 M66 (fun M76 => Nk_ M66 M76 → lp_X6_run_37 a0 a1 a2 x4 K E n (x5 + (1 : Int32)) M76))))))))) ∧ (¬ r37 = 0 → (kd_ M36 (rf_ M36 a1 1) = 1 ∧ (wp_Jx4a65c_get_915e3 (rf_ M36 a1 1) x5 M36 (fun M47 r48 => Nk_ M36 M47 → (kd_ M47 r48 = 2 ∧ (wp_X6_collect a0 a1 r48 x4 M47 (fun M57 => Nk_ M47 M57 → lp_X6_run_37 a0 a1 a2 x4 K E n (x5 + (1 : Int32)) M57)))))))))))))))))))
def wp_X6_run (a0 : Nat) (a1 : Nat) (a2 : Nat) (x3 : Int32) (M : Mm) (K : Mm → Prop) : Prop := kd_ M a0 = 8 ∧ kd_ M a1 = 10 ∧ kd_ M a2 = 6 ∧ (∀ M1, M1 = sI_ M a0 1 (0 : Int32) → (∀ M2, M2 = sI_ M1 a0 2 (0 : Int32) → (∀ M3, M3 = sI_ M2 a0 3 (0 : Int32) → (bz_ x3 ∧ (∀ M5, M5 = sI_ M3 a0 4 x3 → (wp_X4_conditionCount a2 M5 (fun M6 r7 => Nk_ M5 M6 → ((r7 = 0 → (∃ n127 : Nat, lp_X6_run_37 a0 a1 a2 (1 : Int32) K (fun  M128 => Nk_ M6 M128 → (kd_ M128 (rf_ M128 a1 5) = 2 ∧ (wp_X6_lookThrough a0 a1 a2 (rf_ M128 a1 5) (0 : Int32) M128 (fun M135 r136 => Nk_ M128 M135 → bz_ r136 → (kd_ M135 (rf_ M135 a1 5) = 2 ∧ (wp_X6_collect a0 a1 (rf_ M135 a1 5) (1 : Int32) M135 (fun M145 => Nk_ M135 M145 → K M145))))))) n127 (0 : Int32) M6)) ∧ (¬ r7 = 0 → (∃ n102 : Nat, lp_X6_run_37 a0 a1 a2 (0 : Int32) K (fun  M103 => Nk_ M6 M103 → (kd_ M103 (rf_ M103 a1 5) = 2 ∧ (wp_X6_lookThrough a0 a1 a2 (rf_ M103 a1 5) (0 : Int32) M103 (fun M110 r111 => Nk_ M103 M110 → bz_ r111 → (kd_ M110 (rf_ M110 a1 5) = 2 ∧ (wp_X6_collect a0 a1 (rf_ M110 a1 5) (0 : Int32) M110 (fun M120 => Nk_ M110 M120 → K M120))))))) n102 (0 : Int32) M6))))))))))
set_option maxHeartbeats 4000000 in
set_option maxRecDepth 100000 in
theorem lo_X6_run_37 {p : Program} {l : Launch} {e : Env} {s : State} {m : MethodId} {args : Array Value} {below : List Frame} {meth : Method} {c : Code} {D : Dd_} {M0 : Mm} {Q : State → Prop} {K : Mm → Prop} (g : G_ p s m args meth c cX6_run 7 RX6 D M0) (hr : meth.sig.returnType = none) (hQ : Q = MQ below (va_Qv (fun M' => K M') (cB_ D M0 s.heap.size) (Aw_ M0 s.heap.size)) args s 0 0 (Aw_ M0 s.heap.size)) {a0 : Nat} {a1 : Nat} {a2 : Nat} {x4 : Int32} : ∀ (n : Nat) (E : Mm → Prop) (x5 : Int32) (M : Mm), lp_X6_run_37 a0 a1 a2 x4 K E n x5 M → kd_ M a0 = 8 → kd_ M a1 = 10 → kd_ M a2 = 6 → (∀  (M' : Mm), E  M' → Nk_ M M' → V_ p l e rmX6_run s m args below meth c 7 D M0 Q 115 [(0, .ref a0), (1, .ref a1), (2, .ref a2), (4, .int x4)] [] M' 0 0) → V_ p l e rmX6_run s m args below meth c 7 D M0 Q 37 [(0, .ref a0), (1, .ref a1), (2, .ref a2), (4, .int x4), (5, .int x5)] [] M 0 0 := by
  intro n
  induction n with
  | zero =>
    intro E x5 M hw
    exact hw.elim
  | succ n ih =>
    intro E x5 M hw hp0 hp1 hp2 kE
    refine r_iload g dX6_run_37 4 rfl ?_
    refine r_aload_n g dX6_run_39 rfl 1 rfl ?_
    obtain ⟨hk15, hw⟩ := hw
    refine r_gtR (C := RX8) (T := TX8) (N := 11) g (ci := 9) rfl tc_X8 hp1 1 (by decide) tw_167 (fun _ h => h) rfl (k_ne hk15 (by decide)) dX6_run_40 ?_
    refine r_callVi (As := []) g (fun sz => mt_Jx4a65c_size_8abf5 hw sz) tw_539 tw_360 tw_5 tw_358 tw_359 (ci := 0) (T := TJx4a65c) (N := 3) rfl hk15 hy_Jx4a65c_size_8abf5 ⟨rfl, rfl⟩ (Nat.le_of_ble_eq_true rfl) (Nat.le_of_ble_eq_true rfl) (Nat.le_of_ble_eq_true rfl) (Nat.le_of_ble_eq_true rfl) (Nat.le_of_ble_eq_true rfl) rfl dX6_run_43 (fun M16 r17 hK18 hN19 => ?_)
    have hw := hK18 hN19
    have hk20 := Nk_.k hN19 hp0 (by decide)
    have hk21 := Nk_.k hN19 hp1 (by decide)
    have hk22 := Nk_.k hN19 hp2 (by decide)
    have hT23 := Nk_.tr (Nk_.rf _) hN19
    refine r_icmp_ge (tgt := 115) g dX6_run_46 (by decide) (fun hc24 => ?_) (fun hc24 => ?_)
    · have hw := hw.1 hc24
      exact V_.sub (kE  _ hw hT23) [0, 1, 2, 3] rfl
    · have hw := hw.2 hc24
      refine r_aload_n g dX6_run_49 rfl 0 rfl ?_
      refine r_aload_n g dX6_run_50 rfl 1 rfl ?_
      refine r_aload_n g dX6_run_51 rfl 2 rfl ?_
      refine r_aload_n g dX6_run_52 rfl 1 rfl ?_
      obtain ⟨hk25, hw⟩ := hw
      refine r_gtR (C := RX8) (T := TX8) (N := 11) g (ci := 9) rfl tc_X8 hk21 1 (by decide) tw_167 (fun _ h => h) rfl (k_ne hk25 (by decide)) dX6_run_53 ?_
      refine r_iload g dX6_run_56 4 rfl ?_
      refine r_callVr (As := [.int x5]) g (fun sz => mt_Jx4a65c_get_915e3 hw sz) tw_540 tw_543 tw_5 tw_541 tw_542 (ci := 0) (T := TJx4a65c) (N := 3) rfl hk25 hy_Jx4a65c_get_915e3 ⟨rfl, rfl⟩ (Nat.le_of_ble_eq_true rfl) (Nat.le_of_ble_eq_true rfl) (Nat.le_of_ble_eq_true rfl) (Nat.le_of_ble_eq_true rfl) (Nat.le_of_ble_eq_true rfl) rfl dX6_run_58 (fun M26 r27 hK28 h30 hN29 => ?_)
      have hw := hK28 hN29
      have hk31 := Nk_.k hN29 hk20 (by decide)
      have hk32 := Nk_.k hN29 hk21 (by decide)
      have hk33 := Nk_.k hN29 hk22 (by decide)
      have hT34 := Nk_.tr hT23 hN29
      obtain ⟨hk35, hw⟩ := hw
      refine r_cast (C := RX0) (T := TX0) (N := 4) g (ci := 1) rfl tw_554 hk35 dX6_run_61 ?_
      refine r_iconst (v := 1) g dX6_run_64 (by decide) ?_
      refine r_callVz (As := [.ref a1, .ref a2, .ref r27, .int (1 : Int32)]) g (fun sz => mt_X6_lookThrough hw sz) tw_555 tw_558 tw_12 tw_557 tp_4 (ci := 7) (T := TX6) (N := 10) rfl hk31 hy_X6_lookThrough ⟨rfl, rfl⟩ (Nat.le_of_ble_eq_true rfl) (Nat.le_of_ble_eq_true rfl) (Nat.le_of_ble_eq_true rfl) (Nat.le_of_ble_eq_true rfl) (Nat.le_of_ble_eq_true rfl) rfl dX6_run_65 (fun M36 r37 hK38 hb40 hN39 => ?_)
      have hw := hK38 hN39 hb40
      have hk41 := Nk_.k hN39 hk31 (by decide)
      have hk42 := Nk_.k hN39 hk32 (by decide)
      have hk43 := Nk_.k hN39 hk33 (by decide)
      have hT44 := Nk_.tr hT34 hN39
      refine r_istore (L' := [(6, .int r37), (0, .ref a0), (1, .ref a1), (2, .ref a2), (4, .int x4), (5, .int x5)]) g dX6_run_68 (by decide) rfl ?_
      refine r_iload g dX6_run_70 0 rfl ?_
      refine r_if_ne (tgt := 90) g dX6_run_72 (by decide) (fun hc45 => ?_) (fun hc45 => ?_)
      · have hw := hw.2 hc45
        refine r_aload_n g dX6_run_90 rfl 1 rfl ?_
        refine r_aload_n g dX6_run_91 rfl 2 rfl ?_
        refine r_aload_n g dX6_run_92 rfl 2 rfl ?_
        obtain ⟨hk46, hw⟩ := hw
        refine r_gtR (C := RX8) (T := TX8) (N := 11) g (ci := 9) rfl tc_X8 hk42 1 (by decide) tw_167 (fun _ h => h) rfl (k_ne hk46 (by decide)) dX6_run_93 ?_
        refine r_iload g dX6_run_96 5 rfl ?_
        refine r_callVr (As := [.int x5]) g (fun sz => mt_Jx4a65c_get_915e3 hw sz) tw_540 tw_543 tw_5 tw_541 tw_542 (ci := 0) (T := TJx4a65c) (N := 3) rfl hk46 hy_Jx4a65c_get_915e3 ⟨rfl, rfl⟩ (Nat.le_of_ble_eq_true rfl) (Nat.le_of_ble_eq_true rfl) (Nat.le_of_ble_eq_true rfl) (Nat.le_of_ble_eq_true rfl) (Nat.le_of_ble_eq_true rfl) rfl dX6_run_98 (fun M47 r48 hK49 h51 hN50 => ?_)
        have hw := hK49 hN50
        have hk52 := Nk_.k hN50 hk41 (by decide)
        have hk53 := Nk_.k hN50 hk42 (by decide)
        have hk54 := Nk_.k hN50 hk43 (by decide)
        have hT55 := Nk_.tr hT44 hN50
        obtain ⟨hk56, hw⟩ := hw
        refine r_cast (C := RX0) (T := TX0) (N := 4) g (ci := 1) rfl tw_554 hk56 dX6_run_101 ?_
        refine r_iload g dX6_run_104 4 rfl ?_
        refine r_callVv (As := [.ref a1, .ref r48, .int x4]) g (fun sz => mt_X6_collect hw sz) tw_611 tw_614 tw_12 tw_613 tp_11 (ci := 7) (T := TX6) (N := 10) rfl hk52 hy_X6_collect ⟨rfl, rfl⟩ (Nat.le_of_ble_eq_true rfl) (Nat.le_of_ble_eq_true rfl) (Nat.le_of_ble_eq_true rfl) (Nat.le_of_ble_eq_true rfl) (Nat.le_of_ble_eq_true rfl) rfl dX6_run_106 (fun M57 hK58 hN59 => ?_)
        have hw := hK58 hN59
        have hk60 := Nk_.k hN59 hk52 (by decide)
        have hk61 := Nk_.k hN59 hk53 (by decide)
        have hk62 := Nk_.k hN59 hk54 (by decide)
        have hT63 := Nk_.tr hT55 hN59
        refine r_iinc (v := x5 + (1 : Int32)) (L' := [(5, .int (x5 + (1 : Int32))), (6, .int r37), (0, .ref a0), (1, .ref a1), (2, .ref a2), (4, .int x4)]) g dX6_run_109 5 rfl rfl (by decide) rfl ?_
        refine r_goto (tgt := 37) g dX6_run_112 (by decide) ?_
        exact V_.sub (ih E (x5 + (1 : Int32)) _ hw hk60 hk61 hk62 (fun  M9 hE9 hN9 => kE  M9 hE9 (Nk_.tr hT63 hN9))) [2, 3, 4, 5, 0] rfl
      · have hw := hw.1 hc45
        refine r_iload g dX6_run_75 4 rfl ?_
        refine r_if_ne (tgt := 90) g dX6_run_77 (by decide) (fun hc64 => ?_) (fun hc64 => ?_)
        · have hw := hw.2 hc64
          refine r_aload_n g dX6_run_90 rfl 1 rfl ?_
          refine r_aload_n g dX6_run_91 rfl 2 rfl ?_
          refine r_aload_n g dX6_run_92 rfl 2 rfl ?_
          obtain ⟨hk65, hw⟩ := hw
          refine r_gtR (C := RX8) (T := TX8) (N := 11) g (ci := 9) rfl tc_X8 hk42 1 (by decide) tw_167 (fun _ h => h) rfl (k_ne hk65 (by decide)) dX6_run_93 ?_
          refine r_iload g dX6_run_96 5 rfl ?_
          refine r_callVr (As := [.int x5]) g (fun sz => mt_Jx4a65c_get_915e3 hw sz) tw_540 tw_543 tw_5 tw_541 tw_542 (ci := 0) (T := TJx4a65c) (N := 3) rfl hk65 hy_Jx4a65c_get_915e3 ⟨rfl, rfl⟩ (Nat.le_of_ble_eq_true rfl) (Nat.le_of_ble_eq_true rfl) (Nat.le_of_ble_eq_true rfl) (Nat.le_of_ble_eq_true rfl) (Nat.le_of_ble_eq_true rfl) rfl dX6_run_98 (fun M66 r67 hK68 h70 hN69 => ?_)
          have hw := hK68 hN69
          have hk71 := Nk_.k hN69 hk41 (by decide)
          have hk72 := Nk_.k hN69 hk42 (by decide)
          have hk73 := Nk_.k hN69 hk43 (by decide)
          have hT74 := Nk_.tr hT44 hN69
          obtain ⟨hk75, hw⟩ := hw
          refine r_cast (C := RX0) (T := TX0) (N := 4) g (ci := 1) rfl tw_554 hk75 dX6_run_101 ?_
          refine r_iload g dX6_run_104 4 rfl ?_
          refine r_callVv (As := [.ref a1, .ref r67, .int x4]) g (fun sz => mt_X6_collect hw sz) tw_611 tw_614 tw_12 tw_613 tp_11 (ci := 7) (T := TX6) (N := 10) rfl hk71 hy_X6_collect ⟨rfl, rfl⟩ (Nat.le_of_ble_eq_true rfl) (Nat.le_of_ble_eq_true rfl) (Nat.le_of_ble_eq_true rfl) (Nat.le_of_ble_eq_true rfl) (Nat.le_of_ble_eq_true rfl) rfl dX6_run_106 (fun M76 hK77 hN78 => ?_)
          have hw := hK77 hN78
          have hk79 := Nk_.k hN78 hk71 (by decide)
          have hk80 := Nk_.k hN78 hk72 (by decide)
          have hk81 := Nk_.k hN78 hk73 (by decide)
          have hT82 := Nk_.tr hT74 hN78
          refine r_iinc (v := x5 + (1 : Int32)) (L' := [(5, .int (x5 + (1 : Int32))), (6, .int r37), (0, .ref a0), (1, .ref a1), (2, .ref a2), (4, .int x4)]) g dX6_run_109 5 rfl rfl (by decide) rfl ?_
          refine r_goto (tgt := 37) g dX6_run_112 (by decide) ?_
          exact V_.sub (ih E (x5 + (1 : Int32)) _ hw hk79 hk80 hk81 (fun  M9 hE9 hN9 => kE  M9 hE9 (Nk_.tr hT82 hN9))) [2, 3, 4, 5, 0] rfl
        · have hw := hw.1 hc64
          refine r_aload_n g dX6_run_80 rfl 1 rfl ?_
          refine r_dup g dX6_run_81 rfl ?_
          refine r_gt (C := RX6) (T := TX6) (N := 10) g (ci := 7) rfl tc_X6 hk41 3 (by decide) tw_274 (fun _ h => h) rfl dX6_run_82 ?_
          refine r_iconst (v := 1) g dX6_run_85 (by decide) ?_
          refine r_iadd g dX6_run_86 ?_
          refine r_ptI (C := RX6) (T := TX6) (N := 10) g (ci := 7) rfl tc_X6 tyX6 tyX6_ok nmX6 hk41 3 (by decide) tw_274 (fun _ h => h) rfl rfl rfl rfl dX6_run_87 ?_
          have hw := hw _ rfl
          refine r_aload_n g dX6_run_90 rfl 1 rfl ?_
          refine r_aload_n g dX6_run_91 rfl 2 rfl ?_
          refine r_aload_n g dX6_run_92 rfl 2 rfl ?_
          obtain ⟨hk84, hw⟩ := hw
          refine r_gtR (C := RX8) (T := TX8) (N := 11) g (ci := 9) rfl tc_X8 hk42 1 (by decide) tw_167 (fun _ h => h) rfl (k_ne hk84 (by decide)) dX6_run_93 ?_
          refine r_iload g dX6_run_96 5 rfl ?_
          refine r_callVr (As := [.int x5]) g (fun sz => mt_Jx4a65c_get_915e3 hw sz) tw_540 tw_543 tw_5 tw_541 tw_542 (ci := 0) (T := TJx4a65c) (N := 3) rfl hk84 hy_Jx4a65c_get_915e3 ⟨rfl, rfl⟩ (Nat.le_of_ble_eq_true rfl) (Nat.le_of_ble_eq_true rfl) (Nat.le_of_ble_eq_true rfl) (Nat.le_of_ble_eq_true rfl) (Nat.le_of_ble_eq_true rfl) rfl dX6_run_98 (fun M85 r86 hK87 h89 hN88 => ?_)
          have hw := hK87 hN88
          have hk90 := Nk_.k hN88 hk41 (by decide)
          have hk91 := Nk_.k hN88 hk42 (by decide)
          have hk92 := Nk_.k hN88 hk43 (by decide)
          have hT93 := Nk_.tr hT44 hN88
          obtain ⟨hk94, hw⟩ := hw
          refine r_cast (C := RX0) (T := TX0) (N := 4) g (ci := 1) rfl tw_554 hk94 dX6_run_101 ?_
          refine r_iload g dX6_run_104 4 rfl ?_
          refine r_callVv (As := [.ref a1, .ref r86, .int x4]) g (fun sz => mt_X6_collect hw sz) tw_611 tw_614 tw_12 tw_613 tp_11 (ci := 7) (T := TX6) (N := 10) rfl hk90 hy_X6_collect ⟨rfl, rfl⟩ (Nat.le_of_ble_eq_true rfl) (Nat.le_of_ble_eq_true rfl) (Nat.le_of_ble_eq_true rfl) (Nat.le_of_ble_eq_true rfl) (Nat.le_of_ble_eq_true rfl) rfl dX6_run_106 (fun M95 hK96 hN97 => ?_)
          have hw := hK96 hN97
          have hk98 := Nk_.k hN97 hk90 (by decide)
          have hk99 := Nk_.k hN97 hk91 (by decide)
          have hk100 := Nk_.k hN97 hk92 (by decide)
          have hT101 := Nk_.tr hT93 hN97
          refine r_iinc (v := x5 + (1 : Int32)) (L' := [(5, .int (x5 + (1 : Int32))), (6, .int r37), (0, .ref a0), (1, .ref a1), (2, .ref a2), (4, .int x4)]) g dX6_run_109 5 rfl rfl (by decide) rfl ?_
          refine r_goto (tgt := 37) g dX6_run_112 (by decide) ?_
          exact V_.sub (ih E (x5 + (1 : Int32)) _ hw hk98 hk99 hk100 (fun  M9 hE9 hN9 => kE  M9 hE9 (Nk_.tr hT101 hN9))) [2, 3, 4, 5, 0] rfl
set_option maxHeartbeats 4000000 in
set_option maxRecDepth 100000 in
theorem mt_X6_run {l : Launch} {D : Dd_} {M : Mm} {a0 : Nat} {a1 : Nat} {a2 : Nat} {x3 : Int32} {K : Mm → Prop} (hw : wp_X6_run a0 a1 a2 x3 M K) (sz : Nat) : Met l yX6_run (Cond.code yX6_run cX6_run 7 none :: tbG_) rmX6_run (cPc_ D M sz [.ref a0, .ref a1, .ref a2, .int x3]) (va_Qv (fun M' => K M') (cB_ D M sz) (Aw_ M sz)) 0 0 (Aw_ M sz) := by
  refine ofV (by decide) (Nat.le_of_ble_eq_true rfl) ?_
  intro p e s m below meth c g hr hin hsz
  subst hsz
  obtain ⟨hp0, hp1, hp2, hw⟩ := hw
  refine r_aload_n g dX6_run_0 rfl 0 rfl ?_
  refine r_iconst (v := 0) g dX6_run_1 (by decide) ?_
  refine r_ptI (C := RX6) (T := TX6) (N := 10) g (ci := 7) rfl tc_X6 tyX6 tyX6_ok nmX6 hp0 1 (by decide) tw_270 (fun _ h => h) rfl rfl rfl rfl dX6_run_2 ?_
  have hw := hw _ rfl
  refine r_aload_n g dX6_run_5 rfl 0 rfl ?_
  refine r_iconst (v := 0) g dX6_run_6 (by decide) ?_
  refine r_ptI (C := RX6) (T := TX6) (N := 10) g (ci := 7) rfl tc_X6 tyX6 tyX6_ok nmX6 hp0 2 (by decide) tw_272 (fun _ h => h) rfl rfl rfl rfl dX6_run_7 ?_
  have hw := hw _ rfl
  refine r_aload_n g dX6_run_10 rfl 0 rfl ?_
  refine r_iconst (v := 0) g dX6_run_11 (by decide) ?_
  refine r_ptI (C := RX6) (T := TX6) (N := 10) g (ci := 7) rfl tc_X6 tyX6 tyX6_ok nmX6 hp0 3 (by decide) tw_274 (fun _ h => h) rfl rfl rfl rfl dX6_run_12 ?_
  have hw := hw _ rfl
  refine r_aload_n g dX6_run_15 rfl 0 rfl ?_
  refine r_iload_n g dX6_run_16 rfl 3 rfl ?_
  obtain ⟨hb4, hw⟩ := hw
  refine r_ptZ (C := RX6) (T := TX6) (N := 10) g (ci := 7) rfl tc_X6 tyX6 tyX6_ok nmX6 hp0 4 (by decide) tw_276 (fun _ h => h) rfl rfl hb4 (bz_n hb4) (bz_f hb4) dX6_run_17 ?_
  have hw := hw _ rfl
  refine r_aload_n g dX6_run_20 rfl 2 rfl ?_
  refine r_callVi (As := []) g (fun sz => mt_X4_conditionCount hw sz) tw_535 tw_538 tw_9 tw_536 tw_537 (ci := 5) (T := TX4) (N := 2) rfl hp2 hy_X4_conditionCount ⟨rfl, rfl⟩ (Nat.le_of_ble_eq_true rfl) (Nat.le_of_ble_eq_true rfl) (Nat.le_of_ble_eq_true rfl) (Nat.le_of_ble_eq_true rfl) (Nat.le_of_ble_eq_true rfl) rfl dX6_run_21 (fun M6 r7 hK8 hN9 => ?_)
  have hw := hK8 hN9
  have hk10 := Nk_.k hN9 hp0 (by decide)
  have hk11 := Nk_.k hN9 hp1 (by decide)
  have hk12 := Nk_.k hN9 hp2 (by decide)
  have hT13 := Nk_.tr (Nk_.rf _) hN9
  refine r_if_ne (tgt := 31) g dX6_run_24 (by decide) (fun hc14 => ?_) (fun hc14 => ?_)
  · have hw := hw.2 hc14
    refine r_iconst (v := 0) g dX6_run_31 (by decide) ?_
    refine r_istore (L' := [(4, .int (0 : Int32)), (0, .ref a0), (1, .ref a1), (2, .ref a2), (3, .int x3)]) g dX6_run_32 (by decide) rfl ?_
    refine r_iconst (v := 0) g dX6_run_34 (by decide) ?_
    refine r_istore (L' := [(5, .int (0 : Int32)), (4, .int (0 : Int32)), (0, .ref a0), (1, .ref a1), (2, .ref a2), (3, .int x3)]) g dX6_run_35 (by decide) rfl ?_
    obtain ⟨n102, hw⟩ := hw
    refine V_.sub (lo_X6_run_37 g hr rfl n102 _ (0 : Int32) _ hw hk10 hk11 hk12 (fun  M103 hE hN104 => ?_)) [2, 3, 4, 1, 0] rfl
    have hw := hE hN104
    have hk105 := Nk_.k hN104 hk10 (by decide)
    have hk106 := Nk_.k hN104 hk11 (by decide)
    have hk107 := Nk_.k hN104 hk12 (by decide)
    have hT108 := Nk_.tr hT13 hN104
    refine r_aload_n g dX6_run_115 rfl 0 rfl ?_
    refine r_aload_n g dX6_run_116 rfl 1 rfl ?_
    refine r_aload_n g dX6_run_117 rfl 2 rfl ?_
    refine r_aload_n g dX6_run_118 rfl 1 rfl ?_
    obtain ⟨hk109, hw⟩ := hw
    refine r_gtR (C := RX8) (T := TX8) (N := 11) g (ci := 9) rfl tc_X8 hk106 5 (by decide) tw_177 (fun _ h => h) rfl (k_ne hk109 (by decide)) dX6_run_119 ?_
    refine r_iconst (v := 0) g dX6_run_122 (by decide) ?_
    refine r_callVz (As := [.ref a1, .ref a2, .ref (rf_ M103 a1 5), .int (0 : Int32)]) g (fun sz => mt_X6_lookThrough hw sz) tw_555 tw_558 tw_12 tw_557 tp_4 (ci := 7) (T := TX6) (N := 10) rfl hk105 hy_X6_lookThrough ⟨rfl, rfl⟩ (Nat.le_of_ble_eq_true rfl) (Nat.le_of_ble_eq_true rfl) (Nat.le_of_ble_eq_true rfl) (Nat.le_of_ble_eq_true rfl) (Nat.le_of_ble_eq_true rfl) rfl dX6_run_123 (fun M110 r111 hK112 hb114 hN113 => ?_)
    have hw := hK112 hN113 hb114
    have hk115 := Nk_.k hN113 hk105 (by decide)
    have hk116 := Nk_.k hN113 hk106 (by decide)
    have hk117 := Nk_.k hN113 hk107 (by decide)
    have hT118 := Nk_.tr hT108 hN113
    refine r_pop g dX6_run_126 rfl ?_
    refine r_aload_n g dX6_run_127 rfl 0 rfl ?_
    refine r_aload_n g dX6_run_128 rfl 1 rfl ?_
    refine r_aload_n g dX6_run_129 rfl 1 rfl ?_
    obtain ⟨hk119, hw⟩ := hw
    refine r_gtR (C := RX8) (T := TX8) (N := 11) g (ci := 9) rfl tc_X8 hk116 5 (by decide) tw_177 (fun _ h => h) rfl (k_ne hk119 (by decide)) dX6_run_130 ?_
    refine r_iload g dX6_run_133 3 rfl ?_
    refine r_callVv (As := [.ref a1, .ref (rf_ M110 a1 5), .int (0 : Int32)]) g (fun sz => mt_X6_collect hw sz) tw_611 tw_614 tw_12 tw_613 tp_11 (ci := 7) (T := TX6) (N := 10) rfl hk115 hy_X6_collect ⟨rfl, rfl⟩ (Nat.le_of_ble_eq_true rfl) (Nat.le_of_ble_eq_true rfl) (Nat.le_of_ble_eq_true rfl) (Nat.le_of_ble_eq_true rfl) (Nat.le_of_ble_eq_true rfl) rfl dX6_run_135 (fun M120 hK121 hN122 => ?_)
    have hw := hK121 hN122
    have hk123 := Nk_.k hN122 hk115 (by decide)
    have hk124 := Nk_.k hN122 hk116 (by decide)
    have hk125 := Nk_.k hN122 hk117 (by decide)
    have hT126 := Nk_.tr hT118 hN122
    exact r_vret g hr (Nat.le_of_ble_eq_true rfl) (Nat.le_of_ble_eq_true rfl) rfl dX6_run_138 hw
  · have hw := hw.1 hc14
    refine r_iconst (v := 1) g dX6_run_27 (by decide) ?_
    refine r_goto (tgt := 32) g dX6_run_28 (by decide) ?_
    refine r_istore (L' := [(4, .int (1 : Int32)), (0, .ref a0), (1, .ref a1), (2, .ref a2), (3, .int x3)]) g dX6_run_32 (by decide) rfl ?_
    refine r_iconst (v := 0) g dX6_run_34 (by decide) ?_
    refine r_istore (L' := [(5, .int (0 : Int32)), (4, .int (1 : Int32)), (0, .ref a0), (1, .ref a1), (2, .ref a2), (3, .int x3)]) g dX6_run_35 (by decide) rfl ?_
    obtain ⟨n127, hw⟩ := hw
    refine V_.sub (lo_X6_run_37 g hr rfl n127 _ (0 : Int32) _ hw hk10 hk11 hk12 (fun  M128 hE hN129 => ?_)) [2, 3, 4, 1, 0] rfl
    have hw := hE hN129
    have hk130 := Nk_.k hN129 hk10 (by decide)
    have hk131 := Nk_.k hN129 hk11 (by decide)
    have hk132 := Nk_.k hN129 hk12 (by decide)
    have hT133 := Nk_.tr hT13 hN129
    refine r_aload_n g dX6_run_115 rfl 0 rfl ?_
    refine r_aload_n g dX6_run_116 rfl 1 rfl ?_
    refine r_aload_n g dX6_run_117 rfl 2 rfl ?_
    refine r_aload_n g dX6_run_118 rfl 1 rfl ?_
    obtain ⟨hk134, hw⟩ := hw
    refine r_gtR (C := RX8) (T := TX8) (N := 11) g (ci := 9) rfl tc_X8 hk131 5 (by decide) tw_177 (fun _ h => h) rfl (k_ne hk134 (by decide)) dX6_run_119 ?_
    refine r_iconst (v := 0) g dX6_run_122 (by decide) ?_
    refine r_callVz (As := [.ref a1, .ref a2, .ref (rf_ M128 a1 5), .int (0 : Int32)]) g (fun sz => mt_X6_lookThrough hw sz) tw_555 tw_558 tw_12 tw_557 tp_4 (ci := 7) (T := TX6) (N := 10) rfl hk130 hy_X6_lookThrough ⟨rfl, rfl⟩ (Nat.le_of_ble_eq_true rfl) (Nat.le_of_ble_eq_true rfl) (Nat.le_of_ble_eq_true rfl) (Nat.le_of_ble_eq_true rfl) (Nat.le_of_ble_eq_true rfl) rfl dX6_run_123 (fun M135 r136 hK137 hb139 hN138 => ?_)
    have hw := hK137 hN138 hb139
    have hk140 := Nk_.k hN138 hk130 (by decide)
    have hk141 := Nk_.k hN138 hk131 (by decide)
    have hk142 := Nk_.k hN138 hk132 (by decide)
    have hT143 := Nk_.tr hT133 hN138
    refine r_pop g dX6_run_126 rfl ?_
    refine r_aload_n g dX6_run_127 rfl 0 rfl ?_
    refine r_aload_n g dX6_run_128 rfl 1 rfl ?_
    refine r_aload_n g dX6_run_129 rfl 1 rfl ?_
    obtain ⟨hk144, hw⟩ := hw
    refine r_gtR (C := RX8) (T := TX8) (N := 11) g (ci := 9) rfl tc_X8 hk141 5 (by decide) tw_177 (fun _ h => h) rfl (k_ne hk144 (by decide)) dX6_run_130 ?_
    refine r_iload g dX6_run_133 3 rfl ?_
    refine r_callVv (As := [.ref a1, .ref (rf_ M135 a1 5), .int (1 : Int32)]) g (fun sz => mt_X6_collect hw sz) tw_611 tw_614 tw_12 tw_613 tp_11 (ci := 7) (T := TX6) (N := 10) rfl hk140 hy_X6_collect ⟨rfl, rfl⟩ (Nat.le_of_ble_eq_true rfl) (Nat.le_of_ble_eq_true rfl) (Nat.le_of_ble_eq_true rfl) (Nat.le_of_ble_eq_true rfl) (Nat.le_of_ble_eq_true rfl) rfl dX6_run_135 (fun M145 hK146 hN147 => ?_)
    have hw := hK146 hN147
    have hk148 := Nk_.k hN147 hk140 (by decide)
    have hk149 := Nk_.k hN147 hk141 (by decide)
    have hk150 := Nk_.k hN147 hk142 (by decide)
    have hT151 := Nk_.tr hT143 hN147
    exact r_vret g hr (Nat.le_of_ble_eq_true rfl) (Nat.le_of_ble_eq_true rfl) rfl dX6_run_138 hw
