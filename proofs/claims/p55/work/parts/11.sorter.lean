/-! walks by program: 11.sorter -/
def rmX7_init : Room := { frames := 1, cells := 2, slots := 1200, locals := 12 }
theorem hy_X7_init : yX7_init.cls ≠ "java/lang/invoke/MethodHandle" ∧ yX7_init.cls ≠ "java/lang/invoke/VarHandle" ∧ (parseMethodDescriptor yX7_init.desc).map (fun d => d.parameters.length) = some 0 := by decide +kernel
def wp_X7_init (a0 : Nat) (M : Mm) (K : Mm → Prop) : Prop := kd_ M a0 = 9 ∧ ((∀ q1, q1 ≠ 0 → kd_ M q1 = 0 → ∀ M4, M4 = nw_ M q1 22 (ix_ (600 : Int32)) → (∀ M8, M8 = sR_ M4 a0 0 q1 → ((∀ q9, q9 ≠ 0 → kd_ M8 q9 = 0 → ∀ M12, M12 = nw_ M8 q9 20 (ix_ (600 : Int32)) → (∀ M16, M16 = sR_ M12 a0 1 q9 → K M16))))))
set_option maxHeartbeats 4000000 in
set_option maxRecDepth 100000 in
theorem mt_X7_init {l : Launch} {D : Dd_} {M : Mm} {a0 : Nat} {K : Mm → Prop} (hw : wp_X7_init a0 M K) (sz : Nat) : Met l yX7_init (Cond.code yX7_init cX7_init 1 none :: tbG_) rmX7_init (cPc_ D M sz [.ref a0]) (va_Qv (fun M' => K M') (cB_ D M sz) (Aw_ M sz)) 2 1200 (Aw_ M sz) := by
  refine ofV (by decide) (Nat.le_of_ble_eq_true rfl) ?_
  intro p e s m below meth c g hr hin hsz
  subst hsz
  have hin := hin rfl
  obtain ⟨hp0, hw⟩ := hw
  refine r_aload_n g dX7_init_0 rfl 0 rfl ?_
  refine r_oinit g tw_72 tw_33 tw_34 dX7_init_1 (Nat.le_of_ble_eq_true rfl) (Nat.le_of_ble_eq_true rfl) ?_
  refine r_aload_n g dX7_init_4 rfl 0 rfl ?_
  refine r_sipush (v := 600) g dX7_init_5 (by decide) ?_
  refine r_newJ g tw_82 (by decide) (Nat.le_of_ble_eq_true rfl) (Nat.le_of_ble_eq_true rfl) (Nat.le_of_ble_eq_true rfl) dX7_init_8 (fun q1 h2 hq3 => ?_)
  have hw := hw q1 h2 hq3 _ rfl
  have hk5 := kd_nw_ (c := 22) (n := ix_ (600 : Int32)) hq3 hp0 (by decide)
  have hT6 := Nk_.tr (Nk_.rf _) (Nk_nw_ (c := 22) (n := ix_ (600 : Int32)) hq3)
  have hk7 := kd_nq_ M q1 22 (ix_ (600 : Int32))
  refine r_ptFx (C := RX7) (T := TX7) (N := 2) g (ci := 8) rfl tc_X7 tyX7 tyX7_ok nmX7 hk5 0 (by decide) tw_73 (fun _ h => h) rfl hin rfl rfl (k_ne hk7 (by decide)) rfl rfl dX7_init_10 ?_
  have hw := hw _ rfl
  refine r_aload_n g dX7_init_13 rfl 0 rfl ?_
  refine r_sipush (v := 600) g dX7_init_14 (by decide) ?_
  refine r_newI g tw_81 (by decide) (Nat.le_of_ble_eq_true rfl) (Nat.le_of_ble_eq_true rfl) (Nat.le_of_ble_eq_true rfl) dX7_init_17 (fun q9 h10 hq11 => ?_)
  have hw := hw q9 h10 hq11 _ rfl
  have hk13 := kd_nw_ (c := 20) (n := ix_ (600 : Int32)) hq11 hk5 (by decide)
  have hT14 := Nk_.tr hT6 (Nk_nw_ (c := 20) (n := ix_ (600 : Int32)) hq11)
  have hk15 := kd_nq_ (sR_ (nw_ M q1 22 (ix_ (600 : Int32))) a0 0 q1) q9 20 (ix_ (600 : Int32))
  refine r_ptFx (C := RX7) (T := TX7) (N := 2) g (ci := 8) rfl tc_X7 tyX7 tyX7_ok nmX7 hk13 1 (by decide) tw_74 (fun _ h => h) rfl hin rfl rfl (k_ne hk15 (by decide)) rfl rfl dX7_init_19 ?_
  have hw := hw _ rfl
  exact r_vret g hr (Nat.le_of_ble_eq_true rfl) (Nat.le_of_ble_eq_true rfl) rfl dX7_init_22 hw
def rmX7_join : Room := { frames := 0, cells := 0, slots := 0, locals := 0 }
theorem hy_X7_join : yX7_join.cls ≠ "java/lang/invoke/MethodHandle" ∧ yX7_join.cls ≠ "java/lang/invoke/VarHandle" ∧ (parseMethodDescriptor yX7_join.desc).map (fun d => d.parameters.length) = some 4 := by decide +kernel
def lp_X7_join_9 (a0 : Nat) (a1 : Nat) (x3 : Int32) (x4 : Int32) (K : Mm → Prop) (E : Mm → Prop) : Nat → Int32 → Int32 → Int32 → Mm → Prop
  | 0, _, _, _, _ => False
  | n + 1, x5, x6, x7, M => ((x4 ≤ x7 → E  M) ∧ (¬ x4 ≤ x7 → ((x4 ≤ x6 → (kd_ M (rf_ M a0 1) = 20 ∧ (vp_in x5 (ln_ M a1) ∧ (vp_in x7 (ln_ M (rf_ M a0 1)) ∧ (∀ M6, M6 = sI_ M (rf_ M a0 1) (ix_ x7) (it_ M a1 (ix_ x5)) → lp_X7_join_9 a0 a1 x3 x4 K E n (x5 + (1 : Int32)) x6 (x7 + (1 : Int32)) M6))))) ∧ (¬ x4 ≤ x6 → ((x3 ≤ x5 → (kd_ M (rf_ M a0 1) = 20 ∧ (vp_in x6 (ln_ M a1) ∧ (vp_in x7 (ln_ M (rf_ M a0 1)) ∧ (∀ M11, M11 = sI_ M (rf_ M a0 1) (ix_ x7) (it_ M a1 (ix_ x6)) → lp_X7_join_9 a0 a1 x3 x4 K E n x5 (x6 + (1 : Int32)) (x7 + (1 : Int32)) M11))))) ∧ (¬ x3 ≤ x5 → (kd_ M (rf_ M a0 0) = 22 ∧ (vp_in x5 (ln_ M a1) ∧ (vp_in (it_ M a1 (ix_ x5)) (ln_ M (rf_ M a0 0)) ∧ (vp_in x6 (ln_ M a1) ∧ (vp_in (it_ M a1 (ix_ x6)) (ln_ M (rf_ M a0 0)) ∧ (((lg_ M (rf_ M a0 0) (ix_ (it_ M a1 (ix_ x6)))) < (lg_ M (rf_ M a0 0) (ix_ (it_ M a1 (ix_ x5)))) → (kd_ M (rf_ M a0 1) = 20 ∧ (vp_in x6 (ln_ M a1) ∧ (vp_in x7 (ln_ M (rf_ M a0 1)) ∧ (∀ M21, M21 = sI_ M (rf_ M a0 1) (ix_ x7) (it_ M a1 (ix_ x6)) → lp_X7_join_9 a0 a1 x3 x4 K E n x5 (x6 + (1 : Int32)) (x7 + (1 : Int32)) M21))))) ∧ (¬ (lg_ M (rf_ M a0 0) (ix_ (it_ M a1 (ix_ x6)))) < (lg_ M (rf_ M a0 0) (ix_ (it_ M a1 (ix_ x5)))) → (kd_ M (rf_ M a0 1) = 20 ∧ (vp_in x5 (ln_ M a1) ∧ (vp_in x7 (ln_ M (rf_ M a0 1)) ∧ (∀ M25, M25 = sI_ M (rf_ M a0 1) (ix_ x7) (it_ M a1 (ix_ x5)) → lp_X7_join_9 a0 a1 x3 x4 K E n (x5 + (1 : Int32)) x6 (x7 + (1 : Int32)) M25)))))))))))))))))
def wp_X7_join (a0 : Nat) (a1 : Nat) (x2 : Int32) (x3 : Int32) (x4 : Int32) (M : Mm) (K : Mm → Prop) : Prop := kd_ M a0 = 9 ∧ kd_ M a1 = 20 ∧ (∃ n27 : Nat, lp_X7_join_9 a0 a1 x3 x4 K (fun  M26 => Nk_ M M26 → K M26) n27 x2 x3 x2 M)
set_option maxHeartbeats 4000000 in
set_option maxRecDepth 100000 in
theorem lo_X7_join_9 {p : Program} {l : Launch} {e : Env} {s : State} {m : MethodId} {args : Array Value} {below : List Frame} {meth : Method} {c : Code} {D : Dd_} {M0 : Mm} {Q : State → Prop} {K : Mm → Prop} (g : G_ p s m args meth c cX7_join 9 RX7 D M0) (hr : meth.sig.returnType = none) (hQ : Q = MQ below (va_Qv (fun M' => K M') (cB_ D M0 s.heap.size) (Aw_ M0 s.heap.size)) args s 0 0 (Aw_ M0 s.heap.size)) {a0 : Nat} {a1 : Nat} {x3 : Int32} {x4 : Int32} : ∀ (n : Nat) (E : Mm → Prop) (x5 : Int32) (x6 : Int32) (x7 : Int32) (M : Mm), lp_X7_join_9 a0 a1 x3 x4 K E n x5 x6 x7 M → kd_ M a0 = 9 → kd_ M a1 = 20 → (∀  (M' : Mm), E  M' → Nk_ M M' → V_ p l e rmX7_join s m args below meth c 9 D M0 Q 93 [] [] M' 0 0) → V_ p l e rmX7_join s m args below meth c 9 D M0 Q 9 [(0, .ref a0), (1, .ref a1), (3, .int x3), (4, .int x4), (5, .int x5), (6, .int x6), (7, .int x7)] [] M 0 0 := by
  intro n
  induction n with
  | zero =>
    intro E x5 x6 x7 M hw
    exact hw.elim
  | succ n ih =>
    intro E x5 x6 x7 M hw hp0 hp1 kE
    refine r_iload g dX7_join_9 6 rfl ?_
    refine r_iload g dX7_join_11 3 rfl ?_
    refine r_icmp_ge (tgt := 93) g dX7_join_13 (by decide) (fun hc1 => ?_) (fun hc1 => ?_)
    · have hw := hw.1 hc1
      exact V_.sub (kE  _ hw (Nk_.rf _)) [] rfl
    · have hw := hw.2 hc1
      refine r_iload g dX7_join_16 5 rfl ?_
      refine r_iload g dX7_join_18 3 rfl ?_
      refine r_icmp_ge (tgt := 51) g dX7_join_20 (by decide) (fun hc2 => ?_) (fun hc2 => ?_)
      · have hw := hw.1 hc2
        refine r_iconst (v := 1) g dX7_join_51 (by decide) ?_
        refine r_goto (tgt := 56) g dX7_join_52 (by decide) ?_
        refine r_istore (L' := [(8, .int (1 : Int32)), (0, .ref a0), (1, .ref a1), (3, .int x3), (4, .int x4), (5, .int x5), (6, .int x6), (7, .int x7)]) g dX7_join_56 (by decide) rfl ?_
        refine r_aload_n g dX7_join_58 rfl 1 rfl ?_
        obtain ⟨hk3, hw⟩ := hw
        refine r_gtR (C := RX7) (T := TX7) (N := 2) g (ci := 8) rfl tc_X7 hp0 1 (by decide) tw_74 (fun _ h => h) rfl (k_ne hk3 (by decide)) dX7_join_59 ?_
        refine r_iload g dX7_join_62 7 rfl ?_
        refine r_iload g dX7_join_64 0 rfl ?_
        refine r_if_eq (tgt := 79) g dX7_join_66 (by decide) (fun h9 => absurd h9 (by decide)) (fun _ => ?_)
        refine r_aload_n g dX7_join_69 rfl 2 rfl ?_
        refine r_iload g dX7_join_70 5 rfl ?_
        refine r_iinc (v := x5 + (1 : Int32)) (L' := [(5, .int (x5 + (1 : Int32))), (8, .int (1 : Int32)), (0, .ref a0), (1, .ref a1), (3, .int x3), (4, .int x4), (6, .int x6), (7, .int x7)]) g dX7_join_72 5 rfl rfl (by decide) rfl ?_
        obtain ⟨hi4, hw⟩ := hw
        refine r_iald g (Or.inl hp1) hi4 dX7_join_75 ?_
        refine r_goto (tgt := 86) g dX7_join_76 (by decide) ?_
        obtain ⟨hi5, hw⟩ := hw
        refine r_iast g hk3 hi5 dX7_join_86 ?_
        have hw := hw _ rfl
        refine r_iinc (v := x7 + (1 : Int32)) (L' := [(7, .int (x7 + (1 : Int32))), (5, .int (x5 + (1 : Int32))), (8, .int (1 : Int32)), (0, .ref a0), (1, .ref a1), (3, .int x3), (4, .int x4), (6, .int x6)]) g dX7_join_87 7 rfl rfl (by decide) rfl ?_
        refine r_goto (tgt := 9) g dX7_join_90 (by decide) ?_
        exact V_.sub (ih E (x5 + (1 : Int32)) x6 (x7 + (1 : Int32)) _ hw hp0 hp1 (fun  M9 hE9 hN9 => kE  M9 hE9 (Nk_.tr (Nk_.rf _) hN9))) [3, 4, 5, 6, 1, 7, 0] rfl
      · have hw := hw.2 hc2
        refine r_iload g dX7_join_23 4 rfl ?_
        refine r_iload_n g dX7_join_25 rfl 2 rfl ?_
        refine r_icmp_ge (tgt := 55) g dX7_join_26 (by decide) (fun hc7 => ?_) (fun hc7 => ?_)
        · have hw := hw.1 hc7
          refine r_iconst (v := 0) g dX7_join_55 (by decide) ?_
          refine r_istore (L' := [(8, .int (0 : Int32)), (0, .ref a0), (1, .ref a1), (3, .int x3), (4, .int x4), (5, .int x5), (6, .int x6), (7, .int x7)]) g dX7_join_56 (by decide) rfl ?_
          refine r_aload_n g dX7_join_58 rfl 1 rfl ?_
          obtain ⟨hk8, hw⟩ := hw
          refine r_gtR (C := RX7) (T := TX7) (N := 2) g (ci := 8) rfl tc_X7 hp0 1 (by decide) tw_74 (fun _ h => h) rfl (k_ne hk8 (by decide)) dX7_join_59 ?_
          refine r_iload g dX7_join_62 7 rfl ?_
          refine r_iload g dX7_join_64 0 rfl ?_
          refine r_if_eq (tgt := 79) g dX7_join_66 (by decide) (fun _ => ?_) (fun h9 => absurd h9 (by decide))
          refine r_aload_n g dX7_join_79 rfl 2 rfl ?_
          refine r_iload g dX7_join_80 6 rfl ?_
          refine r_iinc (v := x6 + (1 : Int32)) (L' := [(6, .int (x6 + (1 : Int32))), (8, .int (0 : Int32)), (0, .ref a0), (1, .ref a1), (3, .int x3), (4, .int x4), (5, .int x5), (7, .int x7)]) g dX7_join_82 6 rfl rfl (by decide) rfl ?_
          obtain ⟨hi9, hw⟩ := hw
          refine r_iald g (Or.inl hp1) hi9 dX7_join_85 ?_
          obtain ⟨hi10, hw⟩ := hw
          refine r_iast g hk8 hi10 dX7_join_86 ?_
          have hw := hw _ rfl
          refine r_iinc (v := x7 + (1 : Int32)) (L' := [(7, .int (x7 + (1 : Int32))), (6, .int (x6 + (1 : Int32))), (8, .int (0 : Int32)), (0, .ref a0), (1, .ref a1), (3, .int x3), (4, .int x4), (5, .int x5)]) g dX7_join_87 7 rfl rfl (by decide) rfl ?_
          refine r_goto (tgt := 9) g dX7_join_90 (by decide) ?_
          exact V_.sub (ih E x5 (x6 + (1 : Int32)) (x7 + (1 : Int32)) _ hw hp0 hp1 (fun  M9 hE9 hN9 => kE  M9 hE9 (Nk_.tr (Nk_.rf _) hN9))) [3, 4, 5, 6, 7, 1, 0] rfl
        · have hw := hw.2 hc7
          refine r_aload_n g dX7_join_29 rfl 0 rfl ?_
          obtain ⟨hk12, hw⟩ := hw
          refine r_gtR (C := RX7) (T := TX7) (N := 2) g (ci := 8) rfl tc_X7 hp0 0 (by decide) tw_73 (fun _ h => h) rfl (k_ne hk12 (by decide)) dX7_join_30 ?_
          refine r_aload_n g dX7_join_33 rfl 1 rfl ?_
          refine r_iload g dX7_join_34 4 rfl ?_
          obtain ⟨hi13, hw⟩ := hw
          refine r_iald g (Or.inl hp1) hi13 dX7_join_36 ?_
          obtain ⟨hi14, hw⟩ := hw
          refine r_lald g hk12 hi14 dX7_join_37 ?_
          refine r_aload_n g dX7_join_38 rfl 0 rfl ?_
          refine r_gtR (C := RX7) (T := TX7) (N := 2) g (ci := 8) rfl tc_X7 hp0 0 (by decide) tw_73 (fun _ h => h) rfl (k_ne hk12 (by decide)) dX7_join_39 ?_
          refine r_aload_n g dX7_join_42 rfl 1 rfl ?_
          refine r_iload g dX7_join_43 5 rfl ?_
          obtain ⟨hi15, hw⟩ := hw
          refine r_iald g (Or.inl hp1) hi15 dX7_join_45 ?_
          obtain ⟨hi16, hw⟩ := hw
          refine r_lald g hk12 hi16 dX7_join_46 ?_
          refine r_lcmp_gt (tgt := 55) g dX7_join_47 dX7_join_48 (by decide) (fun hc17 => ?_) (fun hc17 => ?_)
          · have hw := hw.1 hc17
            refine r_iconst (v := 0) g dX7_join_55 (by decide) ?_
            refine r_istore (L' := [(8, .int (0 : Int32)), (0, .ref a0), (1, .ref a1), (3, .int x3), (4, .int x4), (5, .int x5), (6, .int x6), (7, .int x7)]) g dX7_join_56 (by decide) rfl ?_
            refine r_aload_n g dX7_join_58 rfl 1 rfl ?_
            obtain ⟨hk18, hw⟩ := hw
            refine r_gtR (C := RX7) (T := TX7) (N := 2) g (ci := 8) rfl tc_X7 hp0 1 (by decide) tw_74 (fun _ h => h) rfl (k_ne hk18 (by decide)) dX7_join_59 ?_
            refine r_iload g dX7_join_62 7 rfl ?_
            refine r_iload g dX7_join_64 0 rfl ?_
            refine r_if_eq (tgt := 79) g dX7_join_66 (by decide) (fun _ => ?_) (fun h9 => absurd h9 (by decide))
            refine r_aload_n g dX7_join_79 rfl 2 rfl ?_
            refine r_iload g dX7_join_80 6 rfl ?_
            refine r_iinc (v := x6 + (1 : Int32)) (L' := [(6, .int (x6 + (1 : Int32))), (8, .int (0 : Int32)), (0, .ref a0), (1, .ref a1), (3, .int x3), (4, .int x4), (5, .int x5), (7, .int x7)]) g dX7_join_82 6 rfl rfl (by decide) rfl ?_
            obtain ⟨hi19, hw⟩ := hw
            refine r_iald g (Or.inl hp1) hi19 dX7_join_85 ?_
            obtain ⟨hi20, hw⟩ := hw
            refine r_iast g hk18 hi20 dX7_join_86 ?_
            have hw := hw _ rfl
            refine r_iinc (v := x7 + (1 : Int32)) (L' := [(7, .int (x7 + (1 : Int32))), (6, .int (x6 + (1 : Int32))), (8, .int (0 : Int32)), (0, .ref a0), (1, .ref a1), (3, .int x3), (4, .int x4), (5, .int x5)]) g dX7_join_87 7 rfl rfl (by decide) rfl ?_
            refine r_goto (tgt := 9) g dX7_join_90 (by decide) ?_
            exact V_.sub (ih E x5 (x6 + (1 : Int32)) (x7 + (1 : Int32)) _ hw hp0 hp1 (fun  M9 hE9 hN9 => kE  M9 hE9 (Nk_.tr (Nk_.rf _) hN9))) [3, 4, 5, 6, 7, 1, 0] rfl
          · have hw := hw.2 hc17
            refine r_iconst (v := 1) g dX7_join_51 (by decide) ?_
            refine r_goto (tgt := 56) g dX7_join_52 (by decide) ?_
            refine r_istore (L' := [(8, .int (1 : Int32)), (0, .ref a0), (1, .ref a1), (3, .int x3), (4, .int x4), (5, .int x5), (6, .int x6), (7, .int x7)]) g dX7_join_56 (by decide) rfl ?_
            refine r_aload_n g dX7_join_58 rfl 1 rfl ?_
            obtain ⟨hk22, hw⟩ := hw
            refine r_gtR (C := RX7) (T := TX7) (N := 2) g (ci := 8) rfl tc_X7 hp0 1 (by decide) tw_74 (fun _ h => h) rfl (k_ne hk22 (by decide)) dX7_join_59 ?_
            refine r_iload g dX7_join_62 7 rfl ?_
            refine r_iload g dX7_join_64 0 rfl ?_
            refine r_if_eq (tgt := 79) g dX7_join_66 (by decide) (fun h9 => absurd h9 (by decide)) (fun _ => ?_)
            refine r_aload_n g dX7_join_69 rfl 2 rfl ?_
            refine r_iload g dX7_join_70 5 rfl ?_
            refine r_iinc (v := x5 + (1 : Int32)) (L' := [(5, .int (x5 + (1 : Int32))), (8, .int (1 : Int32)), (0, .ref a0), (1, .ref a1), (3, .int x3), (4, .int x4), (6, .int x6), (7, .int x7)]) g dX7_join_72 5 rfl rfl (by decide) rfl ?_
            obtain ⟨hi23, hw⟩ := hw
            refine r_iald g (Or.inl hp1) hi23 dX7_join_75 ?_
            refine r_goto (tgt := 86) g dX7_join_76 (by decide) ?_
            obtain ⟨hi24, hw⟩ := hw
            refine r_iast g hk22 hi24 dX7_join_86 ?_
            have hw := hw _ rfl
            refine r_iinc (v := x7 + (1 : Int32)) (L' := [(7, .int (x7 + (1 : Int32))), (5, .int (x5 + (1 : Int32))), (8, .int (1 : Int32)), (0, .ref a0), (1, .ref a1), (3, .int x3), (4, .int x4), (6, .int x6)]) g dX7_join_87 7 rfl rfl (by decide) rfl ?_
            refine r_goto (tgt := 9) g dX7_join_90 (by decide) ?_
            exact V_.sub (ih E (x5 + (1 : Int32)) x6 (x7 + (1 : Int32)) _ hw hp0 hp1 (fun  M9 hE9 hN9 => kE  M9 hE9 (Nk_.tr (Nk_.rf _) hN9))) [3, 4, 5, 6, 1, 7, 0] rfl
set_option maxHeartbeats 4000000 in
set_option maxRecDepth 100000 in
theorem mt_X7_join {l : Launch} {D : Dd_} {M : Mm} {a0 : Nat} {a1 : Nat} {x2 : Int32} {x3 : Int32} {x4 : Int32} {K : Mm → Prop} (hw : wp_X7_join a0 a1 x2 x3 x4 M K) (sz : Nat) : Met l yX7_join (Cond.code yX7_join cX7_join 9 none :: tbG_) rmX7_join (cPc_ D M sz [.ref a0, .ref a1, .int x2, .int x3, .int x4]) (va_Qv (fun M' => K M') (cB_ D M sz) (Aw_ M sz)) 0 0 (Aw_ M sz) := by
  refine ofV (by decide) (Nat.le_of_ble_eq_true rfl) ?_
  intro p e s m below meth c g hr hin hsz
  subst hsz
  obtain ⟨hp0, hp1, hw⟩ := hw
  refine r_iload_n g dX7_join_0 rfl 2 rfl ?_
  refine r_istore (L' := [(5, .int x2), (0, .ref a0), (1, .ref a1), (2, .int x2), (3, .int x3), (4, .int x4)]) g dX7_join_1 (by decide) rfl ?_
  refine r_iload_n g dX7_join_3 rfl 4 rfl ?_
  refine r_istore (L' := [(6, .int x3), (5, .int x2), (0, .ref a0), (1, .ref a1), (2, .int x2), (3, .int x3), (4, .int x4)]) g dX7_join_4 (by decide) rfl ?_
  refine r_iload_n g dX7_join_6 rfl 4 rfl ?_
  refine r_istore (L' := [(7, .int x2), (6, .int x3), (5, .int x2), (0, .ref a0), (1, .ref a1), (2, .int x2), (3, .int x3), (4, .int x4)]) g dX7_join_7 (by decide) rfl ?_
  obtain ⟨n27, hw⟩ := hw
  refine V_.sub (lo_X7_join_9 g hr rfl n27 _ x2 x3 x2 _ hw hp0 hp1 (fun  M26 hE hN28 => ?_)) [3, 4, 6, 7, 2, 1, 0] rfl
  have hw := hE hN28
  have hT29 := Nk_.tr (Nk_.rf _) hN28
  exact r_vret g hr (Nat.le_of_ble_eq_true rfl) (Nat.le_of_ble_eq_true rfl) rfl dX7_join_93 hw
def rmX7_arrange : Room := { frames := 1, cells := 0, slots := 0, locals := 60 }
theorem hy_X7_arrange : yX7_arrange.cls ≠ "java/lang/invoke/MethodHandle" ∧ yX7_arrange.cls ≠ "java/lang/invoke/VarHandle" ∧ (parseMethodDescriptor yX7_arrange.desc).map (fun d => d.parameters.length) = some 5 := by decide +kernel
def lp_X7_arrange_3 (a0 : Nat) (a1 : Nat) (x2 : Int32) (a3 : Nat) (x4 : Int32) (x5 : Int32) (K : Mm → Prop) (E : Mm → Prop) : Nat → Int32 → Mm → Prop
  | 0, _, _ => False
  | n + 1, x6, M => ((x2 ≤ x6 → E  M) ∧ (¬ x2 ≤ x6 → (vp_in x6 (ln_ M a1) ∧ (kd_ M (rf_ M a3 0) = 20 ∧ (vp_in (it_ M a1 (ix_ x6)) (ln_ M (rf_ M a3 0)) ∧ (kd_ M (rf_ M a0 0) = 22 ∧ (kd_ M (rf_ M a3 1) = 21 ∧ (vp_in (it_ M a1 (ix_ x6)) (ln_ M (rf_ M a3 1)) ∧ (bz_ (it_ M (rf_ M a3 1) (ix_ (it_ M a1 (ix_ x6)))) → (((it_ M (rf_ M a3 1) (ix_ (it_ M a1 (ix_ x6)))) = 0 → ((x4 = 0 → (vp_in (it_ M a1 (ix_ x6)) (ln_ M (rf_ M a0 0)) ∧ (∀ M12, M12 = sL_ M (rf_ M a0 0) (ix_ (it_ M a1 (ix_ x6))) ((it_ M (rf_ M a3 0) (ix_ (it_ M a1 (ix_ x6)))).toInt64) → lp_X7_arrange_3 a0 a1 x2 a3 x4 x5 K E n (x6 + (1 : Int32)) M12))) ∧ (¬ x4 = 0 → (vp_in (it_ M a1 (ix_ x6)) (ln_ M (rf_ M a0 0)) ∧ (∀ M14, M14 = sL_ M (rf_ M a0 0) (ix_ (it_ M a1 (ix_ x6))) (-((it_ M (rf_ M a3 0) (ix_ (it_ M a1 (ix_ x6)))).toInt64)) → lp_X7_arrange_3 a0 a1 x2 a3 x4 x5 K E n (x6 + (1 : Int32)) M14))))) ∧ (¬ (it_ M (rf_ M a3 1) (ix_ (it_ M a1 (ix_ x6)))) = 0 → ((x5 = 0 → (vp_in (it_ M a1 (ix_ x6)) (ln_ M (rf_ M a0 0)) ∧ (∀ M17, M17 = sL_ M (rf_ M a0 0) (ix_ (it_ M a1 (ix_ x6))) (1099511627776 : Int64) → lp_X7_arrange_3 a0 a1 x2 a3 x4 x5 K E n (x6 + (1 : Int32)) M17))) ∧ (¬ x5 = 0 → (vp_in (it_ M a1 (ix_ x6)) (ln_ M (rf_ M a0 0)) ∧ (∀ M19, M19 = sL_ M (rf_ M a0 0) (ix_ (it_ M a1 (ix_ x6))) (-1099511627776 : Int64) → lp_X7_arrange_3 a0 a1 x2 a3 x4 x5 K E n (x6 + (1 : Int32)) M19)))))))))))))))
def lp_X7_arrange_90 (a0 : Nat) (a1 : Nat) (x2 : Int32) (x6 : Int32) (K : Mm → Prop) (E : Mm → Prop) : Nat → Int32 → Mm → Prop
  | 0, _, _ => False
  | n + 1, x7, M => ((x2 ≤ x7 → E  M) ∧ (¬ x2 ≤ x7 → (wp_X7_join a0 a1 x7 (if x2 < (x7 + x6) then x2 else (x7 + x6)) (if x2 < ((if x2 < (x7 + x6) then x2 else (x7 + x6)) + x6) then x2 else ((if x2 < (x7 + x6) then x2 else (x7 + x6)) + x6)) M (fun M28 => Nk_ M M28 → lp_X7_arrange_90 a0 a1 x2 x6 K E n (x7 + ((2 : Int32) * x6)) M28))))
def lp_X7_arrange_81 (a0 : Nat) (a1 : Nat) (x2 : Int32) (K : Mm → Prop) (E : Mm → Prop) : Nat → Int32 → Mm → Prop
  | 0, _, _ => False
  | n + 1, x6, M => ((x2 ≤ x6 → E  M) ∧ (¬ x2 ≤ x6 → (∃ n35 : Nat, lp_X7_arrange_90 a0 a1 x2 x6 K (fun  M34 => Nk_ M M34 → (kd_ M34 (rf_ M34 a0 1) = 20 ∧ (¬ (0 : Int32) < 0 ∧ ¬ (0 : Int32) < 0 ∧ ¬ x2 < 0 ∧ ix_ (0 : Int32) + ix_ x2 ≤ ln_ M34 (rf_ M34 a0 1) ∧ ix_ (0 : Int32) + ix_ x2 ≤ ln_ M34 a1 ∧ (∀ M41, M41 = aI_ M34 a1 (va_cpy (it_ M34 (rf_ M34 a0 1)) (it_ M34 a1) (ix_ (0 : Int32)) (ix_ (0 : Int32)) (ix_ x2)) → lp_X7_arrange_81 a0 a1 x2 K E n (x6 * (2 : Int32)) M41)))) n35 (0 : Int32) M)))
def wp_X7_arrange (a0 : Nat) (a1 : Nat) (x2 : Int32) (a3 : Nat) (x4 : Int32) (x5 : Int32) (M : Mm) (K : Mm → Prop) : Prop := kd_ M a0 = 9 ∧ kd_ M a1 = 20 ∧ kd_ M a3 = 3 ∧ (∃ n21 : Nat, lp_X7_arrange_3 a0 a1 x2 a3 x4 x5 K (fun  M20 => Nk_ M M20 → (∃ n48 : Nat, lp_X7_arrange_81 a0 a1 x2 K (fun  M47 => Nk_ M20 M47 → K M47) n48 (1 : Int32) M20)) n21 (0 : Int32) M)
set_option maxHeartbeats 4000000 in
set_option maxRecDepth 100000 in
theorem lo_X7_arrange_3 {p : Program} {l : Launch} {e : Env} {s : State} {m : MethodId} {args : Array Value} {below : List Frame} {meth : Method} {c : Code} {D : Dd_} {M0 : Mm} {Q : State → Prop} {K : Mm → Prop} (g : G_ p s m args meth c cX7_arrange 10 RX7 D M0) (hr : meth.sig.returnType = none) (hQ : Q = MQ below (va_Qv (fun M' => K M') (cB_ D M0 s.heap.size) (Aw_ M0 s.heap.size)) args s 0 0 (Aw_ M0 s.heap.size)) {a0 : Nat} {a1 : Nat} {x2 : Int32} {a3 : Nat} {x4 : Int32} {x5 : Int32} : ∀ (n : Nat) (E : Mm → Prop) (x6 : Int32) (M : Mm), lp_X7_arrange_3 a0 a1 x2 a3 x4 x5 K E n x6 M → kd_ M a0 = 9 → kd_ M a1 = 20 → kd_ M a3 = 3 → (∀  (M' : Mm), E  M' → Nk_ M M' → V_ p l e rmX7_arrange s m args below meth c 10 D M0 Q 78 [(0, .ref a0), (1, .ref a1), (2, .int x2)] [] M' 0 0) → V_ p l e rmX7_arrange s m args below meth c 10 D M0 Q 3 [(0, .ref a0), (1, .ref a1), (2, .int x2), (3, .ref a3), (4, .int x4), (5, .int x5), (6, .int x6)] [] M 0 0 := by
  intro n
  induction n with
  | zero =>
    intro E x6 M hw
    exact hw.elim
  | succ n ih =>
    intro E x6 M hw hp0 hp1 hp3 kE
    refine r_iload g dX7_arrange_3 6 rfl ?_
    refine r_iload_n g dX7_arrange_5 rfl 2 rfl ?_
    refine r_icmp_ge (tgt := 78) g dX7_arrange_6 (by decide) (fun hc1 => ?_) (fun hc1 => ?_)
    · have hw := hw.1 hc1
      exact V_.sub (kE  _ hw (Nk_.rf _)) [0, 1, 2] rfl
    · have hw := hw.2 hc1
      refine r_aload_n g dX7_arrange_9 rfl 1 rfl ?_
      refine r_iload g dX7_arrange_10 6 rfl ?_
      obtain ⟨hi2, hw⟩ := hw
      refine r_iald g (Or.inl hp1) hi2 dX7_arrange_12 ?_
      refine r_istore (L' := [(7, .int (it_ M a1 (ix_ x6))), (0, .ref a0), (1, .ref a1), (2, .int x2), (3, .ref a3), (4, .int x4), (5, .int x5), (6, .int x6)]) g dX7_arrange_13 (by decide) rfl ?_
      refine r_aload_n g dX7_arrange_15 rfl 4 rfl ?_
      obtain ⟨hk3, hw⟩ := hw
      refine r_gtR (C := RX1) (T := TX1) (N := 5) g (ci := 2) rfl tc_X1 hp3 0 (by decide) tw_437 (fun _ h => h) rfl (k_ne hk3 (by decide)) dX7_arrange_16 ?_
      refine r_iload g dX7_arrange_19 0 rfl ?_
      obtain ⟨hi4, hw⟩ := hw
      refine r_iald g (Or.inl hk3) hi4 dX7_arrange_21 ?_
      refine r_i2l g dX7_arrange_22 ?_
      refine r_lstore (L' := [(8, .long ((it_ M (rf_ M a3 0) (ix_ (it_ M a1 (ix_ x6)))).toInt64)), (7, .int (it_ M a1 (ix_ x6))), (0, .ref a0), (1, .ref a1), (2, .int x2), (3, .ref a3), (4, .int x4), (5, .int x5), (6, .int x6)]) g dX7_arrange_23 (by decide) rfl ?_
      refine r_aload_n g dX7_arrange_25 rfl 2 rfl ?_
      obtain ⟨hk5, hw⟩ := hw
      refine r_gtR (C := RX7) (T := TX7) (N := 2) g (ci := 8) rfl tc_X7 hp0 0 (by decide) tw_73 (fun _ h => h) rfl (k_ne hk5 (by decide)) dX7_arrange_26 ?_
      refine r_iload g dX7_arrange_29 1 rfl ?_
      refine r_aload_n g dX7_arrange_31 rfl 5 rfl ?_
      obtain ⟨hk6, hw⟩ := hw
      refine r_gtR (C := RX1) (T := TX1) (N := 5) g (ci := 2) rfl tc_X1 hp3 1 (by decide) tw_443 (fun _ h => h) rfl (k_ne hk6 (by decide)) dX7_arrange_32 ?_
      refine r_iload g dX7_arrange_35 1 rfl ?_
      obtain ⟨hi7, hw⟩ := hw
      refine r_zald g hk6 hi7 dX7_arrange_37 (fun hb8 => ?_)
      have hw := hw hb8
      refine r_if_eq (tgt := 58) g dX7_arrange_38 (by decide) (fun hc9 => ?_) (fun hc9 => ?_)
      · have hw := hw.1 hc9
        refine r_iload g dX7_arrange_58 6 rfl ?_
        refine r_if_eq (tgt := 69) g dX7_arrange_60 (by decide) (fun hc10 => ?_) (fun hc10 => ?_)
        · have hw := hw.1 hc10
          refine r_lload g dX7_arrange_69 0 rfl ?_
          obtain ⟨hi11, hw⟩ := hw
          refine r_last g hk5 hi11 dX7_arrange_71 ?_
          have hw := hw _ rfl
          refine r_iinc (v := x6 + (1 : Int32)) (L' := [(6, .int (x6 + (1 : Int32))), (8, .long ((it_ M (rf_ M a3 0) (ix_ (it_ M a1 (ix_ x6)))).toInt64)), (7, .int (it_ M a1 (ix_ x6))), (0, .ref a0), (1, .ref a1), (2, .int x2), (3, .ref a3), (4, .int x4), (5, .int x5)]) g dX7_arrange_72 8 rfl rfl (by decide) rfl ?_
          refine r_goto (tgt := 3) g dX7_arrange_75 (by decide) ?_
          exact V_.sub (ih E (x6 + (1 : Int32)) _ hw hp0 hp1 hp3 (fun  M9 hE9 hN9 => kE  M9 hE9 (Nk_.tr (Nk_.rf _) hN9))) [3, 4, 5, 6, 7, 8, 0] rfl
        · have hw := hw.2 hc10
          refine r_lload g dX7_arrange_63 0 rfl ?_
          refine r_lneg g dX7_arrange_65 ?_
          refine r_goto (tgt := 71) g dX7_arrange_66 (by decide) ?_
          obtain ⟨hi13, hw⟩ := hw
          refine r_last g hk5 hi13 dX7_arrange_71 ?_
          have hw := hw _ rfl
          refine r_iinc (v := x6 + (1 : Int32)) (L' := [(6, .int (x6 + (1 : Int32))), (8, .long ((it_ M (rf_ M a3 0) (ix_ (it_ M a1 (ix_ x6)))).toInt64)), (7, .int (it_ M a1 (ix_ x6))), (0, .ref a0), (1, .ref a1), (2, .int x2), (3, .ref a3), (4, .int x4), (5, .int x5)]) g dX7_arrange_72 8 rfl rfl (by decide) rfl ?_
          refine r_goto (tgt := 3) g dX7_arrange_75 (by decide) ?_
          exact V_.sub (ih E (x6 + (1 : Int32)) _ hw hp0 hp1 hp3 (fun  M9 hE9 hN9 => kE  M9 hE9 (Nk_.tr (Nk_.rf _) hN9))) [3, 4, 5, 6, 7, 8, 0] rfl
      · have hw := hw.2 hc9
        refine r_iload g dX7_arrange_41 7 rfl ?_
        refine r_if_eq (tgt := 52) g dX7_arrange_43 (by decide) (fun hc15 => ?_) (fun hc15 => ?_)
        · have hw := hw.1 hc15
          refine r_ldc2 (v := 1099511627776) g tw_771 dX7_arrange_52 ?_
          refine r_goto (tgt := 71) g dX7_arrange_55 (by decide) ?_
          obtain ⟨hi16, hw⟩ := hw
          refine r_last g hk5 hi16 dX7_arrange_71 ?_
          have hw := hw _ rfl
          refine r_iinc (v := x6 + (1 : Int32)) (L' := [(6, .int (x6 + (1 : Int32))), (8, .long ((it_ M (rf_ M a3 0) (ix_ (it_ M a1 (ix_ x6)))).toInt64)), (7, .int (it_ M a1 (ix_ x6))), (0, .ref a0), (1, .ref a1), (2, .int x2), (3, .ref a3), (4, .int x4), (5, .int x5)]) g dX7_arrange_72 8 rfl rfl (by decide) rfl ?_
          refine r_goto (tgt := 3) g dX7_arrange_75 (by decide) ?_
          exact V_.sub (ih E (x6 + (1 : Int32)) _ hw hp0 hp1 hp3 (fun  M9 hE9 hN9 => kE  M9 hE9 (Nk_.tr (Nk_.rf _) hN9))) [3, 4, 5, 6, 7, 8, 0] rfl
        · have hw := hw.2 hc15
          refine r_ldc2 (v := -1099511627776) g tw_770 dX7_arrange_46 ?_
          refine r_goto (tgt := 71) g dX7_arrange_49 (by decide) ?_
          obtain ⟨hi18, hw⟩ := hw
          refine r_last g hk5 hi18 dX7_arrange_71 ?_
          have hw := hw _ rfl
          refine r_iinc (v := x6 + (1 : Int32)) (L' := [(6, .int (x6 + (1 : Int32))), (8, .long ((it_ M (rf_ M a3 0) (ix_ (it_ M a1 (ix_ x6)))).toInt64)), (7, .int (it_ M a1 (ix_ x6))), (0, .ref a0), (1, .ref a1), (2, .int x2), (3, .ref a3), (4, .int x4), (5, .int x5)]) g dX7_arrange_72 8 rfl rfl (by decide) rfl ?_
          refine r_goto (tgt := 3) g dX7_arrange_75 (by decide) ?_
          exact V_.sub (ih E (x6 + (1 : Int32)) _ hw hp0 hp1 hp3 (fun  M9 hE9 hN9 => kE  M9 hE9 (Nk_.tr (Nk_.rf _) hN9))) [3, 4, 5, 6, 7, 8, 0] rfl
set_option maxHeartbeats 4000000 in
set_option maxRecDepth 100000 in
theorem lo_X7_arrange_90 {p : Program} {l : Launch} {e : Env} {s : State} {m : MethodId} {args : Array Value} {below : List Frame} {meth : Method} {c : Code} {D : Dd_} {M0 : Mm} {Q : State → Prop} {K : Mm → Prop} (g : G_ p s m args meth c cX7_arrange 10 RX7 D M0) (hr : meth.sig.returnType = none) (hQ : Q = MQ below (va_Qv (fun M' => K M') (cB_ D M0 s.heap.size) (Aw_ M0 s.heap.size)) args s 0 0 (Aw_ M0 s.heap.size)) {a0 : Nat} {a1 : Nat} {x2 : Int32} {x6 : Int32} : ∀ (n : Nat) (E : Mm → Prop) (x7 : Int32) (M : Mm), lp_X7_arrange_90 a0 a1 x2 x6 K E n x7 M → kd_ M a0 = 9 → kd_ M a1 = 20 → (∀  (M' : Mm), E  M' → Nk_ M M' → V_ p l e rmX7_arrange s m args below meth c 10 D M0 Q 137 [(0, .ref a0), (1, .ref a1), (2, .int x2), (6, .int x6)] [] M' 0 0) → V_ p l e rmX7_arrange s m args below meth c 10 D M0 Q 90 [(0, .ref a0), (1, .ref a1), (2, .int x2), (6, .int x6), (7, .int x7)] [] M 0 0 := by
  intro n
  induction n with
  | zero =>
    intro E x7 M hw
    exact hw.elim
  | succ n ih =>
    intro E x7 M hw hp0 hp1 kE
    refine r_iload g dX7_arrange_90 4 rfl ?_
    refine r_iload_n g dX7_arrange_92 rfl 2 rfl ?_
    refine r_icmp_ge (tgt := 137) g dX7_arrange_93 (by decide) (fun hc27 => ?_) (fun hc27 => ?_)
    · have hw := hw.1 hc27
      exact V_.sub (kE  _ hw (Nk_.rf _)) [0, 1, 2, 3] rfl
    · have hw := hw.2 hc27
      refine r_iload g dX7_arrange_96 4 rfl ?_
      refine r_iload g dX7_arrange_98 3 rfl ?_
      refine r_iadd g dX7_arrange_100 ?_
      refine r_iload_n g dX7_arrange_101 rfl 2 rfl ?_
      refine r_mmin g tw_772 tw_520 tw_20 tw_521 (Nat.le_of_ble_eq_true rfl) (Nat.le_of_ble_eq_true rfl) (Nat.le_of_ble_eq_true rfl) (Nat.le_of_ble_eq_true rfl) dX7_arrange_102 ?_
      refine r_istore (L' := [(8, .int (if x2 < (x7 + x6) then x2 else (x7 + x6))), (0, .ref a0), (1, .ref a1), (2, .int x2), (6, .int x6), (7, .int x7)]) g dX7_arrange_105 (by decide) rfl ?_
      refine r_aload_n g dX7_arrange_107 rfl 1 rfl ?_
      refine r_aload_n g dX7_arrange_108 rfl 2 rfl ?_
      refine r_iload g dX7_arrange_109 5 rfl ?_
      refine r_iload g dX7_arrange_111 0 rfl ?_
      refine r_iload g dX7_arrange_113 0 rfl ?_
      refine r_iload g dX7_arrange_115 4 rfl ?_
      refine r_iadd g dX7_arrange_117 ?_
      refine r_iload_n g dX7_arrange_118 rfl 3 rfl ?_
      refine r_mmin g tw_772 tw_520 tw_20 tw_521 (Nat.le_of_ble_eq_true rfl) (Nat.le_of_ble_eq_true rfl) (Nat.le_of_ble_eq_true rfl) (Nat.le_of_ble_eq_true rfl) dX7_arrange_119 ?_
      refine r_callVv (As := [.ref a1, .int x7, .int (if x2 < (x7 + x6) then x2 else (x7 + x6)), .int (if x2 < ((if x2 < (x7 + x6) then x2 else (x7 + x6)) + x6) then x2 else ((if x2 < (x7 + x6) then x2 else (x7 + x6)) + x6))]) g (fun sz => mt_X7_join hw sz) tw_773 tw_776 tw_6 tw_775 tp_20 (ci := 8) (T := TX7) (N := 2) rfl hp0 hy_X7_join ⟨rfl, rfl⟩ (Nat.le_of_ble_eq_true rfl) (Nat.le_of_ble_eq_true rfl) (Nat.le_of_ble_eq_true rfl) (Nat.le_of_ble_eq_true rfl) (Nat.le_of_ble_eq_true rfl) rfl dX7_arrange_122 (fun M28 hK29 hN30 => ?_)
      have hw := hK29 hN30
      have hk31 := Nk_.k hN30 hp0 (by decide)
      have hk32 := Nk_.k hN30 hp1 (by decide)
      have hT33 := Nk_.tr (Nk_.rf _) hN30
      refine r_iload g dX7_arrange_125 5 rfl ?_
      refine r_iconst (v := 2) g dX7_arrange_127 (by decide) ?_
      refine r_iload g dX7_arrange_128 4 rfl ?_
      refine r_imul g dX7_arrange_130 ?_
      refine r_iadd g dX7_arrange_131 ?_
      refine r_istore (L' := [(7, .int (x7 + ((2 : Int32) * x6))), (8, .int (if x2 < (x7 + x6) then x2 else (x7 + x6))), (0, .ref a0), (1, .ref a1), (2, .int x2), (6, .int x6)]) g dX7_arrange_132 (by decide) rfl ?_
      refine r_goto (tgt := 90) g dX7_arrange_134 (by decide) ?_
      exact V_.sub (ih E (x7 + ((2 : Int32) * x6)) _ hw hk31 hk32 (fun  M9 hE9 hN9 => kE  M9 hE9 (Nk_.tr hT33 hN9))) [2, 3, 4, 5, 0] rfl
set_option maxHeartbeats 4000000 in
set_option maxRecDepth 100000 in
theorem lo_X7_arrange_81 {p : Program} {l : Launch} {e : Env} {s : State} {m : MethodId} {args : Array Value} {below : List Frame} {meth : Method} {c : Code} {D : Dd_} {M0 : Mm} {Q : State → Prop} {K : Mm → Prop} (g : G_ p s m args meth c cX7_arrange 10 RX7 D M0) (hr : meth.sig.returnType = none) (hQ : Q = MQ below (va_Qv (fun M' => K M') (cB_ D M0 s.heap.size) (Aw_ M0 s.heap.size)) args s 0 0 (Aw_ M0 s.heap.size)) {a0 : Nat} {a1 : Nat} {x2 : Int32} : ∀ (n : Nat) (E : Mm → Prop) (x6 : Int32) (M : Mm), lp_X7_arrange_81 a0 a1 x2 K E n x6 M → kd_ M a0 = 9 → kd_ M a1 = 20 → (∀  (M' : Mm), E  M' → Nk_ M M' → V_ p l e rmX7_arrange s m args below meth c 10 D M0 Q 157 [] [] M' 0 0) → V_ p l e rmX7_arrange s m args below meth c 10 D M0 Q 81 [(0, .ref a0), (1, .ref a1), (2, .int x2), (6, .int x6)] [] M 0 0 := by
  intro n
  induction n with
  | zero =>
    intro E x6 M hw
    exact hw.elim
  | succ n ih =>
    intro E x6 M hw hp0 hp1 kE
    refine r_iload g dX7_arrange_81 3 rfl ?_
    refine r_iload_n g dX7_arrange_83 rfl 2 rfl ?_
    refine r_icmp_ge (tgt := 157) g dX7_arrange_84 (by decide) (fun hc26 => ?_) (fun hc26 => ?_)
    · have hw := hw.1 hc26
      exact V_.sub (kE  _ hw (Nk_.rf _)) [] rfl
    · have hw := hw.2 hc26
      refine r_iconst (v := 0) g dX7_arrange_87 (by decide) ?_
      refine r_istore (L' := [(7, .int (0 : Int32)), (0, .ref a0), (1, .ref a1), (2, .int x2), (6, .int x6)]) g dX7_arrange_88 (by decide) rfl ?_
      obtain ⟨n35, hw⟩ := hw
      refine V_.sub (lo_X7_arrange_90 g hr hQ n35 _ (0 : Int32) _ hw hp0 hp1 (fun  M34 hE hN36 => ?_)) [1, 2, 3, 4, 0] rfl
      have hw := hE hN36
      have hk37 := Nk_.k hN36 hp0 (by decide)
      have hk38 := Nk_.k hN36 hp1 (by decide)
      have hT39 := Nk_.tr (Nk_.rf _) hN36
      refine r_aload_n g dX7_arrange_137 rfl 0 rfl ?_
      obtain ⟨hk40, hw⟩ := hw
      refine r_gtR (C := RX7) (T := TX7) (N := 2) g (ci := 8) rfl tc_X7 hk37 1 (by decide) tw_74 (fun _ h => h) rfl (k_ne hk40 (by decide)) dX7_arrange_138 ?_
      refine r_iconst (v := 0) g dX7_arrange_141 (by decide) ?_
      refine r_aload_n g dX7_arrange_142 rfl 1 rfl ?_
      refine r_iconst (v := 0) g dX7_arrange_143 (by decide) ?_
      refine r_iload_n g dX7_arrange_144 rfl 2 rfl ?_
      obtain ⟨h42, h43, h44, h45, h46, hw⟩ := hw
      refine r_acopyI g tw_777 tw_524 tw_523 tw_22 hk40 hk38 h42 h43 h44 h45 h46 (Nat.le_of_ble_eq_true rfl) (Nat.le_of_ble_eq_true rfl) dX7_arrange_145 ?_
      have hw := hw _ rfl
      refine r_iload g dX7_arrange_148 3 rfl ?_
      refine r_iconst (v := 2) g dX7_arrange_150 (by decide) ?_
      refine r_imul g dX7_arrange_151 ?_
      refine r_istore (L' := [(6, .int (x6 * (2 : Int32))), (0, .ref a0), (1, .ref a1), (2, .int x2)]) g dX7_arrange_152 (by decide) rfl ?_
      refine r_goto (tgt := 81) g dX7_arrange_154 (by decide) ?_
      exact V_.sub (ih E (x6 * (2 : Int32)) _ hw hk37 hk38 (fun  M9 hE9 hN9 => kE  M9 hE9 (Nk_.tr hT39 hN9))) [1, 2, 3, 0] rfl
set_option maxHeartbeats 4000000 in
set_option maxRecDepth 100000 in
theorem mt_X7_arrange {l : Launch} {D : Dd_} {M : Mm} {a0 : Nat} {a1 : Nat} {x2 : Int32} {a3 : Nat} {x4 : Int32} {x5 : Int32} {K : Mm → Prop} (hw : wp_X7_arrange a0 a1 x2 a3 x4 x5 M K) (sz : Nat) : Met l yX7_arrange (Cond.code yX7_arrange cX7_arrange 10 none :: tbG_) rmX7_arrange (cPc_ D M sz [.ref a0, .ref a1, .int x2, .ref a3, .int x4, .int x5]) (va_Qv (fun M' => K M') (cB_ D M sz) (Aw_ M sz)) 0 0 (Aw_ M sz) := by
  refine ofV (by decide) (Nat.le_of_ble_eq_true rfl) ?_
  intro p e s m below meth c g hr hin hsz
  subst hsz
  obtain ⟨hp0, hp1, hp3, hw⟩ := hw
  refine r_iconst (v := 0) g dX7_arrange_0 (by decide) ?_
  refine r_istore (L' := [(6, .int (0 : Int32)), (0, .ref a0), (1, .ref a1), (2, .int x2), (3, .ref a3), (4, .int x4), (5, .int x5)]) g dX7_arrange_1 (by decide) rfl ?_
  obtain ⟨n21, hw⟩ := hw
  refine V_.sub (lo_X7_arrange_3 g hr rfl n21 _ (0 : Int32) _ hw hp0 hp1 hp3 (fun  M20 hE hN22 => ?_)) [1, 2, 3, 4, 5, 6, 0] rfl
  have hw := hE hN22
  have hk23 := Nk_.k hN22 hp0 (by decide)
  have hk24 := Nk_.k hN22 hp1 (by decide)
  have hT25 := Nk_.tr (Nk_.rf _) hN22
  refine r_iconst (v := 1) g dX7_arrange_78 (by decide) ?_
  refine r_istore (L' := [(6, .int (1 : Int32)), (0, .ref a0), (1, .ref a1), (2, .int x2)]) g dX7_arrange_79 (by decide) rfl ?_
  obtain ⟨n48, hw⟩ := hw
  refine V_.sub (lo_X7_arrange_81 g hr rfl n48 _ (1 : Int32) _ hw hk23 hk24 (fun  M47 hE hN49 => ?_)) [1, 2, 3, 0] rfl
  have hw := hE hN49
  have hT50 := Nk_.tr hT25 hN49
  exact r_vret g hr (Nat.le_of_ble_eq_true rfl) (Nat.le_of_ble_eq_true rfl) rfl dX7_arrange_157 hw
