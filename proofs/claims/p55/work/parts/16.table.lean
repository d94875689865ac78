/-! walks by program: 16.table -/
def rmX0_reckon : Room := { frames := 4, cells := 0, slots := 0, locals := 92 }
theorem hy_X0_reckon : yX0_reckon.cls ≠ "java/lang/invoke/MethodHandle" ∧ yX0_reckon.cls ≠ "java/lang/invoke/VarHandle" ∧ (parseMethodDescriptor yX0_reckon.desc).map (fun d => d.parameters.length) = some 3 := by decide +kernel
def lp_X0_reckon_8 (a0 : Nat) (a1 : Nat) (a2 : Nat) (a3 : Nat) (K : Mm → Prop) (E : Mm → Prop) : Nat → Int32 → Mm → Prop
  | 0, _, _ => False
  | n + 1, x4, M => (wp_Jx4a65c_size_8abf5 a1 M (fun M2 r3 => Nk_ M M2 → ((r3 ≤ x4 → E M2) ∧ (¬ r3 ≤ x4 → (wp_Jx4a65c_get_915e3 a1 x4 M2 (fun M12 r13 => Nk_ M2 M12 → (kd_ M12 r13 = 3 ∧ (kd_ M12 (rf_ M12 a0 0) = 20 ∧ (¬ (0 : Int32) < 0 ∧ (¬ (0 : Int32) < 0 ∧ (¬ (it_ M12 a0 2) < 0 ∧ (ix_ (0 : Int32) + ix_ (it_ M12 a0 2) ≤ ln_ M12 (rf_ M12 a0 0) ∧ (ix_ (0 : Int32) + ix_ (it_ M12 a0 2) ≤ ln_ M12 a2 ∧ (∀ M29, M29 = aI_ M12 a2 (va_cpy (it_ M12 (rf_ M12 a0 0)) (it_ M12 a2) (ix_ (0 : Int32)) (ix_ (0 : Int32)) (ix_ (it_ M12 a0 2))) → (wp_X7_arrange a3 a2 (it_ M29 a0 2) r13 (0 : Int32) (1 : Int32) M29 (fun M30 => Nk_ M29 M30 → (kd_ M30 (rf_ M30 a0 1) = 23 ∧ (vp_in x4 (ln_ M30 (rf_ M30 a0 1)) ∧ (kd_ M30 (rf_ M30 (rf_ M30 a0 1) (ix_ x4)) = 11 ∧ (kd_ M30 (rf_ M30 a0 0) = 20 ∧ (wp_X9_reckon (rf_ M30 (rf_ M30 a0 1) (ix_ x4)) r13 (rf_ M30 a0 0) a2 (it_ M30 a0 2) M30 (fun M43 => Nk_ M30 M43 → (kd_ M43 (rf_ M43 a0 1) = 23 ∧ (vp_in x4 (ln_ M43 (rf_ M43 a0 1)) ∧ (kd_ M43 (rf_ M43 (rf_ M43 a0 1) (ix_ x4)) = 11 ∧ (vp_in x4 (ln_ M43 (rf_ M43 a0 1)) ∧ (wp_X9_bytesIn (rf_ M43 (rf_ M43 a0 1) (ix_ x4)) (it_ M43 (rf_ M43 (rf_ M43 a0 1) (ix_ x4)) 6) M43 (fun M55 r56 => Nk_ M43 M55 → (∀ M64, M64 = sI_ M55 a0 3 ((it_ M43 a0 3) + r56) → lp_X0_reckon_8 a0 a1 a2 a3 K E n (x4 + (1 : Int32)) M64)))))))))))))))))))))))))))))
def wp_X0_reckon (a0 : Nat) (a1 : Nat) (a2 : Nat) (a3 : Nat) (M : Mm) (K : Mm → Prop) : Prop := kd_ M a0 = 2 ∧ kd_ M a1 = 1 ∧ kd_ M a2 = 20 ∧ kd_ M a3 = 9 ∧ (∀ M1, M1 = sI_ M a0 3 (0 : Int32) → (∃ n65 : Nat, lp_X0_reckon_8 a0 a1 a2 a3 K (fun  M66 => Nk_ M1 M66 → K M66) n65 (0 : Int32) M1))
set_option maxHeartbeats 4000000 in
set_option maxRecDepth 100000 in
theorem lo_X0_reckon_8 {p : Program} {l : Launch} {e : Env} {s : State} {m : MethodId} {args : Array Value} {below : List Frame} {meth : Method} {c : Code} {D : Dd_} {M0 : Mm} {Q : State → Prop} {K : Mm → Prop} (g : G_ p s m args meth c cX0_reckon 6 RX0 D M0) (hr : meth.sig.returnType = none) (hQ : Q = MQ below (va_Qv (fun M' => K M') (cB_ D M0 s.heap.size) (Aw_ M0 s.heap.size)) args s 0 0 (Aw_ M0 s.heap.size)) {a0 : Nat} {a1 : Nat} {a2 : Nat} {a3 : Nat} : ∀ (n : Nat) (E : Mm → Prop) (x4 : Int32) (M : Mm), lp_X0_reckon_8 a0 a1 a2 a3 K E n x4 M → kd_ M a0 = 2 → kd_ M a1 = 1 → kd_ M a2 = 20 → kd_ M a3 = 9 → (∀  (M' : Mm), E  M' → Nk_ M M' → V_ p l e rmX0_reckon s m args below meth c 6 D M0 Q 111 [] [] M' 0 0) → V_ p l e rmX0_reckon s m args below meth c 6 D M0 Q 8 [(0, .ref a0), (1, .ref a1), (2, .ref a2), (3, .ref a3), (4, .int x4)] [] M 0 0 := by
  intro n
  induction n with
  | zero =>
    intro E x4 M hw
    exact hw.elim
  | succ n ih =>
    intro E x4 M hw hp0 hp1 hp2 hp3 kE
    refine r_iload g dX0_reckon_8 4 rfl ?_
    refine r_aload_n g dX0_reckon_10 rfl 1 rfl ?_
    refine r_callVi (As := []) g (fun sz => mt_Jx4a65c_size_8abf5 hw sz) tw_762 tw_360 tw_5 tw_358 tw_359 (ci := 0) (T := TJx4a65c) (N := 3) rfl hp1 hy_Jx4a65c_size_8abf5 ⟨rfl, rfl⟩ (Nat.le_of_ble_eq_true rfl) (Nat.le_of_ble_eq_true rfl) (Nat.le_of_ble_eq_true rfl) (Nat.le_of_ble_eq_true rfl) (Nat.le_of_ble_eq_true rfl) rfl dX0_reckon_11 (fun M2 r3 hK4 hN5 => ?_)
    have hw := hK4 hN5
    have hk6 := Nk_.k hN5 hp0 (by decide)
    have hk7 := Nk_.k hN5 hp1 (by decide)
    have hk8 := Nk_.k hN5 hp2 (by decide)
    have hk9 := Nk_.k hN5 hp3 (by decide)
    have hT10 := Nk_.tr (Nk_.rf _) hN5
    refine r_icmp_ge (tgt := 111) g dX0_reckon_14 (by decide) (fun hc11 => ?_) (fun hc11 => ?_)
    · have hw := hw.1 hc11
      exact V_.sub (kE  _ hw hT10) [] rfl
    · have hw := hw.2 hc11
      refine r_aload_n g dX0_reckon_17 rfl 1 rfl ?_
      refine r_iload g dX0_reckon_18 4 rfl ?_
      refine r_callVr (As := [.int x4]) g (fun sz => mt_Jx4a65c_get_915e3 hw sz) tw_763 tw_543 tw_5 tw_541 tw_542 (ci := 0) (T := TJx4a65c) (N := 3) rfl hk7 hy_Jx4a65c_get_915e3 ⟨rfl, rfl⟩ (Nat.le_of_ble_eq_true rfl) (Nat.le_of_ble_eq_true rfl) (Nat.le_of_ble_eq_true rfl) (Nat.le_of_ble_eq_true rfl) (Nat.le_of_ble_eq_true rfl) rfl dX0_reckon_20 (fun M12 r13 hK14 h16 hN15 => ?_)
      have hw := hK14 hN15
      have hk17 := Nk_.k hN15 hk6 (by decide)
      have hk18 := Nk_.k hN15 hk7 (by decide)
      have hk19 := Nk_.k hN15 hk8 (by decide)
      have hk20 := Nk_.k hN15 hk9 (by decide)
      have hT21 := Nk_.tr hT10 hN15
      obtain ⟨hk22, hw⟩ := hw
      refine r_cast (C := RX1) (T := TX1) (N := 5) g (ci := 2) rfl tw_764 hk22 dX0_reckon_23 ?_
      refine r_astore (L' := [(5, .ref r13), (0, .ref a0), (1, .ref a1), (2, .ref a2), (3, .ref a3), (4, .int x4)]) g dX0_reckon_26 (by decide) rfl ?_
      refine r_aload_n g dX0_reckon_28 rfl 1 rfl ?_
      obtain ⟨hk23, hw⟩ := hw
      refine r_gtR (C := RX0) (T := TX0) (N := 4) g (ci := 1) rfl tc_X0 hk17 0 (by decide) tw_139 (fun _ h => h) rfl (k_ne hk23 (by decide)) dX0_reckon_29 ?_
      refine r_iconst (v := 0) g dX0_reckon_32 (by decide) ?_
      refine r_aload_n g dX0_reckon_33 rfl 3 rfl ?_
      refine r_iconst (v := 0) g dX0_reckon_34 (by decide) ?_
      refine r_aload_n g dX0_reckon_35 rfl 1 rfl ?_
      refine r_gt (C := RX0) (T := TX0) (N := 4) g (ci := 1) rfl tc_X0 hk17 2 (by decide) tw_147 (fun _ h => h) rfl dX0_reckon_36 ?_
      obtain ⟨h24, h25, h26, h27, h28, hw⟩ := hw
      refine r_acopyI g tw_765 tw_524 tw_523 tw_22 hk23 hk19 h24 h25 h26 h27 h28 (Nat.le_of_ble_eq_true rfl) (Nat.le_of_ble_eq_true rfl) dX0_reckon_39 ?_
      have hw := hw _ rfl
      refine r_aload_n g dX0_reckon_42 rfl 4 rfl ?_
      refine r_aload_n g dX0_reckon_43 rfl 3 rfl ?_
      refine r_aload_n g dX0_reckon_44 rfl 1 rfl ?_
      refine r_gt (C := RX0) (T := TX0) (N := 4) g (ci := 1) rfl tc_X0 hk17 2 (by decide) tw_147 (fun _ h => h) rfl dX0_reckon_45 ?_
      refine r_aload g dX0_reckon_48 0 rfl ?_
      refine r_iconst (v := 0) g dX0_reckon_50 (by decide) ?_
      refine r_iconst (v := 1) g dX0_reckon_51 (by decide) ?_
      refine r_callVv (As := [.ref a2, .int (it_ (aI_ M12 a2 (va_cpy (it_ M12 (rf_ M12 a0 0)) (it_ M12 a2) (ix_ (0 : Int32)) (ix_ (0 : Int32)) (ix_ (it_ M12 a0 2)))) a0 2), .ref r13, .int (0 : Int32), .int (1 : Int32)]) g (fun sz => mt_X7_arrange hw sz) tw_766 tw_769 tw_6 tw_767 tw_768 (ci := 8) (T := TX7) (N := 2) rfl hk20 hy_X7_arrange ⟨rfl, rfl⟩ (Nat.le_of_ble_eq_true rfl) (Nat.le_of_ble_eq_true rfl) (Nat.le_of_ble_eq_true rfl) (Nat.le_of_ble_eq_true rfl) (Nat.le_of_ble_eq_true rfl) rfl dX0_reckon_52 (fun M30 hK31 hN32 => ?_)
      have hw := hK31 hN32
      have hk33 := Nk_.k hN32 hk22 (by decide)
      have hk34 := Nk_.k hN32 hk17 (by decide)
      have hk35 := Nk_.k hN32 hk18 (by decide)
      have hk36 := Nk_.k hN32 hk19 (by decide)
      have hk37 := Nk_.k hN32 hk20 (by decide)
      have hT38 := Nk_.tr hT21 hN32
      refine r_aload_n g dX0_reckon_55 rfl 1 rfl ?_
      obtain ⟨hk39, hw⟩ := hw
      refine r_gtR (C := RX0) (T := TX0) (N := 4) g (ci := 1) rfl tc_X0 hk34 1 (by decide) tw_143 (fun _ h => h) rfl (k_ne hk39 (by decide)) dX0_reckon_56 ?_
      refine r_iload g dX0_reckon_59 5 rfl ?_
      obtain ⟨hi40, hw⟩ := hw
      obtain ⟨hk41, hw⟩ := hw
      refine r_aald (t := 3) g (by decide) (by decide) hk39 hi40 dX0_reckon_61 ?_
      refine r_rv (k_ne hk41 (by decide)) ?_
      refine r_aload g dX0_reckon_62 0 rfl ?_
      refine r_aload_n g dX0_reckon_64 rfl 1 rfl ?_
      obtain ⟨hk42, hw⟩ := hw
      refine r_gtR (C := RX0) (T := TX0) (N := 4) g (ci := 1) rfl tc_X0 hk34 0 (by decide) tw_139 (fun _ h => h) rfl (k_ne hk42 (by decide)) dX0_reckon_65 ?_
      refine r_aload_n g dX0_reckon_68 rfl 3 rfl ?_
      refine r_aload_n g dX0_reckon_69 rfl 1 rfl ?_
      refine r_gt (C := RX0) (T := TX0) (N := 4) g (ci := 1) rfl tc_X0 hk34 2 (by decide) tw_147 (fun _ h => h) rfl dX0_reckon_70 ?_
      refine r_callVv (As := [.ref r13, .ref (rf_ M30 a0 0), .ref a2, .int (it_ M30 a0 2)]) g (fun sz => mt_X9_reckon hw sz) tw_778 tw_781 tw_8 tw_779 tw_780 (ci := 10) (T := TX9) (N := 9) rfl hk41 hy_X9_reckon ⟨rfl, rfl⟩ (Nat.le_of_ble_eq_true rfl) (Nat.le_of_ble_eq_true rfl) (Nat.le_of_ble_eq_true rfl) (Nat.le_of_ble_eq_true rfl) (Nat.le_of_ble_eq_true rfl) rfl dX0_reckon_73 (fun M43 hK44 hN45 => ?_)
      have hw := hK44 hN45
      have hk46 := Nk_.k hN45 hk34 (by decide)
      have hk47 := Nk_.k hN45 hk35 (by decide)
      have hk48 := Nk_.k hN45 hk36 (by decide)
      have hk49 := Nk_.k hN45 hk37 (by decide)
      have hT50 := Nk_.tr hT38 hN45
      refine r_aload_n g dX0_reckon_76 rfl 1 rfl ?_
      refine r_dup g dX0_reckon_77 rfl ?_
      refine r_gt (C := RX0) (T := TX0) (N := 4) g (ci := 1) rfl tc_X0 hk46 3 (by decide) tw_151 (fun _ h => h) rfl dX0_reckon_78 ?_
      refine r_aload_n g dX0_reckon_81 rfl 1 rfl ?_
      obtain ⟨hk51, hw⟩ := hw
      refine r_gtR (C := RX0) (T := TX0) (N := 4) g (ci := 1) rfl tc_X0 hk46 1 (by decide) tw_143 (fun _ h => h) rfl (k_ne hk51 (by decide)) dX0_reckon_82 ?_
      refine r_iload g dX0_reckon_85 5 rfl ?_
      obtain ⟨hi52, hw⟩ := hw
      obtain ⟨hk53, hw⟩ := hw
      refine r_aald (t := 3) g (by decide) (by decide) hk51 hi52 dX0_reckon_87 ?_
      refine r_rv (k_ne hk53 (by decide)) ?_
      refine r_aload_n g dX0_reckon_88 rfl 1 rfl ?_
      refine r_gtR (C := RX0) (T := TX0) (N := 4) g (ci := 1) rfl tc_X0 hk46 1 (by decide) tw_143 (fun _ h => h) rfl (k_ne hk51 (by decide)) dX0_reckon_89 ?_
      refine r_iload g dX0_reckon_92 5 rfl ?_
      obtain ⟨hi54, hw⟩ := hw
      refine r_aald (t := 3) g (by decide) (by decide) hk51 hi54 dX0_reckon_94 ?_
      refine r_rv (k_ne hk53 (by decide)) ?_
      refine r_gt (C := RX9) (T := TX9) (N := 9) g (ci := 10) rfl tc_X9 hk53 6 (by decide) tw_115 (fun _ h => h) rfl dX0_reckon_95 ?_
      refine r_callVi (As := [.int (it_ M43 (rf_ M43 (rf_ M43 a0 1) (ix_ x4)) 6)]) g (fun sz => mt_X9_bytesIn hw sz) tw_810 tw_802 tw_8 tw_800 tw_801 (ci := 10) (T := TX9) (N := 9) rfl hk53 hy_X9_bytesIn ⟨rfl, rfl⟩ (Nat.le_of_ble_eq_true rfl) (Nat.le_of_ble_eq_true rfl) (Nat.le_of_ble_eq_true rfl) (Nat.le_of_ble_eq_true rfl) (Nat.le_of_ble_eq_true rfl) rfl dX0_reckon_98 (fun M55 r56 hK57 hN58 => ?_)
      have hw := hK57 hN58
      have hk59 := Nk_.k hN58 hk46 (by decide)
      have hk60 := Nk_.k hN58 hk47 (by decide)
      have hk61 := Nk_.k hN58 hk48 (by decide)
      have hk62 := Nk_.k hN58 hk49 (by decide)
      have hT63 := Nk_.tr hT50 hN58
      refine r_iadd g dX0_reckon_101 ?_
      refine r_ptI (C := RX0) (T := TX0) (N := 4) g (ci := 1) rfl tc_X0 tyX0 tyX0_ok nmX0 hk59 3 (by decide) tw_151 (fun _ h => h) rfl rfl rfl rfl dX0_reckon_102 ?_
      have hw := hw _ rfl
      refine r_iinc (v := x4 + (1 : Int32)) (L' := [(4, .int (x4 + (1 : Int32))), (5, .ref r13), (0, .ref a0), (1, .ref a1), (2, .ref a2), (3, .ref a3)]) g dX0_reckon_105 5 rfl rfl (by decide) rfl ?_
      refine r_goto (tgt := 8) g dX0_reckon_108 (by decide) ?_
      exact V_.sub (ih E (x4 + (1 : Int32)) _ hw hk59 hk60 hk61 hk62 (fun  M9 hE9 hN9 => kE  M9 hE9 (Nk_.tr hT63 hN9))) [2, 3, 4, 5, 0] rfl
set_option maxHeartbeats 4000000 in
set_option maxRecDepth 100000 in
theorem mt_X0_reckon {l : Launch} {D : Dd_} {M : Mm} {a0 : Nat} {a1 : Nat} {a2 : Nat} {a3 : Nat} {K : Mm → Prop} (hw : wp_X0_reckon a0 a1 a2 a3 M K) (sz : Nat) : Met l yX0_reckon (Cond.code yX0_reckon cX0_reckon 6 none :: tbG_) rmX0_reckon (cPc_ D M sz [.ref a0, .ref a1, .ref a2, .ref a3]) (va_Qv (fun M' => K M') (cB_ D M sz) (Aw_ M sz)) 0 0 (Aw_ M sz) := by
  refine ofV (by decide) (Nat.le_of_ble_eq_true rfl) ?_
  intro p e s m below meth c g hr hin hsz
  subst hsz
  obtain ⟨hp0, hp1, hp2, hp3, hw⟩ := hw
  refine r_aload_n g dX0_reckon_0 rfl 0 rfl ?_
  refine r_iconst (v := 0) g dX0_reckon_1 (by decide) ?_
  refine r_ptI (C := RX0) (T := TX0) (N := 4) g (ci := 1) rfl tc_X0 tyX0 tyX0_ok nmX0 hp0 3 (by decide) tw_151 (fun _ h => h) rfl rfl rfl rfl dX0_reckon_2 ?_
  have hw := hw _ rfl
  refine r_iconst (v := 0) g dX0_reckon_5 (by decide) ?_
  refine r_istore (L' := [(4, .int (0 : Int32)), (0, .ref a0), (1, .ref a1), (2, .ref a2), (3, .ref a3)]) g dX0_reckon_6 (by decide) rfl ?_
  obtain ⟨n65, hw⟩ := hw
  refine V_.sub (lo_X0_reckon_8 g hr rfl n65 _ (0 : Int32) _ hw hp0 hp1 hp2 hp3 (fun  M66 hE hN67 => ?_)) [1, 2, 3, 4, 0] rfl
  have hw := hE hN67
  have hT68 := Nk_.tr (Nk_.rf _) hN67
  exact r_vret g hr (Nat.le_of_ble_eq_true rfl) (Nat.le_of_ble_eq_true rfl) rfl dX0_reckon_111 hw
def rmX8_init : Room := { frames := 4, cells := 46, slots := 3024, locals := 72 }
theorem hy_X8_init : yX8_init.cls ≠ "java/lang/invoke/MethodHandle" ∧ yX8_init.cls ≠ "java/lang/invoke/VarHandle" ∧ (parseMethodDescriptor yX8_init.desc).map (fun d => d.parameters.length) = some 0 := by decide +kernel
def wp_X8_init (a0 : Nat) (M : Mm) (K : Mm → Prop) : Prop := kd_ M a0 = 10 ∧ (∀ q1, q1 ≠ 0 → kd_ M q1 = 0 → (∀ M4, M4 = nw_ M q1 1 0 → (wp_Jx4a65c_init_da8c8 q1 M4 (fun M8 => Nk_ M4 M8 → (∀ M14, M14 = sR_ M8 a0 0 q1 → (∀ q15, q15 ≠ 0 → kd_ M8 q15 = 0 → (∀ M18, M18 = nw_ M14 q15 1 0 → (wp_Jx4a65c_init_da8c8 q15 M18 (fun M22 => Nk_ M18 M22 → (∀ M28, M28 = sR_ M22 a0 1 q15 → (∀ q29, q29 ≠ 0 → kd_ M22 q29 = 0 → (∀ M32, M32 = nw_ M28 q29 21 (ix_ (600 : Int32)) → (∀ M36, M36 = sR_ M32 a0 2 q29 → (∀ q37, q37 ≠ 0 → kd_ M32 q37 = 0 → (∀ M40, M40 = nw_ M36 q37 20 (ix_ (600 : Int32)) → (∀ M44, M44 = sR_ M40 a0 3 q37 → (∀ q45, q45 ≠ 0 → kd_ M40 q45 = 0 → (∀ M48, M48 = nw_ M44 q45 9 0 → (wp_X7_init q45 M48 (fun M52 => Nk_ M48 M52 → (∀ M58, M58 = sR_ M52 a0 4 q45 → (∀ q59, q59 ≠ 0 → kd_ M52 q59 = 0 → (∀ M62, M62 = nw_ M58 q59 2 0 → (wp_X0_init q59 M62 (fun M66 => Nk_ M62 M66 → (∀ M72, M72 = sR_ M66 a0 5 q59 → (∀ M73, M73 = sI_ M72 a0 6 (32 : Int32) → (∀ q74, q74 ≠ 0 → kd_ M66 q74 = 0 → (∀ M77, M77 = nw_ M73 q74 2 0 → (wp_X0_init q74 M77 (fun M81 => Nk_ M77 M81 → (∀ M87, M87 = sR_ M81 a0 9 q74 → (∀ q88, q88 ≠ 0 → kd_ M81 q88 = 0 → (∀ M91, M91 = nw_ M87 q88 20 (ix_ (64 : Int32)) → (∀ M95, M95 = sR_ M91 a0 10 q88 → K M95)))))))))))))))))))))))))))))))))))
set_option maxHeartbeats 4000000 in
set_option maxRecDepth 100000 in
theorem mt_X8_init {l : Launch} {D : Dd_} {M : Mm} {a0 : Nat} {K : Mm → Prop} (hw : wp_X8_init a0 M K) (sz : Nat) : Met l yX8_init (Cond.code yX8_init cX8_init 1 none :: tbG_) rmX8_init (cPc_ D M sz [.ref a0]) (va_Qv (fun M' => K M') (cB_ D M sz) (Aw_ M sz)) 46 3024 (Aw_ M sz) := by
  refine ofV (by decide) (Nat.le_of_ble_eq_true rfl) ?_
  intro p e s m below meth c g hr hin hsz
  subst hsz
  have hin := hin rfl
  obtain ⟨hp0, hw⟩ := hw
  refine r_aload_n g dX8_init_0 rfl 0 rfl ?_
  refine r_oinit g tw_40 tw_33 tw_34 dX8_init_1 (Nat.le_of_ble_eq_true rfl) (Nat.le_of_ble_eq_true rfl) ?_
  refine r_aload_n g dX8_init_4 rfl 0 rfl ?_
  refine r_new (ci := 0) (C := RJx4a65c) (T := TJx4a65c) (N := 3) g rfl tc_Jx4a65c tyJx4a65c tyJx4a65c_ok tw_41 tw_42 tw_5 td_Jx4a65c (Nat.le_of_ble_eq_true rfl) (Nat.le_of_ble_eq_true rfl) dX8_init_5 (fun q1 h2 hq3 => ?_)
  have hw := hw q1 h2 hq3 _ rfl
  have hk5 := Nk_.k (Nk_nw_ (c := 1) (n := 0) hq3) hp0 (by decide)
  have hT6 := Nk_.tr (Nk_.rf _) (Nk_nw_ (c := 1) (n := 0) hq3)
  have hk7 := kd_nq_ M q1 1 0
  refine r_dup g dX8_init_8 rfl ?_
  refine r_callIv (As := []) g (fun sz => mt_Jx4a65c_init_da8c8 hw sz) tw_43 tw_45 tw_5 tw_44 rfl hy_Jx4a65c_init_da8c8 ⟨rfl, rfl⟩ (Nat.le_of_ble_eq_true rfl) (Nat.le_of_ble_eq_true rfl) (Nat.le_of_ble_eq_true rfl) (Nat.le_of_ble_eq_true rfl) (Nat.le_of_ble_eq_true rfl) rfl dX8_init_9 (fun M8 hK9 hN10 => ?_)
  have hw := hK9 hN10
  have hk11 := Nk_.k hN10 hk5 (by decide)
  have hk12 := Nk_.k hN10 hk7 (by decide)
  have hT13 := Nk_.tr hT6 hN10
  refine r_ptFx (C := RX8) (T := TX8) (N := 11) g (ci := 9) rfl tc_X8 tyX8 tyX8_ok nmX8 hk11 0 (by decide) tw_163 (fun _ h => h) rfl hin rfl rfl (k_ne hk12 (by decide)) rfl rfl dX8_init_12 ?_
  have hw := hw _ rfl
  refine r_aload_n g dX8_init_15 rfl 0 rfl ?_
  refine r_new (ci := 0) (C := RJx4a65c) (T := TJx4a65c) (N := 3) g rfl tc_Jx4a65c tyJx4a65c tyJx4a65c_ok tw_41 tw_42 tw_5 td_Jx4a65c (Nat.le_of_ble_eq_true rfl) (Nat.le_of_ble_eq_true rfl) dX8_init_16 (fun q15 h16 hq17 => ?_)
  have hw := hw q15 h16 hq17 _ rfl
  have hk19 := Nk_.k (Nk_nw_ (c := 1) (n := 0) hq17) hk11 (by decide)
  have hT20 := Nk_.tr hT13 (Nk_nw_ (c := 1) (n := 0) hq17)
  have hk21 := kd_nq_ (sR_ M8 a0 0 q1) q15 1 0
  refine r_dup g dX8_init_19 rfl ?_
  refine r_callIv (As := []) g (fun sz => mt_Jx4a65c_init_da8c8 hw sz) tw_43 tw_45 tw_5 tw_44 rfl hy_Jx4a65c_init_da8c8 ⟨rfl, rfl⟩ (Nat.le_of_ble_eq_true rfl) (Nat.le_of_ble_eq_true rfl) (Nat.le_of_ble_eq_true rfl) (Nat.le_of_ble_eq_true rfl) (Nat.le_of_ble_eq_true rfl) rfl dX8_init_20 (fun M22 hK23 hN24 => ?_)
  have hw := hK23 hN24
  have hk25 := Nk_.k hN24 hk19 (by decide)
  have hk26 := Nk_.k hN24 hk21 (by decide)
  have hT27 := Nk_.tr hT20 hN24
  refine r_ptFx (C := RX8) (T := TX8) (N := 11) g (ci := 9) rfl tc_X8 tyX8 tyX8_ok nmX8 hk25 1 (by decide) tw_166 (fun _ h => h) rfl hin rfl rfl (k_ne hk26 (by decide)) rfl rfl dX8_init_23 ?_
  have hw := hw _ rfl
  refine r_aload_n g dX8_init_26 rfl 0 rfl ?_
  refine r_sipush (v := 600) g dX8_init_27 (by decide) ?_
  refine r_newZ g tw_80 (by decide) (Nat.le_of_ble_eq_true rfl) (Nat.le_of_ble_eq_true rfl) (Nat.le_of_ble_eq_true rfl) dX8_init_30 (fun q29 h30 hq31 => ?_)
  have hw := hw q29 h30 hq31 _ rfl
  have hk33 := Nk_.k (Nk_nw_ (c := 21) (n := (ix_ (600 : Int32))) hq31) hk25 (by decide)
  have hT34 := Nk_.tr hT27 (Nk_nw_ (c := 21) (n := (ix_ (600 : Int32))) hq31)
  have hk35 := kd_nq_ (sR_ M22 a0 1 q15) q29 21 (ix_ (600 : Int32))
  refine r_ptFx (C := RX8) (T := TX8) (N := 11) g (ci := 9) rfl tc_X8 tyX8 tyX8_ok nmX8 hk33 2 (by decide) tw_169 (fun _ h => h) rfl hin rfl rfl (k_ne hk35 (by decide)) rfl rfl dX8_init_32 ?_
  have hw := hw _ rfl
  refine r_aload_n g dX8_init_35 rfl 0 rfl ?_
  refine r_sipush (v := 600) g dX8_init_36 (by decide) ?_
  refine r_newI g tw_81 (by decide) (Nat.le_of_ble_eq_true rfl) (Nat.le_of_ble_eq_true rfl) (Nat.le_of_ble_eq_true rfl) dX8_init_39 (fun q37 h38 hq39 => ?_)
  have hw := hw q37 h38 hq39 _ rfl
  have hk41 := Nk_.k (Nk_nw_ (c := 20) (n := (ix_ (600 : Int32))) hq39) hk33 (by decide)
  have hT42 := Nk_.tr hT34 (Nk_nw_ (c := 20) (n := (ix_ (600 : Int32))) hq39)
  have hk43 := kd_nq_ (sR_ (nw_ (sR_ M22 a0 1 q15) q29 21 (ix_ (600 : Int32))) a0 2 q29) q37 20 (ix_ (600 : Int32))
  refine r_ptFx (C := RX8) (T := TX8) (N := 11) g (ci := 9) rfl tc_X8 tyX8 tyX8_ok nmX8 hk41 3 (by decide) tw_172 (fun _ h => h) rfl hin rfl rfl (k_ne hk43 (by decide)) rfl rfl dX8_init_41 ?_
  have hw := hw _ rfl
  refine r_aload_n g dX8_init_44 rfl 0 rfl ?_
  refine r_new (ci := 8) (C := RX7) (T := TX7) (N := 2) g rfl tc_X7 tyX7 tyX7_ok tw_67 tw_68 tw_6 td_X7 (Nat.le_of_ble_eq_true rfl) (Nat.le_of_ble_eq_true rfl) dX8_init_45 (fun q45 h46 hq47 => ?_)
  have hw := hw q45 h46 hq47 _ rfl
  have hk49 := Nk_.k (Nk_nw_ (c := 9) (n := 0) hq47) hk41 (by decide)
  have hT50 := Nk_.tr hT42 (Nk_nw_ (c := 9) (n := 0) hq47)
  have hk51 := kd_nq_ (sR_ (nw_ (sR_ (nw_ (sR_ M22 a0 1 q15) q29 21 (ix_ (600 : Int32))) a0 2 q29) q37 20 (ix_ (600 : Int32))) a0 3 q37) q45 9 0
  refine r_dup g dX8_init_48 rfl ?_
  refine r_callNv (As := []) g (fun sz => mt_X7_init hw sz) tx_69 tw_71 tw_6 tw_70 rfl hy_X7_init ⟨rfl, rfl⟩ (Nat.le_of_ble_eq_true rfl) (Nat.le_of_ble_eq_true rfl) (Nat.le_of_ble_eq_true rfl) (Nat.le_of_ble_eq_true rfl) (Nat.le_of_ble_eq_true rfl) rfl dX8_init_49 (fun M52 hK53 hN54 => ?_)
  have hw := hK53 hN54
  have hk55 := Nk_.k hN54 hk49 (by decide)
  have hk56 := Nk_.k hN54 hk51 (by decide)
  have hT57 := Nk_.tr hT50 hN54
  refine r_ptFx (C := RX8) (T := TX8) (N := 11) g (ci := 9) rfl tc_X8 tyX8 tyX8_ok nmX8 hk55 4 (by decide) tw_174 (fun _ h => h) rfl hin rfl rfl (k_ne hk56 (by decide)) rfl rfl dX8_init_52 ?_
  have hw := hw _ rfl
  refine r_aload_n g dX8_init_55 rfl 0 rfl ?_
  refine r_new (ci := 1) (C := RX0) (T := TX0) (N := 4) g rfl tc_X0 tyX0 tyX0_ok tw_83 tw_84 tw_7 td_X0 (Nat.le_of_ble_eq_true rfl) (Nat.le_of_ble_eq_true rfl) dX8_init_56 (fun q59 h60 hq61 => ?_)
  have hw := hw q59 h60 hq61 _ rfl
  have hk63 := Nk_.k (Nk_nw_ (c := 2) (n := 0) hq61) hk55 (by decide)
  have hT64 := Nk_.tr hT57 (Nk_nw_ (c := 2) (n := 0) hq61)
  have hk65 := kd_nq_ (sR_ M52 a0 4 q45) q59 2 0
  refine r_dup g dX8_init_59 rfl ?_
  refine r_callIv (As := []) g (fun sz => mt_X0_init hw sz) tw_85 tw_87 tw_7 tw_86 rfl hy_X0_init ⟨rfl, rfl⟩ (Nat.le_of_ble_eq_true rfl) (Nat.le_of_ble_eq_true rfl) (Nat.le_of_ble_eq_true rfl) (Nat.le_of_ble_eq_true rfl) (Nat.le_of_ble_eq_true rfl) rfl dX8_init_60 (fun M66 hK67 hN68 => ?_)
  have hw := hK67 hN68
  have hk69 := Nk_.k hN68 hk63 (by decide)
  have hk70 := Nk_.k hN68 hk65 (by decide)
  have hT71 := Nk_.tr hT64 hN68
  refine r_ptRx (C := RX8) (T := TX8) (N := 11) g (ci := 9) rfl tc_X8 tyX8 tyX8_ok nmX8 hk69 5 (by decide) tw_176 (fun _ h => h) rfl rfl (k_ne hk70 (by decide)) rfl rfl dX8_init_63 ?_
  have hw := hw _ rfl
  refine r_aload_n g dX8_init_66 rfl 0 rfl ?_
  refine r_bipush (v := 32) g dX8_init_67 (by decide) ?_
  refine r_ptI (C := RX8) (T := TX8) (N := 11) g (ci := 9) rfl tc_X8 tyX8 tyX8_ok nmX8 hk69 6 (by decide) tw_179 (fun _ h => h) rfl rfl rfl rfl dX8_init_69 ?_
  have hw := hw _ rfl
  refine r_aload_n g dX8_init_72 rfl 0 rfl ?_
  refine r_new (ci := 1) (C := RX0) (T := TX0) (N := 4) g rfl tc_X0 tyX0 tyX0_ok tw_83 tw_84 tw_7 td_X0 (Nat.le_of_ble_eq_true rfl) (Nat.le_of_ble_eq_true rfl) dX8_init_73 (fun q74 h75 hq76 => ?_)
  have hw := hw q74 h75 hq76 _ rfl
  have hk78 := Nk_.k (Nk_nw_ (c := 2) (n := 0) hq76) hk69 (by decide)
  have hT79 := Nk_.tr hT71 (Nk_nw_ (c := 2) (n := 0) hq76)
  have hk80 := kd_nq_ (sI_ (sR_ M66 a0 5 q59) a0 6 (32 : Int32)) q74 2 0
  refine r_dup g dX8_init_76 rfl ?_
  refine r_callIv (As := []) g (fun sz => mt_X0_init hw sz) tw_85 tw_87 tw_7 tw_86 rfl hy_X0_init ⟨rfl, rfl⟩ (Nat.le_of_ble_eq_true rfl) (Nat.le_of_ble_eq_true rfl) (Nat.le_of_ble_eq_true rfl) (Nat.le_of_ble_eq_true rfl) (Nat.le_of_ble_eq_true rfl) rfl dX8_init_77 (fun M81 hK82 hN83 => ?_)
  have hw := hK82 hN83
  have hk84 := Nk_.k hN83 hk78 (by decide)
  have hk85 := Nk_.k hN83 hk80 (by decide)
  have hT86 := Nk_.tr hT79 hN83
  refine r_ptFx (C := RX8) (T := TX8) (N := 11) g (ci := 9) rfl tc_X8 tyX8 tyX8_ok nmX8 hk84 9 (by decide) tw_185 (fun _ h => h) rfl hin rfl rfl (k_ne hk85 (by decide)) rfl rfl dX8_init_80 ?_
  have hw := hw _ rfl
  refine r_aload_n g dX8_init_83 rfl 0 rfl ?_
  refine r_bipush (v := 64) g dX8_init_84 (by decide) ?_
  refine r_newI g tw_81 (by decide) (Nat.le_of_ble_eq_true rfl) (Nat.le_of_ble_eq_true rfl) (Nat.le_of_ble_eq_true rfl) dX8_init_86 (fun q88 h89 hq90 => ?_)
  have hw := hw q88 h89 hq90 _ rfl
  have hk92 := Nk_.k (Nk_nw_ (c := 20) (n := (ix_ (64 : Int32))) hq90) hk84 (by decide)
  have hT93 := Nk_.tr hT86 (Nk_nw_ (c := 20) (n := (ix_ (64 : Int32))) hq90)
  have hk94 := kd_nq_ (sR_ M81 a0 9 q74) q88 20 (ix_ (64 : Int32))
  refine r_ptFx (C := RX8) (T := TX8) (N := 11) g (ci := 9) rfl tc_X8 tyX8 tyX8_ok nmX8 hk92 10 (by decide) tw_186 (fun _ h => h) rfl hin rfl rfl (k_ne hk94 (by decide)) rfl rfl dX8_init_88 ?_
  have hw := hw _ rfl
  exact r_vret g hr (Nat.le_of_ble_eq_true rfl) (Nat.le_of_ble_eq_true rfl) rfl dX8_init_91 hw
def rmX8_givenColumns : Room := { frames := 3, cells := 0, slots := 0, locals := 64 }
theorem hy_X8_givenColumns : yX8_givenColumns.cls ≠ "java/lang/invoke/MethodHandle" ∧ yX8_givenColumns.cls ≠ "java/lang/invoke/VarHandle" ∧ (parseMethodDescriptor yX8_givenColumns.desc).map (fun d => d.parameters.length) = some 0 := by decide +kernel
def lp_X8_givenColumns_4 (a0 : Nat) (K : Mm → Int32 → Prop) (E : Int32 → Mm → Prop) : Nat → Int32 → Int32 → Mm → Prop
  | 0, _, _, _ => False
  | n + 1, x1, x2, M => (kd_ M (rf_ M a0 0) = 1 ∧ (wp_Jx4a65c_size_8abf5 (rf_ M a0 0) M (fun M2 r3 => Nk_ M M2 → ((r3 ≤ x2 → E x1 M2) ∧ (¬ r3 ≤ x2 → (kd_ M2 (rf_ M2 a0 0) = 1 ∧ (wp_Jx4a65c_get_915e3 (rf_ M2 a0 0) x2 M2 (fun M10 r11 => Nk_ M2 M10 → (kd_ M10 r11 = 3 ∧ (bz_ (it_ M10 r11 3) → (((it_ M10 r11 3) = 0 → lp_X8_givenColumns_4 a0 K E n x1 (x2 + (1 : Int32)) M10) ∧ (¬ (it_ M10 r11 3) = 0 → lp_X8_givenColumns_4 a0 K E n (x1 + (1 : Int32)) (x2 + (1 : Int32)) M10))))))))))))
def wp_X8_givenColumns (a0 : Nat) (M : Mm) (K : Mm → Int32 → Prop) : Prop := kd_ M a0 = 10 ∧ (∃ n20 : Nat, lp_X8_givenColumns_4 a0 K (fun xv23 M21 => Nk_ M M21 → (K M21 xv23)) n20 (0 : Int32) (0 : Int32) M)
set_option maxHeartbeats 4000000 in
set_option maxRecDepth 100000 in
theorem lo_X8_givenColumns_4 {p : Program} {l : Launch} {e : Env} {s : State} {m : MethodId} {args : Array Value} {below : List Frame} {meth : Method} {c : Code} {D : Dd_} {M0 : Mm} {Q : State → Prop} {K : Mm → Int32 → Prop} (g : G_ p s m args meth c cX8_givenColumns 3 RX8 D M0) (hr : meth.sig.returnType = some .int) (hQ : Q = MQ below (va_Qi (fun r M' => K M' r) (cB_ D M0 s.heap.size) (Aw_ M0 s.heap.size)) args s 0 0 (Aw_ M0 s.heap.size)) {a0 : Nat} : ∀ (n : Nat) (E : Int32 → Mm → Prop) (x1 : Int32) (x2 : Int32) (M : Mm), lp_X8_givenColumns_4 a0 K E n x1 x2 M → kd_ M a0 = 10 → (∀ (e9_1 : Int32) (M' : Mm), E e9_1 M' → Nk_ M M' → V_ p l e rmX8_givenColumns s m args below meth c 3 D M0 Q 41 [(1, .int e9_1)] [] M' 0 0) → V_ p l e rmX8_givenColumns s m args below meth c 3 D M0 Q 4 [(0, .ref a0), (1, .int x1), (2, .int x2)] [] M 0 0 := by
  intro n
  induction n with
  | zero =>
    intro E x1 x2 M hw
    exact hw.elim
  | succ n ih =>
    intro E x1 x2 M hw hp0 kE
    refine r_iload_n g dX8_givenColumns_4 rfl 2 rfl ?_
    refine r_aload_n g dX8_givenColumns_5 rfl 0 rfl ?_
    obtain ⟨hk1, hw⟩ := hw
    refine r_gtR (C := RX8) (T := TX8) (N := 11) g (ci := 9) rfl tc_X8 hp0 0 (by decide) tw_163 (fun _ h => h) rfl (k_ne hk1 (by decide)) dX8_givenColumns_6 ?_
    refine r_callVi (As := []) g (fun sz => mt_Jx4a65c_size_8abf5 hw sz) tw_636 tw_360 tw_5 tw_358 tw_359 (ci := 0) (T := TJx4a65c) (N := 3) rfl hk1 hy_Jx4a65c_size_8abf5 ⟨rfl, rfl⟩ (Nat.le_of_ble_eq_true rfl) (Nat.le_of_ble_eq_true rfl) (Nat.le_of_ble_eq_true rfl) (Nat.le_of_ble_eq_true rfl) (Nat.le_of_ble_eq_true rfl) rfl dX8_givenColumns_9 (fun M2 r3 hK4 hN5 => ?_)
    have hw := hK4 hN5
    have hk6 := Nk_.k hN5 hp0 (by decide)
    have hT7 := Nk_.tr (Nk_.rf _) hN5
    refine r_icmp_ge (tgt := 41) g dX8_givenColumns_12 (by decide) (fun hc8 => ?_) (fun hc8 => ?_)
    · have hw := hw.1 hc8
      exact V_.sub (kE x1 _ hw hT7) [1] rfl
    · have hw := hw.2 hc8
      refine r_aload_n g dX8_givenColumns_15 rfl 0 rfl ?_
      obtain ⟨hk9, hw⟩ := hw
      refine r_gtR (C := RX8) (T := TX8) (N := 11) g (ci := 9) rfl tc_X8 hk6 0 (by decide) tw_163 (fun _ h => h) rfl (k_ne hk9 (by decide)) dX8_givenColumns_16 ?_
      refine r_iload_n g dX8_givenColumns_19 rfl 2 rfl ?_
      refine r_callVr (As := [.int x2]) g (fun sz => mt_Jx4a65c_get_915e3 hw sz) tw_637 tw_543 tw_5 tw_541 tw_542 (ci := 0) (T := TJx4a65c) (N := 3) rfl hk9 hy_Jx4a65c_get_915e3 ⟨rfl, rfl⟩ (Nat.le_of_ble_eq_true rfl) (Nat.le_of_ble_eq_true rfl) (Nat.le_of_ble_eq_true rfl) (Nat.le_of_ble_eq_true rfl) (Nat.le_of_ble_eq_true rfl) rfl dX8_givenColumns_20 (fun M10 r11 hK12 h14 hN13 => ?_)
      have hw := hK12 hN13
      have hk15 := Nk_.k hN13 hk6 (by decide)
      have hT16 := Nk_.tr hT7 hN13
      obtain ⟨hk17, hw⟩ := hw
      refine r_cast (C := RX1) (T := TX1) (N := 5) g (ci := 2) rfl tw_638 hk17 dX8_givenColumns_23 ?_
      refine r_gtZ (C := RX1) (T := TX1) (N := 5) g (ci := 2) rfl tc_X1 hk17 3 (by decide) tw_452 (fun _ h => h) rfl dX8_givenColumns_26 (fun hb18 => ?_)
      have hw := hw hb18
      refine r_if_eq (tgt := 35) g dX8_givenColumns_29 (by decide) (fun hc19 => ?_) (fun hc19 => ?_)
      · have hw := hw.1 hc19
        refine r_iinc (v := x2 + (1 : Int32)) (L' := [(2, .int (x2 + (1 : Int32))), (0, .ref a0), (1, .int x1)]) g dX8_givenColumns_35 2 rfl rfl (by decide) rfl ?_
        refine r_goto (tgt := 4) g dX8_givenColumns_38 (by decide) ?_
        exact V_.sub (ih E x1 (x2 + (1 : Int32)) _ hw hk15 (fun e9_1 M9 hE9 hN9 => kE e9_1 M9 hE9 (Nk_.tr hT16 hN9))) [1, 2, 0] rfl
      · have hw := hw.2 hc19
        refine r_iinc (v := x1 + (1 : Int32)) (L' := [(1, .int (x1 + (1 : Int32))), (0, .ref a0), (2, .int x2)]) g dX8_givenColumns_32 1 rfl rfl (by decide) rfl ?_
        refine r_iinc (v := x2 + (1 : Int32)) (L' := [(2, .int (x2 + (1 : Int32))), (1, .int (x1 + (1 : Int32))), (0, .ref a0)]) g dX8_givenColumns_35 2 rfl rfl (by decide) rfl ?_
        refine r_goto (tgt := 4) g dX8_givenColumns_38 (by decide) ?_
        exact V_.sub (ih E (x1 + (1 : Int32)) (x2 + (1 : Int32)) _ hw hk15 (fun e9_1 M9 hE9 hN9 => kE e9_1 M9 hE9 (Nk_.tr hT16 hN9))) [2, 1, 0] rfl
set_option maxHeartbeats 4000000 in
set_option maxRecDepth 100000 in
theorem mt_X8_givenColumns {l : Launch} {D : Dd_} {M : Mm} {a0 : Nat} {K : Mm → Int32 → Prop} (hw : wp_X8_givenColumns a0 M K) (sz : Nat) : Met l yX8_givenColumns (Cond.code yX8_givenColumns cX8_givenColumns 3 (some .int) :: tbG_) rmX8_givenColumns (cPc_ D M sz [.ref a0]) (va_Qi (fun r M' => K M' r) (cB_ D M sz) (Aw_ M sz)) 0 0 (Aw_ M sz) := by
  refine ofV (by decide) (Nat.le_of_ble_eq_true rfl) ?_
  intro p e s m below meth c g hr hin hsz
  subst hsz
  obtain ⟨hp0, hw⟩ := hw
  refine r_iconst (v := 0) g dX8_givenColumns_0 (by decide) ?_
  refine r_istore_n (L' := [(1, .int (0 : Int32)), (0, .ref a0)]) g dX8_givenColumns_1 rfl (by decide) rfl ?_
  refine r_iconst (v := 0) g dX8_givenColumns_2 (by decide) ?_
  refine r_istore_n (L' := [(2, .int (0 : Int32)), (1, .int (0 : Int32)), (0, .ref a0)]) g dX8_givenColumns_3 rfl (by decide) rfl ?_
  obtain ⟨n20, hw⟩ := hw
  refine V_.sub (lo_X8_givenColumns_4 g hr rfl n20 _ (0 : Int32) (0 : Int32) _ hw hp0 (fun xv23 M21 hE hN22 => ?_)) [2, 1, 0] rfl
  have hw := hE hN22
  have hT24 := Nk_.tr (Nk_.rf _) hN22
  refine r_iload_n g dX8_givenColumns_41 rfl 0 rfl ?_
  exact r_iret g hr (Nat.le_of_ble_eq_true rfl) (Nat.le_of_ble_eq_true rfl) rfl dX8_givenColumns_42 hw
def rmX8_kill : Room := { frames := 0, cells := 0, slots := 0, locals := 0 }
theorem hy_X8_kill : yX8_kill.cls ≠ "java/lang/invoke/MethodHandle" ∧ yX8_kill.cls ≠ "java/lang/invoke/VarHandle" ∧ (parseMethodDescriptor yX8_kill.desc).map (fun d => d.parameters.length) = some 1 := by decide +kernel
def wp_X8_kill (a0 : Nat) (x1 : Int32) (M : Mm) (K : Mm → Int32 → Prop) : Prop := kd_ M a0 = 10 ∧ (kd_ M (rf_ M a0 2) = 21 ∧ (vp_in x1 (ln_ M (rf_ M a0 2)) ∧ (bz_ (it_ M (rf_ M a0 2) (ix_ x1)) → (((it_ M (rf_ M a0 2) (ix_ x1)) = 0 → (K M (0 : Int32))) ∧ (¬ (it_ M (rf_ M a0 2) (ix_ x1)) = 0 → (vp_in x1 (ln_ M (rf_ M a0 2)) ∧ (∀ M6, M6 = sI_ M (rf_ M a0 2) (ix_ x1) (0 : Int32) → (∀ M7, M7 = sI_ M6 a0 8 ((it_ M6 a0 8) - (1 : Int32)) → (K M7 (1 : Int32))))))))))
set_option maxHeartbeats 4000000 in
set_option maxRecDepth 100000 in
theorem mt_X8_kill {l : Launch} {D : Dd_} {M : Mm} {a0 : Nat} {x1 : Int32} {K : Mm → Int32 → Prop} (hw : wp_X8_kill a0 x1 M K) (sz : Nat) : Met l yX8_kill (Cond.code yX8_kill cX8_kill 2 (some .boolean) :: tbG_) rmX8_kill (cPc_ D M sz [.ref a0, .int x1]) (va_Qi (fun r M' => K M' r ∧ bz_ r) (cB_ D M sz) (Aw_ M sz)) 0 0 (Aw_ M sz) := by
  refine ofV (by decide) (Nat.le_of_ble_eq_true rfl) ?_
  intro p e s m below meth c g hr hin hsz
  subst hsz
  obtain ⟨hp0, hw⟩ := hw
  refine r_aload_n g dX8_kill_0 rfl 0 rfl ?_
  obtain ⟨hk1, hw⟩ := hw
  refine r_gtR (C := RX8) (T := TX8) (N := 11) g (ci := 9) rfl tc_X8 hp0 2 (by decide) tw_169 (fun _ h => h) rfl (k_ne hk1 (by decide)) dX8_kill_1 ?_
  refine r_iload_n g dX8_kill_4 rfl 1 rfl ?_
  obtain ⟨hi2, hw⟩ := hw
  refine r_zald g hk1 hi2 dX8_kill_5 (fun hb3 => ?_)
  have hw := hw hb3
  refine r_if_ne (tgt := 11) g dX8_kill_6 (by decide) (fun hc4 => ?_) (fun hc4 => ?_)
  · have hw := hw.2 hc4
    refine r_aload_n g dX8_kill_11 rfl 0 rfl ?_
    refine r_gtR (C := RX8) (T := TX8) (N := 11) g (ci := 9) rfl tc_X8 hp0 2 (by decide) tw_169 (fun _ h => h) rfl (k_ne hk1 (by decide)) dX8_kill_12 ?_
    refine r_iload_n g dX8_kill_15 rfl 1 rfl ?_
    refine r_iconst (v := 0) g dX8_kill_16 (by decide) ?_
    obtain ⟨hi5, hw⟩ := hw
    refine r_zast g hk1 hi5 (Or.inl rfl) dX8_kill_17 ?_
    have hw := hw _ rfl
    refine r_aload_n g dX8_kill_18 rfl 0 rfl ?_
    refine r_dup g dX8_kill_19 rfl ?_
    refine r_gt (C := RX8) (T := TX8) (N := 11) g (ci := 9) rfl tc_X8 hp0 8 (by decide) tw_183 (fun _ h => h) rfl dX8_kill_20 ?_
    refine r_iconst (v := 1) g dX8_kill_23 (by decide) ?_
    refine r_isub g dX8_kill_24 ?_
    refine r_ptI (C := RX8) (T := TX8) (N := 11) g (ci := 9) rfl tc_X8 tyX8 tyX8_ok nmX8 hp0 8 (by decide) tw_183 (fun _ h => h) rfl rfl rfl rfl dX8_kill_25 ?_
    have hw := hw _ rfl
    refine r_iconst (v := 1) g dX8_kill_28 (by decide) ?_
    exact r_zret g hr (Nat.le_of_ble_eq_true rfl) (Nat.le_of_ble_eq_true rfl) rfl (Or.inr rfl) dX8_kill_29 hw
  · have hw := hw.1 hc4
    refine r_iconst (v := 0) g dX8_kill_9 (by decide) ?_
    exact r_zret g hr (Nat.le_of_ble_eq_true rfl) (Nat.le_of_ble_eq_true rfl) rfl (Or.inl rfl) dX8_kill_10 hw
def rmX8_appendFilled : Room := { frames := 1, cells := 0, slots := 0, locals := 21 }
theorem hy_X8_appendFilled : yX8_appendFilled.cls ≠ "java/lang/invoke/MethodHandle" ∧ yX8_appendFilled.cls ≠ "java/lang/invoke/VarHandle" ∧ (parseMethodDescriptor yX8_appendFilled.desc).map (fun d => d.parameters.length) = some 0 := by decide +kernel
def wp_X8_appendFilled (a0 : Nat) (M : Mm) (K : Mm → Int32 → Prop) : Prop := kd_ M a0 = 10 ∧ (kd_ M (rf_ M a0 2) = 21 ∧ (vp_in (it_ M a0 7) (ln_ M (rf_ M a0 2)) ∧ (∀ M3, M3 = sI_ M (rf_ M a0 2) (ix_ (it_ M a0 7)) (1 : Int32) → (kd_ M (rf_ M a0 3) = 20 ∧ (vp_in (it_ M a0 7) (ln_ M (rf_ M a0 3)) ∧ (∀ M6, M6 = sI_ M3 (rf_ M a0 3) (ix_ (it_ M a0 7)) (-1 : Int32) → (kd_ M (rf_ M a0 5) = 2 ∧ (wp_X0_append (rf_ M a0 5) (it_ M a0 7) M6 (fun M8 => Nk_ M6 M8 → (∀ M13, M13 = sI_ M8 a0 7 ((it_ M8 a0 7) + (1 : Int32)) → (∀ M14, M14 = sI_ M13 a0 8 ((it_ M13 a0 8) + (1 : Int32)) → (K M14 (it_ M a0 7)))))))))))))
set_option maxHeartbeats 4000000 in
set_option maxRecDepth 100000 in
theorem mt_X8_appendFilled {l : Launch} {D : Dd_} {M : Mm} {a0 : Nat} {K : Mm → Int32 → Prop} (hw : wp_X8_appendFilled a0 M K) (sz : Nat) : Met l yX8_appendFilled (Cond.code yX8_appendFilled cX8_appendFilled 2 (some .int) :: tbG_) rmX8_appendFilled (cPc_ D M sz [.ref a0]) (va_Qi (fun r M' => K M' r) (cB_ D M sz) (Aw_ M sz)) 0 0 (Aw_ M sz) := by
  refine ofV (by decide) (Nat.le_of_ble_eq_true rfl) ?_
  intro p e s m below meth c g hr hin hsz
  subst hsz
  obtain ⟨hp0, hw⟩ := hw
  refine r_aload_n g dX8_appendFilled_0 rfl 0 rfl ?_
  refine r_gt (C := RX8) (T := TX8) (N := 11) g (ci := 9) rfl tc_X8 hp0 7 (by decide) tw_182 (fun _ h => h) rfl dX8_appendFilled_1 ?_
  refine r_istore_n (L' := [(1, .int (it_ M a0 7)), (0, .ref a0)]) g dX8_appendFilled_4 rfl (by decide) rfl ?_
  refine r_aload_n g dX8_appendFilled_5 rfl 1 rfl ?_
  obtain ⟨hk1, hw⟩ := hw
  refine r_gtR (C := RX8) (T := TX8) (N := 11) g (ci := 9) rfl tc_X8 hp0 2 (by decide) tw_169 (fun _ h => h) rfl (k_ne hk1 (by decide)) dX8_appendFilled_6 ?_
  refine r_iload_n g dX8_appendFilled_9 rfl 0 rfl ?_
  refine r_iconst (v := 1) g dX8_appendFilled_10 (by decide) ?_
  obtain ⟨hi2, hw⟩ := hw
  refine r_zast g hk1 hi2 (Or.inr rfl) dX8_appendFilled_11 ?_
  have hw := hw _ rfl
  refine r_aload_n g dX8_appendFilled_12 rfl 1 rfl ?_
  obtain ⟨hk4, hw⟩ := hw
  refine r_gtR (C := RX8) (T := TX8) (N := 11) g (ci := 9) rfl tc_X8 hp0 3 (by decide) tw_172 (fun _ h => h) rfl (k_ne hk4 (by decide)) dX8_appendFilled_13 ?_
  refine r_iload_n g dX8_appendFilled_16 rfl 0 rfl ?_
  refine r_iconst (v := -1) g dX8_appendFilled_17 (by decide) ?_
  obtain ⟨hi5, hw⟩ := hw
  refine r_iast g hk4 hi5 dX8_appendFilled_18 ?_
  have hw := hw _ rfl
  refine r_aload_n g dX8_appendFilled_19 rfl 1 rfl ?_
  obtain ⟨hk7, hw⟩ := hw
  refine r_gtR (C := RX8) (T := TX8) (N := 11) g (ci := 9) rfl tc_X8 hp0 5 (by decide) tw_176 (fun _ h => h) rfl (k_ne hk7 (by decide)) dX8_appendFilled_20 ?_
  refine r_iload_n g dX8_appendFilled_23 rfl 0 rfl ?_
  refine r_callVv (As := [.int (it_ M a0 7)]) g (fun sz => mt_X0_append hw sz) tw_742 tw_745 tw_7 tw_743 tw_744 (ci := 1) (T := TX0) (N := 4) rfl hk7 hy_X0_append ⟨rfl, rfl⟩ (Nat.le_of_ble_eq_true rfl) (Nat.le_of_ble_eq_true rfl) (Nat.le_of_ble_eq_true rfl) (Nat.le_of_ble_eq_true rfl) (Nat.le_of_ble_eq_true rfl) rfl dX8_appendFilled_24 (fun M8 hK9 hN10 => ?_)
  have hw := hK9 hN10
  have hk11 := Nk_.k hN10 hp0 (by decide)
  have hT12 := Nk_.tr (Nk_.rf _) hN10
  refine r_aload_n g dX8_appendFilled_27 rfl 1 rfl ?_
  refine r_dup g dX8_appendFilled_28 rfl ?_
  refine r_gt (C := RX8) (T := TX8) (N := 11) g (ci := 9) rfl tc_X8 hk11 7 (by decide) tw_182 (fun _ h => h) rfl dX8_appendFilled_29 ?_
  refine r_iconst (v := 1) g dX8_appendFilled_32 (by decide) ?_
  refine r_iadd g dX8_appendFilled_33 ?_
  refine r_ptI (C := RX8) (T := TX8) (N := 11) g (ci := 9) rfl tc_X8 tyX8 tyX8_ok nmX8 hk11 7 (by decide) tw_182 (fun _ h => h) rfl rfl rfl rfl dX8_appendFilled_34 ?_
  have hw := hw _ rfl
  refine r_aload_n g dX8_appendFilled_37 rfl 1 rfl ?_
  refine r_dup g dX8_appendFilled_38 rfl ?_
  refine r_gt (C := RX8) (T := TX8) (N := 11) g (ci := 9) rfl tc_X8 hk11 8 (by decide) tw_183 (fun _ h => h) rfl dX8_appendFilled_39 ?_
  refine r_iconst (v := 1) g dX8_appendFilled_42 (by decide) ?_
  refine r_iadd g dX8_appendFilled_43 ?_
  refine r_ptI (C := RX8) (T := TX8) (N := 11) g (ci := 9) rfl tc_X8 tyX8 tyX8_ok nmX8 hk11 8 (by decide) tw_183 (fun _ h => h) rfl rfl rfl rfl dX8_appendFilled_44 ?_
  have hw := hw _ rfl
  refine r_iload_n g dX8_appendFilled_47 rfl 0 rfl ?_
  exact r_iret g hr (Nat.le_of_ble_eq_true rfl) (Nat.le_of_ble_eq_true rfl) rfl dX8_appendFilled_48 hw
def rmX8_appendGiven : Room := { frames := 3, cells := 0, slots := 0, locals := 64 }
theorem hy_X8_appendGiven : yX8_appendGiven.cls ≠ "java/lang/invoke/MethodHandle" ∧ yX8_appendGiven.cls ≠ "java/lang/invoke/VarHandle" ∧ (parseMethodDescriptor yX8_appendGiven.desc).map (fun d => d.parameters.length) = some 0 := by decide +kernel
def lp_X8_appendGiven_2 (a0 : Nat) (K : Mm → Int32 → Prop) (E : Mm → Prop) : Nat → Int32 → Mm → Prop
  | 0, _, _ => False
  | n + 1, x1, M => (kd_ M (rf_ M a0 0) = 1 ∧ (wp_Jx4a65c_size_8abf5 (rf_ M a0 0) M (fun M2 r3 => Nk_ M M2 → ((r3 ≤ x1 → E M2) ∧ (¬ r3 ≤ x1 → (kd_ M2 (rf_ M2 a0 0) = 1 ∧ (wp_Jx4a65c_get_915e3 (rf_ M2 a0 0) x1 M2 (fun M10 r11 => Nk_ M2 M10 → (kd_ M10 r11 = 3 ∧ (wp_X1_takeGiven r11 (it_ M10 a0 7) M10 (fun M18 => Nk_ M10 M18 → lp_X8_appendGiven_2 a0 K E n (x1 + (1 : Int32)) M18)))))))))))
def wp_X8_appendGiven (a0 : Nat) (M : Mm) (K : Mm → Int32 → Prop) : Prop := kd_ M a0 = 10 ∧ (∃ n23 : Nat, lp_X8_appendGiven_2 a0 K (fun  M24 => Nk_ M M24 → (wp_X8_appendFilled a0 M24 (fun M28 r29 => Nk_ M24 M28 → (K M28 r29)))) n23 (0 : Int32) M)
set_option maxHeartbeats 4000000 in
set_option maxRecDepth 100000 in
theorem lo_X8_appendGiven_2 {p : Program} {l : Launch} {e : Env} {s : State} {m : MethodId} {args : Array Value} {below : List Frame} {meth : Method} {c : Code} {D : Dd_} {M0 : Mm} {Q : State → Prop} {K : Mm → Int32 → Prop} (g : G_ p s m args meth c cX8_appendGiven 2 RX8 D M0) (hr : meth.sig.returnType = some .int) (hQ : Q = MQ below (va_Qi (fun r M' => K M' r) (cB_ D M0 s.heap.size) (Aw_ M0 s.heap.size)) args s 0 0 (Aw_ M0 s.heap.size)) {a0 : Nat} : ∀ (n : Nat) (E : Mm → Prop) (x1 : Int32) (M : Mm), lp_X8_appendGiven_2 a0 K E n x1 M → kd_ M a0 = 10 → (∀  (M' : Mm), E  M' → Nk_ M M' → V_ p l e rmX8_appendGiven s m args below meth c 2 D M0 Q 37 [(0, .ref a0)] [] M' 0 0) → V_ p l e rmX8_appendGiven s m args below meth c 2 D M0 Q 2 [(0, .ref a0), (1, .int x1)] [] M 0 0 := by
  intro n
  induction n with
  | zero =>
    intro E x1 M hw
    exact hw.elim
  | succ n ih =>
    intro E x1 M hw hp0 kE
    refine r_iload_n g dX8_appendGiven_2 rfl 1 rfl ?_
    refine r_aload_n g dX8_appendGiven_3 rfl 0 rfl ?_
    obtain ⟨hk1, hw⟩ := hw
    refine r_gtR (C := RX8) (T := TX8) (N := 11) g (ci := 9) rfl tc_X8 hp0 0 (by decide) tw_163 (fun _ h => h) rfl (k_ne hk1 (by decide)) dX8_appendGiven_4 ?_
    refine r_callVi (As := []) g (fun sz => mt_Jx4a65c_size_8abf5 hw sz) tw_636 tw_360 tw_5 tw_358 tw_359 (ci := 0) (T := TJx4a65c) (N := 3) rfl hk1 hy_Jx4a65c_size_8abf5 ⟨rfl, rfl⟩ (Nat.le_of_ble_eq_true rfl) (Nat.le_of_ble_eq_true rfl) (Nat.le_of_ble_eq_true rfl) (Nat.le_of_ble_eq_true rfl) (Nat.le_of_ble_eq_true rfl) rfl dX8_appendGiven_7 (fun M2 r3 hK4 hN5 => ?_)
    have hw := hK4 hN5
    have hk6 := Nk_.k hN5 hp0 (by decide)
    have hT7 := Nk_.tr (Nk_.rf _) hN5
    refine r_icmp_ge (tgt := 37) g dX8_appendGiven_10 (by decide) (fun hc8 => ?_) (fun hc8 => ?_)
    · have hw := hw.1 hc8
      exact V_.sub (kE  _ hw hT7) [0] rfl
    · have hw := hw.2 hc8
      refine r_aload_n g dX8_appendGiven_13 rfl 0 rfl ?_
      obtain ⟨hk9, hw⟩ := hw
      refine r_gtR (C := RX8) (T := TX8) (N := 11) g (ci := 9) rfl tc_X8 hk6 0 (by decide) tw_163 (fun _ h => h) rfl (k_ne hk9 (by decide)) dX8_appendGiven_14 ?_
      refine r_iload_n g dX8_appendGiven_17 rfl 1 rfl ?_
      refine r_callVr (As := [.int x1]) g (fun sz => mt_Jx4a65c_get_915e3 hw sz) tw_637 tw_543 tw_5 tw_541 tw_542 (ci := 0) (T := TJx4a65c) (N := 3) rfl hk9 hy_Jx4a65c_get_915e3 ⟨rfl, rfl⟩ (Nat.le_of_ble_eq_true rfl) (Nat.le_of_ble_eq_true rfl) (Nat.le_of_ble_eq_true rfl) (Nat.le_of_ble_eq_true rfl) (Nat.le_of_ble_eq_true rfl) rfl dX8_appendGiven_18 (fun M10 r11 hK12 h14 hN13 => ?_)
      have hw := hK12 hN13
      have hk15 := Nk_.k hN13 hk6 (by decide)
      have hT16 := Nk_.tr hT7 hN13
      obtain ⟨hk17, hw⟩ := hw
      refine r_cast (C := RX1) (T := TX1) (N := 5) g (ci := 2) rfl tw_638 hk17 dX8_appendGiven_21 ?_
      refine r_aload_n g dX8_appendGiven_24 rfl 0 rfl ?_
      refine r_gt (C := RX8) (T := TX8) (N := 11) g (ci := 9) rfl tc_X8 hk15 7 (by decide) tw_182 (fun _ h => h) rfl dX8_appendGiven_25 ?_
      refine r_callVv (As := [.int (it_ M10 a0 7)]) g (fun sz => mt_X1_takeGiven hw sz) tw_950 tw_953 tw_18 tw_951 tw_952 (ci := 2) (T := TX1) (N := 5) rfl hk17 hy_X1_takeGiven ⟨rfl, rfl⟩ (Nat.le_of_ble_eq_true rfl) (Nat.le_of_ble_eq_true rfl) (Nat.le_of_ble_eq_true rfl) (Nat.le_of_ble_eq_true rfl) (Nat.le_of_ble_eq_true rfl) rfl dX8_appendGiven_28 (fun M18 hK19 hN20 => ?_)
      have hw := hK19 hN20
      have hk21 := Nk_.k hN20 hk15 (by decide)
      have hT22 := Nk_.tr hT16 hN20
      refine r_iinc (v := x1 + (1 : Int32)) (L' := [(1, .int (x1 + (1 : Int32))), (0, .ref a0)]) g dX8_appendGiven_31 1 rfl rfl (by decide) rfl ?_
      refine r_goto (tgt := 2) g dX8_appendGiven_34 (by decide) ?_
      exact V_.sub (ih E (x1 + (1 : Int32)) _ hw hk21 (fun  M9 hE9 hN9 => kE  M9 hE9 (Nk_.tr hT22 hN9))) [1, 0] rfl
set_option maxHeartbeats 4000000 in
set_option maxRecDepth 100000 in
theorem mt_X8_appendGiven {l : Launch} {D : Dd_} {M : Mm} {a0 : Nat} {K : Mm → Int32 → Prop} (hw : wp_X8_appendGiven a0 M K) (sz : Nat) : Met l yX8_appendGiven (Cond.code yX8_appendGiven cX8_appendGiven 2 (some .int) :: tbG_) rmX8_appendGiven (cPc_ D M sz [.ref a0]) (va_Qi (fun r M' => K M' r) (cB_ D M sz) (Aw_ M sz)) 0 0 (Aw_ M sz) := by
  refine ofV (by decide) (Nat.le_of_ble_eq_true rfl) ?_
  intro p e s m below meth c g hr hin hsz
  subst hsz
  obtain ⟨hp0, hw⟩ := hw
  refine r_iconst (v := 0) g dX8_appendGiven_0 (by decide) ?_
  refine r_istore_n (L' := [(1, .int (0 : Int32)), (0, .ref a0)]) g dX8_appendGiven_1 rfl (by decide) rfl ?_
  obtain ⟨n23, hw⟩ := hw
  refine V_.sub (lo_X8_appendGiven_2 g hr rfl n23 _ (0 : Int32) _ hw hp0 (fun  M24 hE hN25 => ?_)) [1, 0] rfl
  have hw := hE hN25
  have hk26 := Nk_.k hN25 hp0 (by decide)
  have hT27 := Nk_.tr (Nk_.rf _) hN25
  refine r_aload_n g dX8_appendGiven_37 rfl 0 rfl ?_
  refine r_callVi (As := []) g (fun sz => mt_X8_appendFilled hw sz) tw_738 tw_741 tw_2 tw_740 tp_18 (ci := 9) (T := TX8) (N := 11) rfl hk26 hy_X8_appendFilled ⟨rfl, rfl⟩ (Nat.le_of_ble_eq_true rfl) (Nat.le_of_ble_eq_true rfl) (Nat.le_of_ble_eq_true rfl) (Nat.le_of_ble_eq_true rfl) (Nat.le_of_ble_eq_true rfl) rfl dX8_appendGiven_38 (fun M28 r29 hK30 hN31 => ?_)
  have hw := hK30 hN31
  have hk32 := Nk_.k hN31 hk26 (by decide)
  have hT33 := Nk_.tr hT27 hN31
  exact r_iret g hr (Nat.le_of_ble_eq_true rfl) (Nat.le_of_ble_eq_true rfl) rfl dX8_appendGiven_41 hw
def rmX8_appendChanged : Room := { frames := 3, cells := 0, slots := 0, locals := 64 }
theorem hy_X8_appendChanged : yX8_appendChanged.cls ≠ "java/lang/invoke/MethodHandle" ∧ yX8_appendChanged.cls ≠ "java/lang/invoke/VarHandle" ∧ (parseMethodDescriptor yX8_appendChanged.desc).map (fun d => d.parameters.length) = some 3 := by decide +kernel
def lp_X8_appendChanged_9 (a0 : Nat) (x1 : Int32) (x2 : Int32) (x3 : Int32) (K : Mm → Int32 → Prop) (E : Mm → Prop) : Nat → Int32 → Mm → Prop
  | 0, _, _ => False
  | n + 1, x4, M => (kd_ M (rf_ M a0 0) = 1 ∧ (wp_Jx4a65c_size_8abf5 (rf_ M a0 0) M (fun M9 r10 => Nk_ M M9 → ((r10 ≤ x4 → E M9) ∧ (¬ r10 ≤ x4 → (kd_ M9 (rf_ M9 a0 0) = 1 ∧ (wp_Jx4a65c_get_915e3 (rf_ M9 a0 0) x4 M9 (fun M17 r18 => Nk_ M9 M17 → (kd_ M17 r18 = 3 ∧ (wp_X1_copy r18 x1 (it_ M17 a0 7) M17 (fun M25 => Nk_ M17 M25 → lp_X8_appendChanged_9 a0 x1 x2 x3 K E n (x4 + (1 : Int32)) M25)))))))))))
def wp_X8_appendChanged (a0 : Nat) (x1 : Int32) (x2 : Int32) (x3 : Int32) (M : Mm) (K : Mm → Int32 → Prop) : Prop := kd_ M a0 = 10 ∧ (wp_X8_kill a0 x1 M (fun M1 r2 => Nk_ M M1 → bz_ r2 → (∃ n30 : Nat, lp_X8_appendChanged_9 a0 x1 x2 x3 K (fun  M31 => Nk_ M1 M31 → (kd_ M31 (rf_ M31 a0 0) = 1 ∧ (wp_Jx4a65c_get_915e3 (rf_ M31 a0 0) x2 M31 (fun M36 r37 => Nk_ M31 M36 → (kd_ M36 r37 = 3 ∧ (wp_X1_put r37 (it_ M36 a0 7) x3 M36 (fun M44 => Nk_ M36 M44 → (wp_X8_appendFilled a0 M44 (fun M49 r50 => Nk_ M44 M49 → (K M49 r50)))))))))) n30 (0 : Int32) M1)))
set_option maxHeartbeats 4000000 in
set_option maxRecDepth 100000 in
theorem lo_X8_appendChanged_9 {p : Program} {l : Launch} {e : Env} {s : State} {m : MethodId} {args : Array Value} {below : List Frame} {meth : Method} {c : Code} {D : Dd_} {M0 : Mm} {Q : State → Prop} {K : Mm → Int32 → Prop} (g : G_ p s m args meth c cX8_appendChanged 5 RX8 D M0) (hr : meth.sig.returnType = some .int) (hQ : Q = MQ below (va_Qi (fun r M' => K M' r) (cB_ D M0 s.heap.size) (Aw_ M0 s.heap.size)) args s 0 0 (Aw_ M0 s.heap.size)) {a0 : Nat} {x1 : Int32} {x2 : Int32} {x3 : Int32} : ∀ (n : Nat) (E : Mm → Prop) (x4 : Int32) (M : Mm), lp_X8_appendChanged_9 a0 x1 x2 x3 K E n x4 M → kd_ M a0 = 10 → (∀  (M' : Mm), E  M' → Nk_ M M' → V_ p l e rmX8_appendChanged s m args below meth c 5 D M0 Q 47 [(0, .ref a0), (2, .int x2), (3, .int x3)] [] M' 0 0) → V_ p l e rmX8_appendChanged s m args below meth c 5 D M0 Q 9 [(0, .ref a0), (1, .int x1), (2, .int x2), (3, .int x3), (4, .int x4)] [] M 0 0 := by
  intro n
  induction n with
  | zero =>
    intro E x4 M hw
    exact hw.elim
  | succ n ih =>
    intro E x4 M hw hp0 kE
    refine r_iload g dX8_appendChanged_9 4 rfl ?_
    refine r_aload_n g dX8_appendChanged_11 rfl 0 rfl ?_
    obtain ⟨hk8, hw⟩ := hw
    refine r_gtR (C := RX8) (T := TX8) (N := 11) g (ci := 9) rfl tc_X8 hp0 0 (by decide) tw_163 (fun _ h => h) rfl (k_ne hk8 (by decide)) dX8_appendChanged_12 ?_
    refine r_callVi (As := []) g (fun sz => mt_Jx4a65c_size_8abf5 hw sz) tw_636 tw_360 tw_5 tw_358 tw_359 (ci := 0) (T := TJx4a65c) (N := 3) rfl hk8 hy_Jx4a65c_size_8abf5 ⟨rfl, rfl⟩ (Nat.le_of_ble_eq_true rfl) (Nat.le_of_ble_eq_true rfl) (Nat.le_of_ble_eq_true rfl) (Nat.le_of_ble_eq_true rfl) (Nat.le_of_ble_eq_true rfl) rfl dX8_appendChanged_15 (fun M9 r10 hK11 hN12 => ?_)
    have hw := hK11 hN12
    have hk13 := Nk_.k hN12 hp0 (by decide)
    have hT14 := Nk_.tr (Nk_.rf _) hN12
    refine r_icmp_ge (tgt := 47) g dX8_appendChanged_18 (by decide) (fun hc15 => ?_) (fun hc15 => ?_)
    · have hw := hw.1 hc15
      exact V_.sub (kE  _ hw hT14) [0, 2, 3] rfl
    · have hw := hw.2 hc15
      refine r_aload_n g dX8_appendChanged_21 rfl 0 rfl ?_
      obtain ⟨hk16, hw⟩ := hw
      refine r_gtR (C := RX8) (T := TX8) (N := 11) g (ci := 9) rfl tc_X8 hk13 0 (by decide) tw_163 (fun _ h => h) rfl (k_ne hk16 (by decide)) dX8_appendChanged_22 ?_
      refine r_iload g dX8_appendChanged_25 4 rfl ?_
      refine r_callVr (As := [.int x4]) g (fun sz => mt_Jx4a65c_get_915e3 hw sz) tw_637 tw_543 tw_5 tw_541 tw_542 (ci := 0) (T := TJx4a65c) (N := 3) rfl hk16 hy_Jx4a65c_get_915e3 ⟨rfl, rfl⟩ (Nat.le_of_ble_eq_true rfl) (Nat.le_of_ble_eq_true rfl) (Nat.le_of_ble_eq_true rfl) (Nat.le_of_ble_eq_true rfl) (Nat.le_of_ble_eq_true rfl) rfl dX8_appendChanged_27 (fun M17 r18 hK19 h21 hN20 => ?_)
      have hw := hK19 hN20
      have hk22 := Nk_.k hN20 hk13 (by decide)
      have hT23 := Nk_.tr hT14 hN20
      obtain ⟨hk24, hw⟩ := hw
      refine r_cast (C := RX1) (T := TX1) (N := 5) g (ci := 2) rfl tw_638 hk24 dX8_appendChanged_30 ?_
      refine r_iload_n g dX8_appendChanged_33 rfl 1 rfl ?_
      refine r_aload_n g dX8_appendChanged_34 rfl 0 rfl ?_
      refine r_gt (C := RX8) (T := TX8) (N := 11) g (ci := 9) rfl tc_X8 hk22 7 (by decide) tw_182 (fun _ h => h) rfl dX8_appendChanged_35 ?_
      refine r_callVv (As := [.int x1, .int (it_ M17 a0 7)]) g (fun sz => mt_X1_copy hw sz) tw_730 tw_733 tw_18 tw_731 tw_732 (ci := 2) (T := TX1) (N := 5) rfl hk24 hy_X1_copy ⟨rfl, rfl⟩ (Nat.le_of_ble_eq_true rfl) (Nat.le_of_ble_eq_true rfl) (Nat.le_of_ble_eq_true rfl) (Nat.le_of_ble_eq_true rfl) (Nat.le_of_ble_eq_true rfl) rfl dX8_appendChanged_38 (fun M25 hK26 hN27 => ?_)
      have hw := hK26 hN27
      have hk28 := Nk_.k hN27 hk22 (by decide)
      have hT29 := Nk_.tr hT23 hN27
      refine r_iinc (v := x4 + (1 : Int32)) (L' := [(4, .int (x4 + (1 : Int32))), (0, .ref a0), (1, .int x1), (2, .int x2), (3, .int x3)]) g dX8_appendChanged_41 4 rfl rfl (by decide) rfl ?_
      refine r_goto (tgt := 9) g dX8_appendChanged_44 (by decide) ?_
      exact V_.sub (ih E (x4 + (1 : Int32)) _ hw hk28 (fun  M9 hE9 hN9 => kE  M9 hE9 (Nk_.tr hT29 hN9))) [1, 2, 3, 4, 0] rfl
set_option maxHeartbeats 4000000 in
set_option maxRecDepth 100000 in
theorem mt_X8_appendChanged {l : Launch} {D : Dd_} {M : Mm} {a0 : Nat} {x1 : Int32} {x2 : Int32} {x3 : Int32} {K : Mm → Int32 → Prop} (hw : wp_X8_appendChanged a0 x1 x2 x3 M K) (sz : Nat) : Met l yX8_appendChanged (Cond.code yX8_appendChanged cX8_appendChanged 5 (some .int) :: tbG_) rmX8_appendChanged (cPc_ D M sz [.ref a0, .int x1, .int x2, .int x3]) (va_Qi (fun r M' => K M' r) (cB_ D M sz) (Aw_ M sz)) 0 0 (Aw_ M sz) := by
  refine ofV (by decide) (Nat.le_of_ble_eq_true rfl) ?_
  intro p e s m below meth c g hr hin hsz
  subst hsz
  obtain ⟨hp0, hw⟩ := hw
  refine r_aload_n g dX8_appendChanged_0 rfl 0 rfl ?_
  refine r_iload_n g dX8_appendChanged_1 rfl 1 rfl ?_
  refine r_callVz (As := [.int x1]) g (fun sz => mt_X8_kill hw sz) tw_729 tw_709 tw_2 tw_707 tw_708 (ci := 9) (T := TX8) (N := 11) rfl hp0 hy_X8_kill ⟨rfl, rfl⟩ (Nat.le_of_ble_eq_true rfl) (Nat.le_of_ble_eq_true rfl) (Nat.le_of_ble_eq_true rfl) (Nat.le_of_ble_eq_true rfl) (Nat.le_of_ble_eq_true rfl) rfl dX8_appendChanged_2 (fun M1 r2 hK3 hb5 hN4 => ?_)
  have hw := hK3 hN4 hb5
  have hk6 := Nk_.k hN4 hp0 (by decide)
  have hT7 := Nk_.tr (Nk_.rf _) hN4
  refine r_pop g dX8_appendChanged_5 rfl ?_
  refine r_iconst (v := 0) g dX8_appendChanged_6 (by decide) ?_
  refine r_istore (L' := [(4, .int (0 : Int32)), (0, .ref a0), (1, .int x1), (2, .int x2), (3, .int x3)]) g dX8_appendChanged_7 (by decide) rfl ?_
  obtain ⟨n30, hw⟩ := hw
  refine V_.sub (lo_X8_appendChanged_9 g hr rfl n30 _ (0 : Int32) _ hw hk6 (fun  M31 hE hN32 => ?_)) [1, 2, 3, 4, 0] rfl
  have hw := hE hN32
  have hk33 := Nk_.k hN32 hk6 (by decide)
  have hT34 := Nk_.tr hT7 hN32
  refine r_aload_n g dX8_appendChanged_47 rfl 0 rfl ?_
  obtain ⟨hk35, hw⟩ := hw
  refine r_gtR (C := RX8) (T := TX8) (N := 11) g (ci := 9) rfl tc_X8 hk33 0 (by decide) tw_163 (fun _ h => h) rfl (k_ne hk35 (by decide)) dX8_appendChanged_48 ?_
  refine r_iload_n g dX8_appendChanged_51 rfl 1 rfl ?_
  refine r_callVr (As := [.int x2]) g (fun sz => mt_Jx4a65c_get_915e3 hw sz) tw_637 tw_543 tw_5 tw_541 tw_542 (ci := 0) (T := TJx4a65c) (N := 3) rfl hk35 hy_Jx4a65c_get_915e3 ⟨rfl, rfl⟩ (Nat.le_of_ble_eq_true rfl) (Nat.le_of_ble_eq_true rfl) (Nat.le_of_ble_eq_true rfl) (Nat.le_of_ble_eq_true rfl) (Nat.le_of_ble_eq_true rfl) rfl dX8_appendChanged_52 (fun M36 r37 hK38 h40 hN39 => ?_)
  have hw := hK38 hN39
  have hk41 := Nk_.k hN39 hk33 (by decide)
  have hT42 := Nk_.tr hT34 hN39
  obtain ⟨hk43, hw⟩ := hw
  refine r_cast (C := RX1) (T := TX1) (N := 5) g (ci := 2) rfl tw_638 hk43 dX8_appendChanged_55 ?_
  refine r_aload_n g dX8_appendChanged_58 rfl 0 rfl ?_
  refine r_gt (C := RX8) (T := TX8) (N := 11) g (ci := 9) rfl tc_X8 hk41 7 (by decide) tw_182 (fun _ h => h) rfl dX8_appendChanged_59 ?_
  refine r_iload_n g dX8_appendChanged_62 rfl 2 rfl ?_
  refine r_callVv (As := [.int (it_ M36 a0 7), .int x3]) g (fun sz => mt_X1_put hw sz) tw_734 tw_737 tw_18 tw_735 tw_736 (ci := 2) (T := TX1) (N := 5) rfl hk43 hy_X1_put ⟨rfl, rfl⟩ (Nat.le_of_ble_eq_true rfl) (Nat.le_of_ble_eq_true rfl) (Nat.le_of_ble_eq_true rfl) (Nat.le_of_ble_eq_true rfl) (Nat.le_of_ble_eq_true rfl) rfl dX8_appendChanged_63 (fun M44 hK45 hN46 => ?_)
  have hw := hK45 hN46
  have hk47 := Nk_.k hN46 hk41 (by decide)
  have hT48 := Nk_.tr hT42 hN46
  refine r_aload_n g dX8_appendChanged_66 rfl 0 rfl ?_
  refine r_callVi (As := []) g (fun sz => mt_X8_appendFilled hw sz) tw_738 tw_741 tw_2 tw_740 tp_18 (ci := 9) (T := TX8) (N := 11) rfl hk47 hy_X8_appendFilled ⟨rfl, rfl⟩ (Nat.le_of_ble_eq_true rfl) (Nat.le_of_ble_eq_true rfl) (Nat.le_of_ble_eq_true rfl) (Nat.le_of_ble_eq_true rfl) (Nat.le_of_ble_eq_true rfl) rfl dX8_appendChanged_67 (fun M49 r50 hK51 hN52 => ?_)
  have hw := hK51 hN52
  have hk53 := Nk_.k hN52 hk47 (by decide)
  have hT54 := Nk_.tr hT48 hN52
  exact r_iret g hr (Nat.le_of_ble_eq_true rfl) (Nat.le_of_ble_eq_true rfl) rfl dX8_appendChanged_70 hw
def rmX8_dropDead : Room := { frames := 0, cells := 0, slots := 0, locals := 0 }
theorem hy_X8_dropDead : yX8_dropDead.cls ≠ "java/lang/invoke/MethodHandle" ∧ yX8_dropDead.cls ≠ "java/lang/invoke/VarHandle" ∧ (parseMethodDescriptor yX8_dropDead.desc).map (fun d => d.parameters.length) = some 1 := by decide +kernel
def lp_X8_dropDead_4 (a0 : Nat) (a1 : Nat) (K : Mm → Prop) (E : Int32 → Mm → Prop) : Nat → Int32 → Int32 → Mm → Prop
  | 0, _, _, _ => False
  | n + 1, x2, x3, M => (((it_ M a1 2) ≤ x3 → E x2 M) ∧ (¬ (it_ M a1 2) ≤ x3 → (kd_ M (rf_ M a1 0) = 20 ∧ (vp_in x3 (ln_ M (rf_ M a1 0)) ∧ (kd_ M (rf_ M a0 2) = 21 ∧ (vp_in (it_ M (rf_ M a1 0) (ix_ x3)) (ln_ M (rf_ M a0 2)) ∧ (bz_ (it_ M (rf_ M a0 2) (ix_ (it_ M (rf_ M a1 0) (ix_ x3)))) → (((it_ M (rf_ M a0 2) (ix_ (it_ M (rf_ M a1 0) (ix_ x3)))) = 0 → (kd_ M (rf_ M a0 3) = 20 ∧ (vp_in (it_ M (rf_ M a1 0) (ix_ x3)) (ln_ M (rf_ M a0 3)) ∧ (∀ M10, M10 = sI_ M (rf_ M a0 3) (ix_ (it_ M (rf_ M a1 0) (ix_ x3))) (-2 : Int32) → lp_X8_dropDead_4 a0 a1 K E n x2 (x3 + (1 : Int32)) M10)))) ∧ (¬ (it_ M (rf_ M a0 2) (ix_ (it_ M (rf_ M a1 0) (ix_ x3)))) = 0 → (vp_in x2 (ln_ M (rf_ M a1 0)) ∧ (∀ M12, M12 = sI_ M (rf_ M a1 0) (ix_ x2) (it_ M (rf_ M a1 0) (ix_ x3)) → lp_X8_dropDead_4 a0 a1 K E n (x2 + (1 : Int32)) (x3 + (1 : Int32)) M12)))))))))))
def wp_X8_dropDead (a0 : Nat) (a1 : Nat) (M : Mm) (K : Mm → Prop) : Prop := kd_ M a0 = 10 ∧ kd_ M a1 = 2 ∧ (∃ n13 : Nat, lp_X8_dropDead_4 a0 a1 K (fun xv16 M14 => Nk_ M M14 → (∀ M19, M19 = sI_ M14 a1 2 xv16 → K M19)) n13 (0 : Int32) (0 : Int32) M)
set_option maxHeartbeats 4000000 in
set_option maxRecDepth 100000 in
theorem lo_X8_dropDead_4 {p : Program} {l : Launch} {e : Env} {s : State} {m : MethodId} {args : Array Value} {below : List Frame} {meth : Method} {c : Code} {D : Dd_} {M0 : Mm} {Q : State → Prop} {K : Mm → Prop} (g : G_ p s m args meth c cX8_dropDead 5 RX8 D M0) (hr : meth.sig.returnType = none) (hQ : Q = MQ below (va_Qv (fun M' => K M') (cB_ D M0 s.heap.size) (Aw_ M0 s.heap.size)) args s 0 0 (Aw_ M0 s.heap.size)) {a0 : Nat} {a1 : Nat} : ∀ (n : Nat) (E : Int32 → Mm → Prop) (x2 : Int32) (x3 : Int32) (M : Mm), lp_X8_dropDead_4 a0 a1 K E n x2 x3 M → kd_ M a0 = 10 → kd_ M a1 = 2 → (∀ (e9_2 : Int32) (M' : Mm), E e9_2 M' → Nk_ M M' → V_ p l e rmX8_dropDead s m args below meth c 5 D M0 Q 59 [(1, .ref a1), (2, .int e9_2)] [] M' 0 0) → V_ p l e rmX8_dropDead s m args below meth c 5 D M0 Q 4 [(0, .ref a0), (1, .ref a1), (2, .int x2), (3, .int x3)] [] M 0 0 := by
  intro n
  induction n with
  | zero =>
    intro E x2 x3 M hw
    exact hw.elim
  | succ n ih =>
    intro E x2 x3 M hw hp0 hp1 kE
    refine r_iload_n g dX8_dropDead_4 rfl 3 rfl ?_
    refine r_aload_n g dX8_dropDead_5 rfl 1 rfl ?_
    refine r_gt (C := RX0) (T := TX0) (N := 4) g (ci := 1) rfl tc_X0 hp1 2 (by decide) tw_149 (fun _ h => h) rfl dX8_dropDead_6 ?_
    refine r_icmp_ge (tgt := 59) g dX8_dropDead_9 (by decide) (fun hc1 => ?_) (fun hc1 => ?_)
    · have hw := hw.1 hc1
      exact V_.sub (kE x2 _ hw (Nk_.rf _)) [1, 2] rfl
    · have hw := hw.2 hc1
      refine r_aload_n g dX8_dropDead_12 rfl 1 rfl ?_
      obtain ⟨hk2, hw⟩ := hw
      refine r_gtR (C := RX0) (T := TX0) (N := 4) g (ci := 1) rfl tc_X0 hp1 0 (by decide) tw_141 (fun _ h => h) rfl (k_ne hk2 (by decide)) dX8_dropDead_13 ?_
      refine r_iload_n g dX8_dropDead_16 rfl 3 rfl ?_
      obtain ⟨hi3, hw⟩ := hw
      refine r_iald g (Or.inl hk2) hi3 dX8_dropDead_17 ?_
      refine r_istore (L' := [(4, .int (it_ M (rf_ M a1 0) (ix_ x3))), (0, .ref a0), (1, .ref a1), (2, .int x2), (3, .int x3)]) g dX8_dropDead_18 (by decide) rfl ?_
      refine r_aload_n g dX8_dropDead_20 rfl 1 rfl ?_
      obtain ⟨hk4, hw⟩ := hw
      refine r_gtR (C := RX8) (T := TX8) (N := 11) g (ci := 9) rfl tc_X8 hp0 2 (by decide) tw_169 (fun _ h => h) rfl (k_ne hk4 (by decide)) dX8_dropDead_21 ?_
      refine r_iload g dX8_dropDead_24 0 rfl ?_
      obtain ⟨hi5, hw⟩ := hw
      refine r_zald g hk4 hi5 dX8_dropDead_26 (fun hb6 => ?_)
      have hw := hw hb6
      refine r_if_eq (tgt := 44) g dX8_dropDead_27 (by decide) (fun hc7 => ?_) (fun hc7 => ?_)
      · have hw := hw.1 hc7
        refine r_aload_n g dX8_dropDead_44 rfl 1 rfl ?_
        obtain ⟨hk8, hw⟩ := hw
        refine r_gtR (C := RX8) (T := TX8) (N := 11) g (ci := 9) rfl tc_X8 hp0 3 (by decide) tw_172 (fun _ h => h) rfl (k_ne hk8 (by decide)) dX8_dropDead_45 ?_
        refine r_iload g dX8_dropDead_48 0 rfl ?_
        refine r_bipush (v := -2) g dX8_dropDead_50 (by decide) ?_
        obtain ⟨hi9, hw⟩ := hw
        refine r_iast g hk8 hi9 dX8_dropDead_52 ?_
        have hw := hw _ rfl
        refine r_iinc (v := x3 + (1 : Int32)) (L' := [(3, .int (x3 + (1 : Int32))), (4, .int (it_ M (rf_ M a1 0) (ix_ x3))), (0, .ref a0), (1, .ref a1), (2, .int x2)]) g dX8_dropDead_53 4 rfl rfl (by decide) rfl ?_
        refine r_goto (tgt := 4) g dX8_dropDead_56 (by decide) ?_
        exact V_.sub (ih E x2 (x3 + (1 : Int32)) _ hw hp0 hp1 (fun e9_2 M9 hE9 hN9 => kE e9_2 M9 hE9 (Nk_.tr (Nk_.rf _) hN9))) [2, 3, 4, 0] rfl
      · have hw := hw.2 hc7
        refine r_aload_n g dX8_dropDead_30 rfl 2 rfl ?_
        refine r_gtR (C := RX0) (T := TX0) (N := 4) g (ci := 1) rfl tc_X0 hp1 0 (by decide) tw_141 (fun _ h => h) rfl (k_ne hk2 (by decide)) dX8_dropDead_31 ?_
        refine r_iload_n g dX8_dropDead_34 rfl 3 rfl ?_
        refine r_iload g dX8_dropDead_35 0 rfl ?_
        obtain ⟨hi11, hw⟩ := hw
        refine r_iast g hk2 hi11 dX8_dropDead_37 ?_
        have hw := hw _ rfl
        refine r_iinc (v := x2 + (1 : Int32)) (L' := [(2, .int (x2 + (1 : Int32))), (4, .int (it_ M (rf_ M a1 0) (ix_ x3))), (0, .ref a0), (1, .ref a1), (3, .int x3)]) g dX8_dropDead_38 3 rfl rfl (by decide) rfl ?_
        refine r_goto (tgt := 53) g dX8_dropDead_41 (by decide) ?_
        refine r_iinc (v := x3 + (1 : Int32)) (L' := [(3, .int (x3 + (1 : Int32))), (2, .int (x2 + (1 : Int32))), (4, .int (it_ M (rf_ M a1 0) (ix_ x3))), (0, .ref a0), (1, .ref a1)]) g dX8_dropDead_53 4 rfl rfl (by decide) rfl ?_
        refine r_goto (tgt := 4) g dX8_dropDead_56 (by decide) ?_
        exact V_.sub (ih E (x2 + (1 : Int32)) (x3 + (1 : Int32)) _ hw hp0 hp1 (fun e9_2 M9 hE9 hN9 => kE e9_2 M9 hE9 (Nk_.tr (Nk_.rf _) hN9))) [3, 4, 1, 0] rfl
set_option maxHeartbeats 4000000 in
set_option maxRecDepth 100000 in
theorem mt_X8_dropDead {l : Launch} {D : Dd_} {M : Mm} {a0 : Nat} {a1 : Nat} {K : Mm → Prop} (hw : wp_X8_dropDead a0 a1 M K) (sz : Nat) : Met l yX8_dropDead (Cond.code yX8_dropDead cX8_dropDead 5 none :: tbG_) rmX8_dropDead (cPc_ D M sz [.ref a0, .ref a1]) (va_Qv (fun M' => K M') (cB_ D M sz) (Aw_ M sz)) 0 0 (Aw_ M sz) := by
  refine ofV (by decide) (Nat.le_of_ble_eq_true rfl) ?_
  intro p e s m below meth c g hr hin hsz
  subst hsz
  obtain ⟨hp0, hp1, hw⟩ := hw
  refine r_iconst (v := 0) g dX8_dropDead_0 (by decide) ?_
  refine r_istore_n (L' := [(2, .int (0 : Int32)), (0, .ref a0), (1, .ref a1)]) g dX8_dropDead_1 rfl (by decide) rfl ?_
  refine r_iconst (v := 0) g dX8_dropDead_2 (by decide) ?_
  refine r_istore_n (L' := [(3, .int (0 : Int32)), (2, .int (0 : Int32)), (0, .ref a0), (1, .ref a1)]) g dX8_dropDead_3 rfl (by decide) rfl ?_
  obtain ⟨n13, hw⟩ := hw
  refine V_.sub (lo_X8_dropDead_4 g hr rfl n13 _ (0 : Int32) (0 : Int32) _ hw hp0 hp1 (fun xv16 M14 hE hN15 => ?_)) [2, 3, 1, 0] rfl
  have hw := hE hN15
  have hk17 := Nk_.k hN15 hp1 (by decide)
  have hT18 := Nk_.tr (Nk_.rf _) hN15
  refine r_aload_n g dX8_dropDead_59 rfl 0 rfl ?_
  refine r_iload_n g dX8_dropDead_60 rfl 1 rfl ?_
  refine r_ptI (C := RX0) (T := TX0) (N := 4) g (ci := 1) rfl tc_X0 tyX0 tyX0_ok nmX0 hk17 2 (by decide) tw_149 (fun _ h => h) rfl rfl rfl rfl dX8_dropDead_61 ?_
  have hw := hw _ rfl
  exact r_vret g hr (Nat.le_of_ble_eq_true rfl) (Nat.le_of_ble_eq_true rfl) rfl dX8_dropDead_64 hw
def rmX8_numberFrom : Room := { frames := 3, cells := 0, slots := 0, locals := 64 }
theorem hy_X8_numberFrom : yX8_numberFrom.cls ≠ "java/lang/invoke/MethodHandle" ∧ yX8_numberFrom.cls ≠ "java/lang/invoke/VarHandle" ∧ (parseMethodDescriptor yX8_numberFrom.desc).map (fun d => d.parameters.length) = some 1 := by decide +kernel
def lp_X8_numberFrom_28 (a0 : Nat) (x2 : Int32) (a3 : Nat) (K : Mm → Prop) (E : Mm → Prop) : Nat → Int32 → Mm → Prop
  | 0, _, _ => False
  | n + 1, x4, M => (((it_ M a3 2) ≤ x4 → E M) ∧ (¬ (it_ M a3 2) ≤ x4 → (kd_ M (rf_ M a0 3) = 20 ∧ (kd_ M (rf_ M a3 0) = 20 ∧ (vp_in x4 (ln_ M (rf_ M a3 0)) ∧ (vp_in (it_ M (rf_ M a3 0) (ix_ x4)) (ln_ M (rf_ M a0 3)) ∧ (∀ M23, M23 = sI_ M (rf_ M a0 3) (ix_ (it_ M (rf_ M a3 0) (ix_ x4))) x2 → lp_X8_numberFrom_28 a0 x2 a3 K E n (x4 + (1 : Int32)) M23)))))))
def lp_X8_numberFrom_2 (a0 : Nat) (K : Mm → Prop) (E : Mm → Prop) : Nat → Int32 → Mm → Prop
  | 0, _, _ => False
  | n + 1, x2, M => (kd_ M (rf_ M a0 1) = 1 ∧ (wp_Jx4a65c_size_8abf5 (rf_ M a0 1) M (fun M2 r3 => Nk_ M M2 → ((r3 ≤ x2 → E M2) ∧ (¬ r3 ≤ x2 → (kd_ M2 (rf_ M2 a0 1) = 1 ∧ (wp_Jx4a65c_get_915e3 (rf_ M2 a0 1) x2 M2 (fun M10 r11 => Nk_ M2 M10 → (kd_ M10 r11 = 2 ∧ (∃ n24 : Nat, lp_X8_numberFrom_28 a0 x2 r11 K (fun  M25 => Nk_ M10 M25 → lp_X8_numberFrom_2 a0 K E n (x2 + (1 : Int32)) M25) n24 (0 : Int32) M10))))))))))
def wp_X8_numberFrom (a0 : Nat) (x1 : Int32) (M : Mm) (K : Mm → Prop) : Prop := kd_ M a0 = 10 ∧ (∃ n29 : Nat, lp_X8_numberFrom_2 a0 K (fun  M30 => Nk_ M M30 → K M30) n29 x1 M)
set_option maxHeartbeats 4000000 in
set_option maxRecDepth 100000 in
theorem lo_X8_numberFrom_28 {p : Program} {l : Launch} {e : Env} {s : State} {m : MethodId} {args : Array Value} {below : List Frame} {meth : Method} {c : Code} {D : Dd_} {M0 : Mm} {Q : State → Prop} {K : Mm → Prop} (g : G_ p s m args meth c cX8_numberFrom 5 RX8 D M0) (hr : meth.sig.returnType = none) (hQ : Q = MQ below (va_Qv (fun M' => K M') (cB_ D M0 s.heap.size) (Aw_ M0 s.heap.size)) args s 0 0 (Aw_ M0 s.heap.size)) {a0 : Nat} {x2 : Int32} {a3 : Nat} : ∀ (n : Nat) (E : Mm → Prop) (x4 : Int32) (M : Mm), lp_X8_numberFrom_28 a0 x2 a3 K E n x4 M → kd_ M a0 = 10 → kd_ M a3 = 2 → (∀  (M' : Mm), E  M' → Nk_ M M' → V_ p l e rmX8_numberFrom s m args below meth c 5 D M0 Q 56 [(0, .ref a0), (2, .int x2)] [] M' 0 0) → V_ p l e rmX8_numberFrom s m args below meth c 5 D M0 Q 28 [(0, .ref a0), (2, .int x2), (3, .ref a3), (4, .int x4)] [] M 0 0 := by
  intro n
  induction n with
  | zero =>
    intro E x4 M hw
    exact hw.elim
  | succ n ih =>
    intro E x4 M hw hp0 hp3 kE
    refine r_iload g dX8_numberFrom_28 3 rfl ?_
    refine r_aload_n g dX8_numberFrom_30 rfl 2 rfl ?_
    refine r_gt (C := RX0) (T := TX0) (N := 4) g (ci := 1) rfl tc_X0 hp3 2 (by decide) tw_149 (fun _ h => h) rfl dX8_numberFrom_31 ?_
    refine r_icmp_ge (tgt := 56) g dX8_numberFrom_34 (by decide) (fun hc18 => ?_) (fun hc18 => ?_)
    · have hw := hw.1 hc18
      exact V_.sub (kE  _ hw (Nk_.rf _)) [0, 1] rfl
    · have hw := hw.2 hc18
      refine r_aload_n g dX8_numberFrom_37 rfl 0 rfl ?_
      obtain ⟨hk19, hw⟩ := hw
      refine r_gtR (C := RX8) (T := TX8) (N := 11) g (ci := 9) rfl tc_X8 hp0 3 (by decide) tw_172 (fun _ h => h) rfl (k_ne hk19 (by decide)) dX8_numberFrom_38 ?_
      refine r_aload_n g dX8_numberFrom_41 rfl 2 rfl ?_
      obtain ⟨hk20, hw⟩ := hw
      refine r_gtR (C := RX0) (T := TX0) (N := 4) g (ci := 1) rfl tc_X0 hp3 0 (by decide) tw_141 (fun _ h => h) rfl (k_ne hk20 (by decide)) dX8_numberFrom_42 ?_
      refine r_iload g dX8_numberFrom_45 3 rfl ?_
      obtain ⟨hi21, hw⟩ := hw
      refine r_iald g (Or.inl hk20) hi21 dX8_numberFrom_47 ?_
      refine r_iload_n g dX8_numberFrom_48 rfl 1 rfl ?_
      obtain ⟨hi22, hw⟩ := hw
      refine r_iast g hk19 hi22 dX8_numberFrom_49 ?_
      have hw := hw _ rfl
      refine r_iinc (v := x4 + (1 : Int32)) (L' := [(4, .int (x4 + (1 : Int32))), (0, .ref a0), (2, .int x2), (3, .ref a3)]) g dX8_numberFrom_50 3 rfl rfl (by decide) rfl ?_
      refine r_goto (tgt := 28) g dX8_numberFrom_53 (by decide) ?_
      exact V_.sub (ih E (x4 + (1 : Int32)) _ hw hp0 hp3 (fun  M9 hE9 hN9 => kE  M9 hE9 (Nk_.tr (Nk_.rf _) hN9))) [1, 2, 3, 0] rfl
set_option maxHeartbeats 4000000 in
set_option maxRecDepth 100000 in
theorem lo_X8_numberFrom_2 {p : Program} {l : Launch} {e : Env} {s : State} {m : MethodId} {args : Array Value} {below : List Frame} {meth : Method} {c : Code} {D : Dd_} {M0 : Mm} {Q : State → Prop} {K : Mm → Prop} (g : G_ p s m args meth c cX8_numberFrom 5 RX8 D M0) (hr : meth.sig.returnType = none) (hQ : Q = MQ below (va_Qv (fun M' => K M') (cB_ D M0 s.heap.size) (Aw_ M0 s.heap.size)) args s 0 0 (Aw_ M0 s.heap.size)) {a0 : Nat} : ∀ (n : Nat) (E : Mm → Prop) (x2 : Int32) (M : Mm), lp_X8_numberFrom_2 a0 K E n x2 M → kd_ M a0 = 10 → (∀  (M' : Mm), E  M' → Nk_ M M' → V_ p l e rmX8_numberFrom s m args below meth c 5 D M0 Q 62 [] [] M' 0 0) → V_ p l e rmX8_numberFrom s m args below meth c 5 D M0 Q 2 [(0, .ref a0), (2, .int x2)] [] M 0 0 := by
  intro n
  induction n with
  | zero =>
    intro E x2 M hw
    exact hw.elim
  | succ n ih =>
    intro E x2 M hw hp0 kE
    refine r_iload_n g dX8_numberFrom_2 rfl 1 rfl ?_
    refine r_aload_n g dX8_numberFrom_3 rfl 0 rfl ?_
    obtain ⟨hk1, hw⟩ := hw
    refine r_gtR (C := RX8) (T := TX8) (N := 11) g (ci := 9) rfl tc_X8 hp0 1 (by decide) tw_166 (fun _ h => h) rfl (k_ne hk1 (by decide)) dX8_numberFrom_4 ?_
    refine r_callVi (As := []) g (fun sz => mt_Jx4a65c_size_8abf5 hw sz) tw_636 tw_360 tw_5 tw_358 tw_359 (ci := 0) (T := TJx4a65c) (N := 3) rfl hk1 hy_Jx4a65c_size_8abf5 ⟨rfl, rfl⟩ (Nat.le_of_ble_eq_true rfl) (Nat.le_of_ble_eq_true rfl) (Nat.le_of_ble_eq_true rfl) (Nat.le_of_ble_eq_true rfl) (Nat.le_of_ble_eq_true rfl) rfl dX8_numberFrom_7 (fun M2 r3 hK4 hN5 => ?_)
    have hw := hK4 hN5
    have hk6 := Nk_.k hN5 hp0 (by decide)
    have hT7 := Nk_.tr (Nk_.rf _) hN5
    refine r_icmp_ge (tgt := 62) g dX8_numberFrom_10 (by decide) (fun hc8 => ?_) (fun hc8 => ?_)
    · have hw := hw.1 hc8
      exact V_.sub (kE  _ hw hT7) [] rfl
    · have hw := hw.2 hc8
      refine r_aload_n g dX8_numberFrom_13 rfl 0 rfl ?_
      obtain ⟨hk9, hw⟩ := hw
      refine r_gtR (C := RX8) (T := TX8) (N := 11) g (ci := 9) rfl tc_X8 hk6 1 (by decide) tw_166 (fun _ h => h) rfl (k_ne hk9 (by decide)) dX8_numberFrom_14 ?_
      refine r_iload_n g dX8_numberFrom_17 rfl 1 rfl ?_
      refine r_callVr (As := [.int x2]) g (fun sz => mt_Jx4a65c_get_915e3 hw sz) tw_637 tw_543 tw_5 tw_541 tw_542 (ci := 0) (T := TJx4a65c) (N := 3) rfl hk9 hy_Jx4a65c_get_915e3 ⟨rfl, rfl⟩ (Nat.le_of_ble_eq_true rfl) (Nat.le_of_ble_eq_true rfl) (Nat.le_of_ble_eq_true rfl) (Nat.le_of_ble_eq_true rfl) (Nat.le_of_ble_eq_true rfl) rfl dX8_numberFrom_18 (fun M10 r11 hK12 h14 hN13 => ?_)
      have hw := hK12 hN13
      have hk15 := Nk_.k hN13 hk6 (by decide)
      have hT16 := Nk_.tr hT7 hN13
      obtain ⟨hk17, hw⟩ := hw
      refine r_cast (C := RX0) (T := TX0) (N := 4) g (ci := 1) rfl tw_83 hk17 dX8_numberFrom_21 ?_
      refine r_astore_n (L' := [(3, .ref r11), (0, .ref a0), (2, .int x2)]) g dX8_numberFrom_24 rfl (by decide) rfl ?_
      refine r_iconst (v := 0) g dX8_numberFrom_25 (by decide) ?_
      refine r_istore (L' := [(4, .int (0 : Int32)), (3, .ref r11), (0, .ref a0), (2, .int x2)]) g dX8_numberFrom_26 (by decide) rfl ?_
      obtain ⟨n24, hw⟩ := hw
      refine V_.sub (lo_X8_numberFrom_28 g hr hQ n24 _ (0 : Int32) _ hw hk15 hk17 (fun  M25 hE hN26 => ?_)) [2, 3, 1, 0] rfl
      have hw := hE hN26
      have hk27 := Nk_.k hN26 hk15 (by decide)
      have hT28 := Nk_.tr hT16 hN26
      refine r_iinc (v := x2 + (1 : Int32)) (L' := [(2, .int (x2 + (1 : Int32))), (0, .ref a0)]) g dX8_numberFrom_56 1 rfl rfl (by decide) rfl ?_
      refine r_goto (tgt := 2) g dX8_numberFrom_59 (by decide) ?_
      exact V_.sub (ih E (x2 + (1 : Int32)) _ hw hk27 (fun  M9 hE9 hN9 => kE  M9 hE9 (Nk_.tr hT28 hN9))) [1, 0] rfl
set_option maxHeartbeats 4000000 in
set_option maxRecDepth 100000 in
theorem mt_X8_numberFrom {l : Launch} {D : Dd_} {M : Mm} {a0 : Nat} {x1 : Int32} {K : Mm → Prop} (hw : wp_X8_numberFrom a0 x1 M K) (sz : Nat) : Met l yX8_numberFrom (Cond.code yX8_numberFrom cX8_numberFrom 5 none :: tbG_) rmX8_numberFrom (cPc_ D M sz [.ref a0, .int x1]) (va_Qv (fun M' => K M') (cB_ D M sz) (Aw_ M sz)) 0 0 (Aw_ M sz) := by
  refine ofV (by decide) (Nat.le_of_ble_eq_true rfl) ?_
  intro p e s m below meth c g hr hin hsz
  subst hsz
  obtain ⟨hp0, hw⟩ := hw
  refine r_iload_n g dX8_numberFrom_0 rfl 1 rfl ?_
  refine r_istore_n (L' := [(2, .int x1), (0, .ref a0), (1, .int x1)]) g dX8_numberFrom_1 rfl (by decide) rfl ?_
  obtain ⟨n29, hw⟩ := hw
  refine V_.sub (lo_X8_numberFrom_2 g hr rfl n29 _ x1 _ hw hp0 (fun  M30 hE hN31 => ?_)) [1, 0] rfl
  have hw := hE hN31
  have hT32 := Nk_.tr (Nk_.rf _) hN31
  exact r_vret g hr (Nat.le_of_ble_eq_true rfl) (Nat.le_of_ble_eq_true rfl) rfl dX8_numberFrom_62 hw
def rmX8_removeFrame : Room := { frames := 4, cells := 0, slots := 0, locals := 106 }
theorem hy_X8_removeFrame : yX8_removeFrame.cls ≠ "java/lang/invoke/MethodHandle" ∧ yX8_removeFrame.cls ≠ "java/lang/invoke/VarHandle" ∧ (parseMethodDescriptor yX8_removeFrame.desc).map (fun d => d.parameters.length) = some 1 := by decide +kernel
def wp_X8_removeFrame (a0 : Nat) (x1 : Int32) (M : Mm) (K : Mm → Prop) : Prop := kd_ M a0 = 10 ∧ (kd_ M (rf_ M a0 1) = 1 ∧ (wp_Jx4a65c_remove_915e3 (rf_ M a0 1) x1 M (fun M2 r3 => Nk_ M M2 → (wp_X8_numberFrom a0 x1 M2 (fun M9 => Nk_ M2 M9 → K M9)))))
set_option maxHeartbeats 4000000 in
set_option maxRecDepth 100000 in
theorem mt_X8_removeFrame {l : Launch} {D : Dd_} {M : Mm} {a0 : Nat} {x1 : Int32} {K : Mm → Prop} (hw : wp_X8_removeFrame a0 x1 M K) (sz : Nat) : Met l yX8_removeFrame (Cond.code yX8_removeFrame cX8_removeFrame 2 none :: tbG_) rmX8_removeFrame (cPc_ D M sz [.ref a0, .int x1]) (va_Qv (fun M' => K M') (cB_ D M sz) (Aw_ M sz)) 0 0 (Aw_ M sz) := by
  refine ofV (by decide) (Nat.le_of_ble_eq_true rfl) ?_
  intro p e s m below meth c g hr hin hsz
  subst hsz
  obtain ⟨hp0, hw⟩ := hw
  refine r_aload_n g dX8_removeFrame_0 rfl 0 rfl ?_
  obtain ⟨hk1, hw⟩ := hw
  refine r_gtR (C := RX8) (T := TX8) (N := 11) g (ci := 9) rfl tc_X8 hp0 1 (by decide) tw_166 (fun _ h => h) rfl (k_ne hk1 (by decide)) dX8_removeFrame_1 ?_
  refine r_iload_n g dX8_removeFrame_4 rfl 1 rfl ?_
  refine r_callVr (As := [.int x1]) g (fun sz => mt_Jx4a65c_remove_915e3 hw sz) tw_859 tw_862 tw_5 tw_860 tw_861 (ci := 0) (T := TJx4a65c) (N := 3) rfl hk1 hy_Jx4a65c_remove_915e3 ⟨rfl, rfl⟩ (Nat.le_of_ble_eq_true rfl) (Nat.le_of_ble_eq_true rfl) (Nat.le_of_ble_eq_true rfl) (Nat.le_of_ble_eq_true rfl) (Nat.le_of_ble_eq_true rfl) rfl dX8_removeFrame_5 (fun M2 r3 hK4 h6 hN5 => ?_)
  have hw := hK4 hN5
  have hk7 := Nk_.k hN5 hp0 (by decide)
  have hT8 := Nk_.tr (Nk_.rf _) hN5
  refine r_pop g dX8_removeFrame_8 rfl ?_
  refine r_aload_n g dX8_removeFrame_9 rfl 0 rfl ?_
  refine r_iload_n g dX8_removeFrame_10 rfl 1 rfl ?_
  refine r_callVv (As := [.int x1]) g (fun sz => mt_X8_numberFrom hw sz) tw_812 tw_815 tw_2 tw_814 tp_24 (ci := 9) (T := TX8) (N := 11) rfl hk7 hy_X8_numberFrom ⟨rfl, rfl⟩ (Nat.le_of_ble_eq_true rfl) (Nat.le_of_ble_eq_true rfl) (Nat.le_of_ble_eq_true rfl) (Nat.le_of_ble_eq_true rfl) (Nat.le_of_ble_eq_true rfl) rfl dX8_removeFrame_11 (fun M9 hK10 hN11 => ?_)
  have hw := hK10 hN11
  have hk12 := Nk_.k hN11 hk7 (by decide)
  have hT13 := Nk_.tr hT8 hN11
  exact r_vret g hr (Nat.le_of_ble_eq_true rfl) (Nat.le_of_ble_eq_true rfl) rfl dX8_removeFrame_14 hw
def rmX8_sealBuffer : Room := { frames := 7, cells := 20, slots := 476, locals := 191 }
theorem hy_X8_sealBuffer : yX8_sealBuffer.cls ≠ "java/lang/invoke/MethodHandle" ∧ yX8_sealBuffer.cls ≠ "java/lang/invoke/VarHandle" ∧ (parseMethodDescriptor yX8_sealBuffer.desc).map (fun d => d.parameters.length) = some 0 := by decide +kernel
def wp_X8_sealBuffer (a0 : Nat) (M : Mm) (K : Mm → Int32 → Prop) : Prop := kd_ M a0 = 10 ∧ (kd_ M (rf_ M a0 5) = 2 ∧ (wp_X8_dropDead a0 (rf_ M a0 5) M (fun M2 => Nk_ M M2 → (kd_ M2 (rf_ M2 a0 5) = 2 ∧ (((it_ M2 (rf_ M2 a0 5) 2) ≤ 0 → (K M2 (it_ M2 (rf_ M2 a0 5) 2))) ∧ (¬ (it_ M2 (rf_ M2 a0 5) 2) ≤ 0 → (kd_ M2 (rf_ M2 a0 0) = 1 ∧ (kd_ M2 (rf_ M2 a0 10) = 20 ∧ (kd_ M2 (rf_ M2 a0 4) = 9 ∧ (wp_X0_reckon (rf_ M2 a0 5) (rf_ M2 a0 0) (rf_ M2 a0 10) (rf_ M2 a0 4) M2 (fun M12 => Nk_ M2 M12 → (kd_ M12 (rf_ M12 a0 1) = 1 ∧ (kd_ M12 (rf_ M12 a0 5) = 2 ∧ (wp_Jx4a65c_add_9ea2d (rf_ M12 a0 1) (rf_ M12 a0 5) M12 (fun M19 r20 => Nk_ M12 M19 → bz_ r20 → (kd_ M19 (rf_ M19 a0 1) = 1 ∧ (wp_Jx4a65c_size_8abf5 (rf_ M19 a0 1) M19 (fun M27 r28 => Nk_ M19 M27 → (wp_X8_numberFrom a0 (r28 - (1 : Int32)) M27 (fun M33 => Nk_ M27 M33 → (∀ q38, q38 ≠ 0 → kd_ M33 q38 = 0 → (∀ M41, M41 = nw_ M33 q38 2 0 → (wp_X0_init q38 M41 (fun M45 => Nk_ M41 M45 → (∀ M51, M51 = sR_ M45 a0 5 q38 → (K M51 (it_ M2 (rf_ M2 a0 5) 2)))))))))))))))))))))))))))
set_option maxHeartbeats 4000000 in
set_option maxRecDepth 100000 in
theorem mt_X8_sealBuffer {l : Launch} {D : Dd_} {M : Mm} {a0 : Nat} {K : Mm → Int32 → Prop} (hw : wp_X8_sealBuffer a0 M K) (sz : Nat) : Met l yX8_sealBuffer (Cond.code yX8_sealBuffer cX8_sealBuffer 2 (some .int) :: tbG_) rmX8_sealBuffer (cPc_ D M sz [.ref a0]) (va_Qi (fun r M' => K M' r) (cB_ D M sz) (Aw_ M sz)) 20 476 (Aw_ M sz) := by
  refine ofV (by decide) (Nat.le_of_ble_eq_true rfl) ?_
  intro p e s m below meth c g hr hin hsz
  subst hsz
  obtain ⟨hp0, hw⟩ := hw
  refine r_aload_n g dX8_sealBuffer_0 rfl 0 rfl ?_
  refine r_aload_n g dX8_sealBuffer_1 rfl 0 rfl ?_
  obtain ⟨hk1, hw⟩ := hw
  refine r_gtR (C := RX8) (T := TX8) (N := 11) g (ci := 9) rfl tc_X8 hp0 5 (by decide) tw_176 (fun _ h => h) rfl (k_ne hk1 (by decide)) dX8_sealBuffer_2 ?_
  refine r_callVv (As := [.ref (rf_ M a0 5)]) g (fun sz => mt_X8_dropDead hw sz) tw_754 tw_757 tw_2 tw_756 tp_19 (ci := 9) (T := TX8) (N := 11) rfl hp0 hy_X8_dropDead ⟨rfl, rfl⟩ (Nat.le_of_ble_eq_true rfl) (Nat.le_of_ble_eq_true rfl) (Nat.le_of_ble_eq_true rfl) (Nat.le_of_ble_eq_true rfl) (Nat.le_of_ble_eq_true rfl) rfl dX8_sealBuffer_5 (fun M2 hK3 hN4 => ?_)
  have hw := hK3 hN4
  have hk5 := Nk_.k hN4 hp0 (by decide)
  have hT6 := Nk_.tr (Nk_.rf _) hN4
  refine r_aload_n g dX8_sealBuffer_8 rfl 0 rfl ?_
  obtain ⟨hk7, hw⟩ := hw
  refine r_gtR (C := RX8) (T := TX8) (N := 11) g (ci := 9) rfl tc_X8 hk5 5 (by decide) tw_176 (fun _ h => h) rfl (k_ne hk7 (by decide)) dX8_sealBuffer_9 ?_
  refine r_gt (C := RX0) (T := TX0) (N := 4) g (ci := 1) rfl tc_X0 hk7 2 (by decide) tw_149 (fun _ h => h) rfl dX8_sealBuffer_12 ?_
  refine r_istore_n (L' := [(1, .int (it_ M2 (rf_ M2 a0 5) 2)), (0, .ref a0)]) g dX8_sealBuffer_15 rfl (by decide) rfl ?_
  refine r_iload_n g dX8_sealBuffer_16 rfl 0 rfl ?_
  refine r_if_le (tgt := 75) g dX8_sealBuffer_17 (by decide) (fun hc8 => ?_) (fun hc8 => ?_)
  · have hw := hw.1 hc8
    refine r_iload_n g dX8_sealBuffer_75 rfl 0 rfl ?_
    exact r_iret g hr (Nat.le_of_ble_eq_true rfl) (Nat.le_of_ble_eq_true rfl) rfl dX8_sealBuffer_76 hw
  · have hw := hw.2 hc8
    refine r_aload_n g dX8_sealBuffer_20 rfl 1 rfl ?_
    refine r_gtR (C := RX8) (T := TX8) (N := 11) g (ci := 9) rfl tc_X8 hk5 5 (by decide) tw_176 (fun _ h => h) rfl (k_ne hk7 (by decide)) dX8_sealBuffer_21 ?_
    refine r_aload_n g dX8_sealBuffer_24 rfl 1 rfl ?_
    obtain ⟨hk9, hw⟩ := hw
    refine r_gtR (C := RX8) (T := TX8) (N := 11) g (ci := 9) rfl tc_X8 hk5 0 (by decide) tw_163 (fun _ h => h) rfl (k_ne hk9 (by decide)) dX8_sealBuffer_25 ?_
    refine r_aload_n g dX8_sealBuffer_28 rfl 1 rfl ?_
    obtain ⟨hk10, hw⟩ := hw
    refine r_gtR (C := RX8) (T := TX8) (N := 11) g (ci := 9) rfl tc_X8 hk5 10 (by decide) tw_186 (fun _ h => h) rfl (k_ne hk10 (by decide)) dX8_sealBuffer_29 ?_
    refine r_aload_n g dX8_sealBuffer_32 rfl 1 rfl ?_
    obtain ⟨hk11, hw⟩ := hw
    refine r_gtR (C := RX8) (T := TX8) (N := 11) g (ci := 9) rfl tc_X8 hk5 4 (by decide) tw_174 (fun _ h => h) rfl (k_ne hk11 (by decide)) dX8_sealBuffer_33 ?_
    refine r_callVv (As := [.ref (rf_ M2 a0 0), .ref (rf_ M2 a0 10), .ref (rf_ M2 a0 4)]) g (fun sz => mt_X0_reckon hw sz) tw_758 tw_761 tw_7 tw_759 tw_760 (ci := 1) (T := TX0) (N := 4) rfl hk7 hy_X0_reckon ⟨rfl, rfl⟩ (Nat.le_of_ble_eq_true rfl) (Nat.le_of_ble_eq_true rfl) (Nat.le_of_ble_eq_true rfl) (Nat.le_of_ble_eq_true rfl) (Nat.le_of_ble_eq_true rfl) rfl dX8_sealBuffer_36 (fun M12 hK13 hN14 => ?_)
    have hw := hK13 hN14
    have hk15 := Nk_.k hN14 hk5 (by decide)
    have hT16 := Nk_.tr hT6 hN14
    refine r_aload_n g dX8_sealBuffer_39 rfl 1 rfl ?_
    obtain ⟨hk17, hw⟩ := hw
    refine r_gtR (C := RX8) (T := TX8) (N := 11) g (ci := 9) rfl tc_X8 hk15 1 (by decide) tw_166 (fun _ h => h) rfl (k_ne hk17 (by decide)) dX8_sealBuffer_40 ?_
    refine r_aload_n g dX8_sealBuffer_43 rfl 1 rfl ?_
    obtain ⟨hk18, hw⟩ := hw
    refine r_gtR (C := RX8) (T := TX8) (N := 11) g (ci := 9) rfl tc_X8 hk15 5 (by decide) tw_176 (fun _ h => h) rfl (k_ne hk18 (by decide)) dX8_sealBuffer_44 ?_
    refine r_callVz (As := [.ref (rf_ M12 a0 5)]) g (fun sz => mt_Jx4a65c_add_9ea2d hw sz) tw_811 tw_468 tw_5 tw_466 tw_467 (ci := 0) (T := TJx4a65c) (N := 3) rfl hk17 hy_Jx4a65c_add_9ea2d ⟨rfl, rfl⟩ (Nat.le_of_ble_eq_true rfl) (Nat.le_of_ble_eq_true rfl) (Nat.le_of_ble_eq_true rfl) (Nat.le_of_ble_eq_true rfl) (Nat.le_of_ble_eq_true rfl) rfl dX8_sealBuffer_47 (fun M19 r20 hK21 hb23 hN22 => ?_)
    have hw := hK21 hN22 hb23
    have hk24 := Nk_.k hN22 hk15 (by decide)
    have hT25 := Nk_.tr hT16 hN22
    refine r_pop g dX8_sealBuffer_50 rfl ?_
    refine r_aload_n g dX8_sealBuffer_51 rfl 1 rfl ?_
    refine r_aload_n g dX8_sealBuffer_52 rfl 1 rfl ?_
    obtain ⟨hk26, hw⟩ := hw
    refine r_gtR (C := RX8) (T := TX8) (N := 11) g (ci := 9) rfl tc_X8 hk24 1 (by decide) tw_166 (fun _ h => h) rfl (k_ne hk26 (by decide)) dX8_sealBuffer_53 ?_
    refine r_callVi (As := []) g (fun sz => mt_Jx4a65c_size_8abf5 hw sz) tw_636 tw_360 tw_5 tw_358 tw_359 (ci := 0) (T := TJx4a65c) (N := 3) rfl hk26 hy_Jx4a65c_size_8abf5 ⟨rfl, rfl⟩ (Nat.le_of_ble_eq_true rfl) (Nat.le_of_ble_eq_true rfl) (Nat.le_of_ble_eq_true rfl) (Nat.le_of_ble_eq_true rfl) (Nat.le_of_ble_eq_true rfl) rfl dX8_sealBuffer_56 (fun M27 r28 hK29 hN30 => ?_)
    have hw := hK29 hN30
    have hk31 := Nk_.k hN30 hk24 (by decide)
    have hT32 := Nk_.tr hT25 hN30
    refine r_iconst (v := 1) g dX8_sealBuffer_59 (by decide) ?_
    refine r_isub g dX8_sealBuffer_60 ?_
    refine r_callVv (As := [.int (r28 - (1 : Int32))]) g (fun sz => mt_X8_numberFrom hw sz) tw_812 tw_815 tw_2 tw_814 tp_24 (ci := 9) (T := TX8) (N := 11) rfl hk31 hy_X8_numberFrom ⟨rfl, rfl⟩ (Nat.le_of_ble_eq_true rfl) (Nat.le_of_ble_eq_true rfl) (Nat.le_of_ble_eq_true rfl) (Nat.le_of_ble_eq_true rfl) (Nat.le_of_ble_eq_true rfl) rfl dX8_sealBuffer_61 (fun M33 hK34 hN35 => ?_)
    have hw := hK34 hN35
    have hk36 := Nk_.k hN35 hk31 (by decide)
    have hT37 := Nk_.tr hT32 hN35
    refine r_aload_n g dX8_sealBuffer_64 rfl 1 rfl ?_
    refine r_new (ci := 1) (C := RX0) (T := TX0) (N := 4) g rfl tc_X0 tyX0 tyX0_ok tw_83 tw_84 tw_7 td_X0 (Nat.le_of_ble_eq_true rfl) (Nat.le_of_ble_eq_true rfl) dX8_sealBuffer_65 (fun q38 h39 hq40 => ?_)
    have hw := hw q38 h39 hq40 _ rfl
    have hk42 := Nk_.k (Nk_nw_ (c := 2) (n := 0) hq40) hk36 (by decide)
    have hT43 := Nk_.tr hT37 (Nk_nw_ (c := 2) (n := 0) hq40)
    have hk44 := kd_nq_ M33 q38 2 0
    refine r_dup g dX8_sealBuffer_68 rfl ?_
    refine r_callIv (As := []) g (fun sz => mt_X0_init hw sz) tw_85 tw_87 tw_7 tw_86 rfl hy_X0_init ⟨rfl, rfl⟩ (Nat.le_of_ble_eq_true rfl) (Nat.le_of_ble_eq_true rfl) (Nat.le_of_ble_eq_true rfl) (Nat.le_of_ble_eq_true rfl) (Nat.le_of_ble_eq_true rfl) rfl dX8_sealBuffer_69 (fun M45 hK46 hN47 => ?_)
    have hw := hK46 hN47
    have hk48 := Nk_.k hN47 hk42 (by decide)
    have hk49 := Nk_.k hN47 hk44 (by decide)
    have hT50 := Nk_.tr hT43 hN47
    refine r_ptRx (C := RX8) (T := TX8) (N := 11) g (ci := 9) rfl tc_X8 tyX8 tyX8_ok nmX8 hk48 5 (by decide) tw_176 (fun _ h => h) rfl rfl (k_ne hk49 (by decide)) rfl rfl dX8_sealBuffer_72 ?_
    have hw := hw _ rfl
    refine r_iload_n g dX8_sealBuffer_75 rfl 0 rfl ?_
    exact r_iret g hr (Nat.le_of_ble_eq_true rfl) (Nat.le_of_ble_eq_true rfl) rfl dX8_sealBuffer_76 hw
def rmX8_sealIfFull : Room := { frames := 8, cells := 20, slots := 476, locals := 212 }
theorem hy_X8_sealIfFull : yX8_sealIfFull.cls ≠ "java/lang/invoke/MethodHandle" ∧ yX8_sealIfFull.cls ≠ "java/lang/invoke/VarHandle" ∧ (parseMethodDescriptor yX8_sealIfFull.desc).map (fun d => d.parameters.length) = some 0 := by decide +kernel
def wp_X8_sealIfFull (a0 : Nat) (M : Mm) (K : Mm → Prop) : Prop := kd_ M a0 = 10 ∧ (kd_ M (rf_ M a0 5) = 2 ∧ (((it_ M (rf_ M a0 5) 2) < (it_ M a0 6) → K M) ∧ (¬ (it_ M (rf_ M a0 5) 2) < (it_ M a0 6) → (wp_X8_sealBuffer a0 M (fun M3 r4 => Nk_ M M3 → K M3)))))
set_option maxHeartbeats 4000000 in
set_option maxRecDepth 100000 in
theorem mt_X8_sealIfFull {l : Launch} {D : Dd_} {M : Mm} {a0 : Nat} {K : Mm → Prop} (hw : wp_X8_sealIfFull a0 M K) (sz : Nat) : Met l yX8_sealIfFull (Cond.code yX8_sealIfFull cX8_sealIfFull 1 none :: tbG_) rmX8_sealIfFull (cPc_ D M sz [.ref a0]) (va_Qv (fun M' => K M') (cB_ D M sz) (Aw_ M sz)) 20 476 (Aw_ M sz) := by
  refine ofV (by decide) (Nat.le_of_ble_eq_true rfl) ?_
  intro p e s m below meth c g hr hin hsz
  subst hsz
  obtain ⟨hp0, hw⟩ := hw
  refine r_aload_n g dX8_sealIfFull_0 rfl 0 rfl ?_
  obtain ⟨hk1, hw⟩ := hw
  refine r_gtR (C := RX8) (T := TX8) (N := 11) g (ci := 9) rfl tc_X8 hp0 5 (by decide) tw_176 (fun _ h => h) rfl (k_ne hk1 (by decide)) dX8_sealIfFull_1 ?_
  refine r_gt (C := RX0) (T := TX0) (N := 4) g (ci := 1) rfl tc_X0 hk1 2 (by decide) tw_149 (fun _ h => h) rfl dX8_sealIfFull_4 ?_
  refine r_aload_n g dX8_sealIfFull_7 rfl 0 rfl ?_
  refine r_gt (C := RX8) (T := TX8) (N := 11) g (ci := 9) rfl tc_X8 hp0 6 (by decide) tw_179 (fun _ h => h) rfl dX8_sealIfFull_8 ?_
  refine r_icmp_lt (tgt := 19) g dX8_sealIfFull_11 (by decide) (fun hc2 => ?_) (fun hc2 => ?_)
  · have hw := hw.1 hc2
    exact r_vret g hr (Nat.le_of_ble_eq_true rfl) (Nat.le_of_ble_eq_true rfl) rfl dX8_sealIfFull_19 hw
  · have hw := hw.2 hc2
    refine r_aload_n g dX8_sealIfFull_14 rfl 0 rfl ?_
    refine r_callVi (As := []) g (fun sz => mt_X8_sealBuffer hw sz) tw_750 tw_753 tw_2 tw_751 tw_752 (ci := 9) (T := TX8) (N := 11) rfl hp0 hy_X8_sealBuffer ⟨rfl, rfl⟩ (Nat.le_of_ble_eq_true rfl) (Nat.le_of_ble_eq_true rfl) (Nat.le_of_ble_eq_true rfl) (Nat.le_of_ble_eq_true rfl) (Nat.le_of_ble_eq_true rfl) rfl dX8_sealIfFull_15 (fun M3 r4 hK5 hN6 => ?_)
    have hw := hK5 hN6
    have hk7 := Nk_.k hN6 hp0 (by decide)
    have hT8 := Nk_.tr (Nk_.rf _) hN6
    refine r_pop g dX8_sealIfFull_18 rfl ?_
    exact r_vret g hr (Nat.le_of_ble_eq_true rfl) (Nat.le_of_ble_eq_true rfl) rfl dX8_sealIfFull_19 hw
def rmX8_clusterBy : Room := { frames := 5, cells := 0, slots := 0, locals := 127 }
theorem hy_X8_clusterBy : yX8_clusterBy.cls ≠ "java/lang/invoke/MethodHandle" ∧ yX8_clusterBy.cls ≠ "java/lang/invoke/VarHandle" ∧ (parseMethodDescriptor yX8_clusterBy.desc).map (fun d => d.parameters.length) = some 2 := by decide +kernel
def wp_X8_clusterBy (a0 : Nat) (x1 : Int32) (x2 : Int32) (M : Mm) (K : Mm → Int32 → Prop) : Prop := kd_ M a0 = 10 ∧ (kd_ M (rf_ M a0 1) = 1 ∧ (wp_Jx4a65c_get_915e3 (rf_ M a0 1) x1 M (fun M2 r3 => Nk_ M M2 → (kd_ M2 r3 = 2 ∧ (wp_X8_dropDead a0 r3 M2 (fun M10 => Nk_ M2 M10 → (((it_ M10 r3 2) = 0 → (wp_X8_removeFrame a0 x1 M10 (fun M46 => Nk_ M10 M46 → (K M46 (it_ M2 r3 3))))) ∧ (¬ (it_ M10 r3 2) = 0 → (kd_ M10 (rf_ M10 a0 4) = 9 ∧ (kd_ M10 (rf_ M10 r3 0) = 20 ∧ (kd_ M10 (rf_ M10 a0 0) = 1 ∧ (wp_Jx4a65c_get_915e3 (rf_ M10 a0 0) x2 M10 (fun M20 r21 => Nk_ M10 M20 → (kd_ M20 r21 = 3 ∧ (wp_X7_arrange (rf_ M10 a0 4) (rf_ M10 r3 0) (it_ M10 r3 2) r21 (0 : Int32) (1 : Int32) M20 (fun M31 => Nk_ M20 M31 → (kd_ M31 (rf_ M31 a0 0) = 1 ∧ (kd_ M31 (rf_ M31 a0 10) = 20 ∧ (kd_ M31 (rf_ M31 a0 4) = 9 ∧ (wp_X0_reckon r3 (rf_ M31 a0 0) (rf_ M31 a0 10) (rf_ M31 a0 4) M31 (fun M40 => Nk_ M31 M40 → (K M40 ((it_ M2 r3 3) - (it_ M40 r3 3))))))))))))))))))))))))
set_option maxHeartbeats 4000000 in
set_option maxRecDepth 100000 in
theorem mt_X8_clusterBy {l : Launch} {D : Dd_} {M : Mm} {a0 : Nat} {x1 : Int32} {x2 : Int32} {K : Mm → Int32 → Prop} (hw : wp_X8_clusterBy a0 x1 x2 M K) (sz : Nat) : Met l yX8_clusterBy (Cond.code yX8_clusterBy cX8_clusterBy 5 (some .int) :: tbG_) rmX8_clusterBy (cPc_ D M sz [.ref a0, .int x1, .int x2]) (va_Qi (fun r M' => K M' r) (cB_ D M sz) (Aw_ M sz)) 0 0 (Aw_ M sz) := by
  refine ofV (by decide) (Nat.le_of_ble_eq_true rfl) ?_
  intro p e s m below meth c g hr hin hsz
  subst hsz
  obtain ⟨hp0, hw⟩ := hw
  refine r_aload_n g dX8_clusterBy_0 rfl 0 rfl ?_
  obtain ⟨hk1, hw⟩ := hw
  refine r_gtR (C := RX8) (T := TX8) (N := 11) g (ci := 9) rfl tc_X8 hp0 1 (by decide) tw_166 (fun _ h => h) rfl (k_ne hk1 (by decide)) dX8_clusterBy_1 ?_
  refine r_iload_n g dX8_clusterBy_4 rfl 1 rfl ?_
  refine r_callVr (As := [.int x1]) g (fun sz => mt_Jx4a65c_get_915e3 hw sz) tw_637 tw_543 tw_5 tw_541 tw_542 (ci := 0) (T := TJx4a65c) (N := 3) rfl hk1 hy_Jx4a65c_get_915e3 ⟨rfl, rfl⟩ (Nat.le_of_ble_eq_true rfl) (Nat.le_of_ble_eq_true rfl) (Nat.le_of_ble_eq_true rfl) (Nat.le_of_ble_eq_true rfl) (Nat.le_of_ble_eq_true rfl) rfl dX8_clusterBy_5 (fun M2 r3 hK4 h6 hN5 => ?_)
  have hw := hK4 hN5
  have hk7 := Nk_.k hN5 hp0 (by decide)
  have hT8 := Nk_.tr (Nk_.rf _) hN5
  obtain ⟨hk9, hw⟩ := hw
  refine r_cast (C := RX0) (T := TX0) (N := 4) g (ci := 1) rfl tw_83 hk9 dX8_clusterBy_8 ?_
  refine r_astore_n (L' := [(3, .ref r3), (0, .ref a0), (1, .int x1), (2, .int x2)]) g dX8_clusterBy_11 rfl (by decide) rfl ?_
  refine r_aload_n g dX8_clusterBy_12 rfl 0 rfl ?_
  refine r_gt (C := RX0) (T := TX0) (N := 4) g (ci := 1) rfl tc_X0 hk9 3 (by decide) tw_152 (fun _ h => h) rfl dX8_clusterBy_13 ?_
  refine r_istore (L' := [(4, .int (it_ M2 r3 3)), (3, .ref r3), (0, .ref a0), (1, .int x1), (2, .int x2)]) g dX8_clusterBy_16 (by decide) rfl ?_
  refine r_aload_n g dX8_clusterBy_18 rfl 2 rfl ?_
  refine r_aload_n g dX8_clusterBy_19 rfl 1 rfl ?_
  refine r_callVv (As := [.ref r3]) g (fun sz => mt_X8_dropDead hw sz) tw_754 tw_757 tw_2 tw_756 tp_19 (ci := 9) (T := TX8) (N := 11) rfl hk7 hy_X8_dropDead ⟨rfl, rfl⟩ (Nat.le_of_ble_eq_true rfl) (Nat.le_of_ble_eq_true rfl) (Nat.le_of_ble_eq_true rfl) (Nat.le_of_ble_eq_true rfl) (Nat.le_of_ble_eq_true rfl) rfl dX8_clusterBy_20 (fun M10 hK11 hN12 => ?_)
  have hw := hK11 hN12
  have hk13 := Nk_.k hN12 hk9 (by decide)
  have hk14 := Nk_.k hN12 hk7 (by decide)
  have hT15 := Nk_.tr hT8 hN12
  refine r_aload_n g dX8_clusterBy_23 rfl 1 rfl ?_
  refine r_gt (C := RX0) (T := TX0) (N := 4) g (ci := 1) rfl tc_X0 hk13 2 (by decide) tw_149 (fun _ h => h) rfl dX8_clusterBy_24 ?_
  refine r_if_ne (tgt := 38) g dX8_clusterBy_27 (by decide) (fun hc16 => ?_) (fun hc16 => ?_)
  · have hw := hw.2 hc16
    refine r_aload_n g dX8_clusterBy_38 rfl 2 rfl ?_
    obtain ⟨hk17, hw⟩ := hw
    refine r_gtR (C := RX8) (T := TX8) (N := 11) g (ci := 9) rfl tc_X8 hk14 4 (by decide) tw_174 (fun _ h => h) rfl (k_ne hk17 (by decide)) dX8_clusterBy_39 ?_
    refine r_aload_n g dX8_clusterBy_42 rfl 1 rfl ?_
    obtain ⟨hk18, hw⟩ := hw
    refine r_gtR (C := RX0) (T := TX0) (N := 4) g (ci := 1) rfl tc_X0 hk13 0 (by decide) tw_141 (fun _ h => h) rfl (k_ne hk18 (by decide)) dX8_clusterBy_43 ?_
    refine r_aload_n g dX8_clusterBy_46 rfl 1 rfl ?_
    refine r_gt (C := RX0) (T := TX0) (N := 4) g (ci := 1) rfl tc_X0 hk13 2 (by decide) tw_149 (fun _ h => h) rfl dX8_clusterBy_47 ?_
    refine r_aload_n g dX8_clusterBy_50 rfl 2 rfl ?_
    obtain ⟨hk19, hw⟩ := hw
    refine r_gtR (C := RX8) (T := TX8) (N := 11) g (ci := 9) rfl tc_X8 hk14 0 (by decide) tw_163 (fun _ h => h) rfl (k_ne hk19 (by decide)) dX8_clusterBy_51 ?_
    refine r_iload_n g dX8_clusterBy_54 rfl 4 rfl ?_
    refine r_callVr (As := [.int x2]) g (fun sz => mt_Jx4a65c_get_915e3 hw sz) tw_637 tw_543 tw_5 tw_541 tw_542 (ci := 0) (T := TJx4a65c) (N := 3) rfl hk19 hy_Jx4a65c_get_915e3 ⟨rfl, rfl⟩ (Nat.le_of_ble_eq_true rfl) (Nat.le_of_ble_eq_true rfl) (Nat.le_of_ble_eq_true rfl) (Nat.le_of_ble_eq_true rfl) (Nat.le_of_ble_eq_true rfl) rfl dX8_clusterBy_55 (fun M20 r21 hK22 h24 hN23 => ?_)
    have hw := hK22 hN23
    have hk25 := Nk_.k hN23 hk13 (by decide)
    have hk26 := Nk_.k hN23 hk14 (by decide)
    have hk27 := Nk_.k hN23 hk18 (by decide)
    have hk28 := Nk_.k hN23 hk17 (by decide)
    have hT29 := Nk_.tr hT15 hN23
    obtain ⟨hk30, hw⟩ := hw
    refine r_cast (C := RX1) (T := TX1) (N := 5) g (ci := 2) rfl tw_638 hk30 dX8_clusterBy_58 ?_
    refine r_iconst (v := 0) g dX8_clusterBy_61 (by decide) ?_
    refine r_iconst (v := 1) g dX8_clusterBy_62 (by decide) ?_
    refine r_callVv (As := [.ref (rf_ M10 r3 0), .int (it_ M10 r3 2), .ref r21, .int (0 : Int32), .int (1 : Int32)]) g (fun sz => mt_X7_arrange hw sz) tw_868 tw_769 tw_6 tw_767 tw_768 (ci := 8) (T := TX7) (N := 2) rfl hk28 hy_X7_arrange ⟨rfl, rfl⟩ (Nat.le_of_ble_eq_true rfl) (Nat.le_of_ble_eq_true rfl) (Nat.le_of_ble_eq_true rfl) (Nat.le_of_ble_eq_true rfl) (Nat.le_of_ble_eq_true rfl) rfl dX8_clusterBy_63 (fun M31 hK32 hN33 => ?_)
    have hw := hK32 hN33
    have hk34 := Nk_.k hN33 hk25 (by decide)
    have hk35 := Nk_.k hN33 hk26 (by decide)
    have hT36 := Nk_.tr hT29 hN33
    refine r_aload_n g dX8_clusterBy_66 rfl 1 rfl ?_
    refine r_aload_n g dX8_clusterBy_67 rfl 2 rfl ?_
    obtain ⟨hk37, hw⟩ := hw
    refine r_gtR (C := RX8) (T := TX8) (N := 11) g (ci := 9) rfl tc_X8 hk35 0 (by decide) tw_163 (fun _ h => h) rfl (k_ne hk37 (by decide)) dX8_clusterBy_68 ?_
    refine r_aload_n g dX8_clusterBy_71 rfl 2 rfl ?_
    obtain ⟨hk38, hw⟩ := hw
    refine r_gtR (C := RX8) (T := TX8) (N := 11) g (ci := 9) rfl tc_X8 hk35 10 (by decide) tw_186 (fun _ h => h) rfl (k_ne hk38 (by decide)) dX8_clusterBy_72 ?_
    refine r_aload_n g dX8_clusterBy_75 rfl 2 rfl ?_
    obtain ⟨hk39, hw⟩ := hw
    refine r_gtR (C := RX8) (T := TX8) (N := 11) g (ci := 9) rfl tc_X8 hk35 4 (by decide) tw_174 (fun _ h => h) rfl (k_ne hk39 (by decide)) dX8_clusterBy_76 ?_
    refine r_callVv (As := [.ref (rf_ M31 a0 0), .ref (rf_ M31 a0 10), .ref (rf_ M31 a0 4)]) g (fun sz => mt_X0_reckon hw sz) tw_758 tw_761 tw_7 tw_759 tw_760 (ci := 1) (T := TX0) (N := 4) rfl hk34 hy_X0_reckon ⟨rfl, rfl⟩ (Nat.le_of_ble_eq_true rfl) (Nat.le_of_ble_eq_true rfl) (Nat.le_of_ble_eq_true rfl) (Nat.le_of_ble_eq_true rfl) (Nat.le_of_ble_eq_true rfl) rfl dX8_clusterBy_79 (fun M40 hK41 hN42 => ?_)
    have hw := hK41 hN42
    have hk43 := Nk_.k hN42 hk34 (by decide)
    have hk44 := Nk_.k hN42 hk35 (by decide)
    have hT45 := Nk_.tr hT36 hN42
    refine r_iload g dX8_clusterBy_82 0 rfl ?_
    refine r_aload_n g dX8_clusterBy_84 rfl 1 rfl ?_
    refine r_gt (C := RX0) (T := TX0) (N := 4) g (ci := 1) rfl tc_X0 hk43 3 (by decide) tw_152 (fun _ h => h) rfl dX8_clusterBy_85 ?_
    refine r_isub g dX8_clusterBy_88 ?_
    exact r_iret g hr (Nat.le_of_ble_eq_true rfl) (Nat.le_of_ble_eq_true rfl) rfl dX8_clusterBy_89 hw
  · have hw := hw.1 hc16
    refine r_aload_n g dX8_clusterBy_30 rfl 2 rfl ?_
    refine r_iload_n g dX8_clusterBy_31 rfl 3 rfl ?_
    refine r_callVv (As := [.int x1]) g (fun sz => mt_X8_removeFrame hw sz) tw_855 tw_858 tw_2 tw_857 tp_26 (ci := 9) (T := TX8) (N := 11) rfl hk14 hy_X8_removeFrame ⟨rfl, rfl⟩ (Nat.le_of_ble_eq_true rfl) (Nat.le_of_ble_eq_true rfl) (Nat.le_of_ble_eq_true rfl) (Nat.le_of_ble_eq_true rfl) (Nat.le_of_ble_eq_true rfl) rfl dX8_clusterBy_32 (fun M46 hK47 hN48 => ?_)
    have hw := hK47 hN48
    have hk49 := Nk_.k hN48 hk14 (by decide)
    have hT50 := Nk_.tr hT15 hN48
    refine r_iload g dX8_clusterBy_35 0 rfl ?_
    exact r_iret g hr (Nat.le_of_ble_eq_true rfl) (Nat.le_of_ble_eq_true rfl) rfl dX8_clusterBy_37 hw
def rmX8_livingIn : Room := { frames := 3, cells := 0, slots := 0, locals := 64 }
theorem hy_X8_livingIn : yX8_livingIn.cls ≠ "java/lang/invoke/MethodHandle" ∧ yX8_livingIn.cls ≠ "java/lang/invoke/VarHandle" ∧ (parseMethodDescriptor yX8_livingIn.desc).map (fun d => d.parameters.length) = some 1 := by decide +kernel
def lp_X8_livingIn_17 (a0 : Nat) (a2 : Nat) (K : Mm → Int32 → Prop) (E : Int32 → Mm → Prop) : Nat → Int32 → Int32 → Mm → Prop
  | 0, _, _, _ => False
  | n + 1, x3, x4, M => (((it_ M a2 2) ≤ x4 → E x3 M) ∧ (¬ (it_ M a2 2) ≤ x4 → (kd_ M (rf_ M a0 2) = 21 ∧ (kd_ M (rf_ M a2 0) = 20 ∧ (vp_in x4 (ln_ M (rf_ M a2 0)) ∧ (vp_in (it_ M (rf_ M a2 0) (ix_ x4)) (ln_ M (rf_ M a0 2)) ∧ (bz_ (it_ M (rf_ M a0 2) (ix_ (it_ M (rf_ M a2 0) (ix_ x4)))) → (((it_ M (rf_ M a0 2) (ix_ (it_ M (rf_ M a2 0) (ix_ x4)))) = 0 → lp_X8_livingIn_17 a0 a2 K E n x3 (x4 + (1 : Int32)) M) ∧ (¬ (it_ M (rf_ M a0 2) (ix_ (it_ M (rf_ M a2 0) (ix_ x4)))) = 0 → lp_X8_livingIn_17 a0 a2 K E n (x3 + (1 : Int32)) (x4 + (1 : Int32)) M)))))))))
def wp_X8_livingIn (a0 : Nat) (x1 : Int32) (M : Mm) (K : Mm → Int32 → Prop) : Prop := kd_ M a0 = 10 ∧ (kd_ M (rf_ M a0 1) = 1 ∧ (wp_Jx4a65c_get_915e3 (rf_ M a0 1) x1 M (fun M2 r3 => Nk_ M M2 → (kd_ M2 r3 = 2 ∧ (∃ n17 : Nat, lp_X8_livingIn_17 a0 r3 K (fun xv20 M18 => Nk_ M2 M18 → (K M18 xv20)) n17 (0 : Int32) (0 : Int32) M2)))))
set_option maxHeartbeats 4000000 in
set_option maxRecDepth 100000 in
theorem lo_X8_livingIn_17 {p : Program} {l : Launch} {e : Env} {s : State} {m : MethodId} {args : Array Value} {below : List Frame} {meth : Method} {c : Code} {D : Dd_} {M0 : Mm} {Q : State → Prop} {K : Mm → Int32 → Prop} (g : G_ p s m args meth c cX8_livingIn 5 RX8 D M0) (hr : meth.sig.returnType = some .int) (hQ : Q = MQ below (va_Qi (fun r M' => K M' r) (cB_ D M0 s.heap.size) (Aw_ M0 s.heap.size)) args s 0 0 (Aw_ M0 s.heap.size)) {a0 : Nat} {a2 : Nat} : ∀ (n : Nat) (E : Int32 → Mm → Prop) (x3 : Int32) (x4 : Int32) (M : Mm), lp_X8_livingIn_17 a0 a2 K E n x3 x4 M → kd_ M a0 = 10 → kd_ M a2 = 2 → (∀ (e9_3 : Int32) (M' : Mm), E e9_3 M' → Nk_ M M' → V_ p l e rmX8_livingIn s m args below meth c 5 D M0 Q 50 [(3, .int e9_3)] [] M' 0 0) → V_ p l e rmX8_livingIn s m args below meth c 5 D M0 Q 17 [(0, .ref a0), (2, .ref a2), (3, .int x3), (4, .int x4)] [] M 0 0 := by
  intro n
  induction n with
  | zero =>
    intro E x3 x4 M hw
    exact hw.elim
  | succ n ih =>
    intro E x3 x4 M hw hp0 hp2 kE
    refine r_iload g dX8_livingIn_17 3 rfl ?_
    refine r_aload_n g dX8_livingIn_19 rfl 1 rfl ?_
    refine r_gt (C := RX0) (T := TX0) (N := 4) g (ci := 1) rfl tc_X0 hp2 2 (by decide) tw_149 (fun _ h => h) rfl dX8_livingIn_20 ?_
    refine r_icmp_ge (tgt := 50) g dX8_livingIn_23 (by decide) (fun hc10 => ?_) (fun hc10 => ?_)
    · have hw := hw.1 hc10
      exact V_.sub (kE x3 _ hw (Nk_.rf _)) [2] rfl
    · have hw := hw.2 hc10
      refine r_aload_n g dX8_livingIn_26 rfl 0 rfl ?_
      obtain ⟨hk11, hw⟩ := hw
      refine r_gtR (C := RX8) (T := TX8) (N := 11) g (ci := 9) rfl tc_X8 hp0 2 (by decide) tw_169 (fun _ h => h) rfl (k_ne hk11 (by decide)) dX8_livingIn_27 ?_
      refine r_aload_n g dX8_livingIn_30 rfl 1 rfl ?_
      obtain ⟨hk12, hw⟩ := hw
      refine r_gtR (C := RX0) (T := TX0) (N := 4) g (ci := 1) rfl tc_X0 hp2 0 (by decide) tw_141 (fun _ h => h) rfl (k_ne hk12 (by decide)) dX8_livingIn_31 ?_
      refine r_iload g dX8_livingIn_34 3 rfl ?_
      obtain ⟨hi13, hw⟩ := hw
      refine r_iald g (Or.inl hk12) hi13 dX8_livingIn_36 ?_
      obtain ⟨hi14, hw⟩ := hw
      refine r_zald g hk11 hi14 dX8_livingIn_37 (fun hb15 => ?_)
      have hw := hw hb15
      refine r_if_eq (tgt := 44) g dX8_livingIn_38 (by decide) (fun hc16 => ?_) (fun hc16 => ?_)
      · have hw := hw.1 hc16
        refine r_iinc (v := x4 + (1 : Int32)) (L' := [(4, .int (x4 + (1 : Int32))), (0, .ref a0), (2, .ref a2), (3, .int x3)]) g dX8_livingIn_44 3 rfl rfl (by decide) rfl ?_
        refine r_goto (tgt := 17) g dX8_livingIn_47 (by decide) ?_
        exact V_.sub (ih E x3 (x4 + (1 : Int32)) _ hw hp0 hp2 (fun e9_3 M9 hE9 hN9 => kE e9_3 M9 hE9 (Nk_.tr (Nk_.rf _) hN9))) [1, 2, 3, 0] rfl
      · have hw := hw.2 hc16
        refine r_iinc (v := x3 + (1 : Int32)) (L' := [(3, .int (x3 + (1 : Int32))), (0, .ref a0), (2, .ref a2), (4, .int x4)]) g dX8_livingIn_41 2 rfl rfl (by decide) rfl ?_
        refine r_iinc (v := x4 + (1 : Int32)) (L' := [(4, .int (x4 + (1 : Int32))), (3, .int (x3 + (1 : Int32))), (0, .ref a0), (2, .ref a2)]) g dX8_livingIn_44 3 rfl rfl (by decide) rfl ?_
        refine r_goto (tgt := 17) g dX8_livingIn_47 (by decide) ?_
        exact V_.sub (ih E (x3 + (1 : Int32)) (x4 + (1 : Int32)) _ hw hp0 hp2 (fun e9_3 M9 hE9 hN9 => kE e9_3 M9 hE9 (Nk_.tr (Nk_.rf _) hN9))) [2, 3, 1, 0] rfl
set_option maxHeartbeats 4000000 in
set_option maxRecDepth 100000 in
theorem mt_X8_livingIn {l : Launch} {D : Dd_} {M : Mm} {a0 : Nat} {x1 : Int32} {K : Mm → Int32 → Prop} (hw : wp_X8_livingIn a0 x1 M K) (sz : Nat) : Met l yX8_livingIn (Cond.code yX8_livingIn cX8_livingIn 5 (some .int) :: tbG_) rmX8_livingIn (cPc_ D M sz [.ref a0, .int x1]) (va_Qi (fun r M' => K M' r) (cB_ D M sz) (Aw_ M sz)) 0 0 (Aw_ M sz) := by
  refine ofV (by decide) (Nat.le_of_ble_eq_true rfl) ?_
  intro p e s m below meth c g hr hin hsz
  subst hsz
  obtain ⟨hp0, hw⟩ := hw
  refine r_aload_n g dX8_livingIn_0 rfl 0 rfl ?_
  obtain ⟨hk1, hw⟩ := hw
  refine r_gtR (C := RX8) (T := TX8) (N := 11) g (ci := 9) rfl tc_X8 hp0 1 (by decide) tw_166 (fun _ h => h) rfl (k_ne hk1 (by decide)) dX8_livingIn_1 ?_
  refine r_iload_n g dX8_livingIn_4 rfl 1 rfl ?_
  refine r_callVr (As := [.int x1]) g (fun sz => mt_Jx4a65c_get_915e3 hw sz) tw_637 tw_543 tw_5 tw_541 tw_542 (ci := 0) (T := TJx4a65c) (N := 3) rfl hk1 hy_Jx4a65c_get_915e3 ⟨rfl, rfl⟩ (Nat.le_of_ble_eq_true rfl) (Nat.le_of_ble_eq_true rfl) (Nat.le_of_ble_eq_true rfl) (Nat.le_of_ble_eq_true rfl) (Nat.le_of_ble_eq_true rfl) rfl dX8_livingIn_5 (fun M2 r3 hK4 h6 hN5 => ?_)
  have hw := hK4 hN5
  have hk7 := Nk_.k hN5 hp0 (by decide)
  have hT8 := Nk_.tr (Nk_.rf _) hN5
  obtain ⟨hk9, hw⟩ := hw
  refine r_cast (C := RX0) (T := TX0) (N := 4) g (ci := 1) rfl tw_83 hk9 dX8_livingIn_8 ?_
  refine r_astore_n (L' := [(2, .ref r3), (0, .ref a0), (1, .int x1)]) g dX8_livingIn_11 rfl (by decide) rfl ?_
  refine r_iconst (v := 0) g dX8_livingIn_12 (by decide) ?_
  refine r_istore_n (L' := [(3, .int (0 : Int32)), (2, .ref r3), (0, .ref a0), (1, .int x1)]) g dX8_livingIn_13 rfl (by decide) rfl ?_
  refine r_iconst (v := 0) g dX8_livingIn_14 (by decide) ?_
  refine r_istore (L' := [(4, .int (0 : Int32)), (3, .int (0 : Int32)), (2, .ref r3), (0, .ref a0), (1, .int x1)]) g dX8_livingIn_15 (by decide) rfl ?_
  obtain ⟨n17, hw⟩ := hw
  refine V_.sub (lo_X8_livingIn_17 g hr rfl n17 _ (0 : Int32) (0 : Int32) _ hw hk7 hk9 (fun xv20 M18 hE hN19 => ?_)) [3, 2, 1, 0] rfl
  have hw := hE hN19
  have hT21 := Nk_.tr hT8 hN19
  refine r_iload_n g dX8_livingIn_50 rfl 0 rfl ?_
  exact r_iret g hr (Nat.le_of_ble_eq_true rfl) (Nat.le_of_ble_eq_true rfl) rfl dX8_livingIn_51 hw
def rmX8_mergeNext : Room := { frames := 5, cells := 0, slots := 0, locals := 127 }
theorem hy_X8_mergeNext : yX8_mergeNext.cls ≠ "java/lang/invoke/MethodHandle" ∧ yX8_mergeNext.cls ≠ "java/lang/invoke/VarHandle" ∧ (parseMethodDescriptor yX8_mergeNext.desc).map (fun d => d.parameters.length) = some 1 := by decide +kernel
def lp_X8_mergeNext_39 (a0 : Nat) (x1 : Int32) (a2 : Nat) (a3 : Nat) (K : Mm → Int32 → Prop) (E : Mm → Prop) : Nat → Int32 → Mm → Prop
  | 0, _, _ => False
  | n + 1, x4, M => (((it_ M a3 2) ≤ x4 → E M) ∧ (¬ (it_ M a3 2) ≤ x4 → (kd_ M (rf_ M a3 0) = 20 ∧ (vp_in x4 (ln_ M (rf_ M a3 0)) ∧ (wp_X0_append a2 (it_ M (rf_ M a3 0) (ix_ x4)) M (fun M37 => Nk_ M M37 → lp_X8_mergeNext_39 a0 x1 a2 a3 K E n (x4 + (1 : Int32)) M37))))))
def wp_X8_mergeNext (a0 : Nat) (x1 : Int32) (M : Mm) (K : Mm → Int32 → Prop) : Prop := kd_ M a0 = 10 ∧ (kd_ M (rf_ M a0 1) = 1 ∧ (wp_Jx4a65c_get_915e3 (rf_ M a0 1) x1 M (fun M2 r3 => Nk_ M M2 → (kd_ M2 r3 = 2 ∧ (kd_ M2 (rf_ M2 a0 1) = 1 ∧ (wp_Jx4a65c_get_915e3 (rf_ M2 a0 1) (x1 + (1 : Int32)) M2 (fun M11 r12 => Nk_ M2 M11 → (kd_ M11 r12 = 2 ∧ (wp_X8_dropDead a0 r3 M11 (fun M20 => Nk_ M11 M20 → (wp_X8_dropDead a0 r12 M20 (fun M27 => Nk_ M20 M27 → (∃ n44 : Nat, lp_X8_mergeNext_39 a0 x1 r3 r12 K (fun  M45 => Nk_ M27 M45 → (wp_X8_removeFrame a0 (x1 + (1 : Int32)) M45 (fun M50 => Nk_ M45 M50 → (((it_ M50 r3 2) = 0 → (wp_X8_removeFrame a0 x1 M50 (fun M72 => Nk_ M50 M72 → (K M72 (0 : Int32))))) ∧ (¬ (it_ M50 r3 2) = 0 → (wp_X8_numberFrom a0 x1 M50 (fun M57 => Nk_ M50 M57 → (kd_ M57 (rf_ M57 a0 0) = 1 ∧ (kd_ M57 (rf_ M57 a0 10) = 20 ∧ (kd_ M57 (rf_ M57 a0 4) = 9 ∧ (wp_X0_reckon r3 (rf_ M57 a0 0) (rf_ M57 a0 10) (rf_ M57 a0 4) M57 (fun M66 => Nk_ M57 M66 → (K M66 (it_ M66 r3 2)))))))))))))) n44 (0 : Int32) M27)))))))))))))
set_option maxHeartbeats 4000000 in
set_option maxRecDepth 100000 in
theorem lo_X8_mergeNext_39 {p : Program} {l : Launch} {e : Env} {s : State} {m : MethodId} {args : Array Value} {below : List Frame} {meth : Method} {c : Code} {D : Dd_} {M0 : Mm} {Q : State → Prop} {K : Mm → Int32 → Prop} (g : G_ p s m args meth c cX8_mergeNext 5 RX8 D M0) (hr : meth.sig.returnType = some .int) (hQ : Q = MQ below (va_Qi (fun r M' => K M' r) (cB_ D M0 s.heap.size) (Aw_ M0 s.heap.size)) args s 0 0 (Aw_ M0 s.heap.size)) {a0 : Nat} {x1 : Int32} {a2 : Nat} {a3 : Nat} : ∀ (n : Nat) (E : Mm → Prop) (x4 : Int32) (M : Mm), lp_X8_mergeNext_39 a0 x1 a2 a3 K E n x4 M → kd_ M a0 = 10 → kd_ M a2 = 2 → kd_ M a3 = 2 → (∀  (M' : Mm), E  M' → Nk_ M M' → V_ p l e rmX8_mergeNext s m args below meth c 5 D M0 Q 65 [(0, .ref a0), (1, .int x1), (2, .ref a2)] [] M' 0 0) → V_ p l e rmX8_mergeNext s m args below meth c 5 D M0 Q 39 [(0, .ref a0), (1, .int x1), (2, .ref a2), (3, .ref a3), (4, .int x4)] [] M 0 0 := by
  intro n
  induction n with
  | zero =>
    intro E x4 M hw
    exact hw.elim
  | succ n ih =>
    intro E x4 M hw hp0 hp2 hp3 kE
    refine r_iload g dX8_mergeNext_39 4 rfl ?_
    refine r_aload_n g dX8_mergeNext_41 rfl 3 rfl ?_
    refine r_gt (C := RX0) (T := TX0) (N := 4) g (ci := 1) rfl tc_X0 hp3 2 (by decide) tw_149 (fun _ h => h) rfl dX8_mergeNext_42 ?_
    refine r_icmp_ge (tgt := 65) g dX8_mergeNext_45 (by decide) (fun hc34 => ?_) (fun hc34 => ?_)
    · have hw := hw.1 hc34
      exact V_.sub (kE  _ hw (Nk_.rf _)) [0, 1, 2] rfl
    · have hw := hw.2 hc34
      refine r_aload_n g dX8_mergeNext_48 rfl 2 rfl ?_
      refine r_aload_n g dX8_mergeNext_49 rfl 3 rfl ?_
      obtain ⟨hk35, hw⟩ := hw
      refine r_gtR (C := RX0) (T := TX0) (N := 4) g (ci := 1) rfl tc_X0 hp3 0 (by decide) tw_141 (fun _ h => h) rfl (k_ne hk35 (by decide)) dX8_mergeNext_50 ?_
      refine r_iload g dX8_mergeNext_53 4 rfl ?_
      obtain ⟨hi36, hw⟩ := hw
      refine r_iald g (Or.inl hk35) hi36 dX8_mergeNext_55 ?_
      refine r_callVv (As := [.int (it_ M (rf_ M a3 0) (ix_ x4))]) g (fun sz => mt_X0_append hw sz) tw_742 tw_745 tw_7 tw_743 tw_744 (ci := 1) (T := TX0) (N := 4) rfl hp2 hy_X0_append ⟨rfl, rfl⟩ (Nat.le_of_ble_eq_true rfl) (Nat.le_of_ble_eq_true rfl) (Nat.le_of_ble_eq_true rfl) (Nat.le_of_ble_eq_true rfl) (Nat.le_of_ble_eq_true rfl) rfl dX8_mergeNext_56 (fun M37 hK38 hN39 => ?_)
      have hw := hK38 hN39
      have hk40 := Nk_.k hN39 hp0 (by decide)
      have hk41 := Nk_.k hN39 hp2 (by decide)
      have hk42 := Nk_.k hN39 hp3 (by decide)
      have hT43 := Nk_.tr (Nk_.rf _) hN39
      refine r_iinc (v := x4 + (1 : Int32)) (L' := [(4, .int (x4 + (1 : Int32))), (0, .ref a0), (1, .int x1), (2, .ref a2), (3, .ref a3)]) g dX8_mergeNext_59 4 rfl rfl (by decide) rfl ?_
      refine r_goto (tgt := 39) g dX8_mergeNext_62 (by decide) ?_
      exact V_.sub (ih E (x4 + (1 : Int32)) _ hw hk40 hk41 hk42 (fun  M9 hE9 hN9 => kE  M9 hE9 (Nk_.tr hT43 hN9))) [1, 2, 3, 4, 0] rfl
set_option maxHeartbeats 4000000 in
set_option maxRecDepth 100000 in
theorem mt_X8_mergeNext {l : Launch} {D : Dd_} {M : Mm} {a0 : Nat} {x1 : Int32} {K : Mm → Int32 → Prop} (hw : wp_X8_mergeNext a0 x1 M K) (sz : Nat) : Met l yX8_mergeNext (Cond.code yX8_mergeNext cX8_mergeNext 5 (some .int) :: tbG_) rmX8_mergeNext (cPc_ D M sz [.ref a0, .int x1]) (va_Qi (fun r M' => K M' r) (cB_ D M sz) (Aw_ M sz)) 0 0 (Aw_ M sz) := by
  refine ofV (by decide) (Nat.le_of_ble_eq_true rfl) ?_
  intro p e s m below meth c g hr hin hsz
  subst hsz
  obtain ⟨hp0, hw⟩ := hw
  refine r_aload_n g dX8_mergeNext_0 rfl 0 rfl ?_
  obtain ⟨hk1, hw⟩ := hw
  refine r_gtR (C := RX8) (T := TX8) (N := 11) g (ci := 9) rfl tc_X8 hp0 1 (by decide) tw_166 (fun _ h => h) rfl (k_ne hk1 (by decide)) dX8_mergeNext_1 ?_
  refine r_iload_n g dX8_mergeNext_4 rfl 1 rfl ?_
  refine r_callVr (As := [.int x1]) g (fun sz => mt_Jx4a65c_get_915e3 hw sz) tw_637 tw_543 tw_5 tw_541 tw_542 (ci := 0) (T := TJx4a65c) (N := 3) rfl hk1 hy_Jx4a65c_get_915e3 ⟨rfl, rfl⟩ (Nat.le_of_ble_eq_true rfl) (Nat.le_of_ble_eq_true rfl) (Nat.le_of_ble_eq_true rfl) (Nat.le_of_ble_eq_true rfl) (Nat.le_of_ble_eq_true rfl) rfl dX8_mergeNext_5 (fun M2 r3 hK4 h6 hN5 => ?_)
  have hw := hK4 hN5
  have hk7 := Nk_.k hN5 hp0 (by decide)
  have hT8 := Nk_.tr (Nk_.rf _) hN5
  obtain ⟨hk9, hw⟩ := hw
  refine r_cast (C := RX0) (T := TX0) (N := 4) g (ci := 1) rfl tw_83 hk9 dX8_mergeNext_8 ?_
  refine r_astore_n (L' := [(2, .ref r3), (0, .ref a0), (1, .int x1)]) g dX8_mergeNext_11 rfl (by decide) rfl ?_
  refine r_aload_n g dX8_mergeNext_12 rfl 1 rfl ?_
  obtain ⟨hk10, hw⟩ := hw
  refine r_gtR (C := RX8) (T := TX8) (N := 11) g (ci := 9) rfl tc_X8 hk7 1 (by decide) tw_166 (fun _ h => h) rfl (k_ne hk10 (by decide)) dX8_mergeNext_13 ?_
  refine r_iload_n g dX8_mergeNext_16 rfl 2 rfl ?_
  refine r_iconst (v := 1) g dX8_mergeNext_17 (by decide) ?_
  refine r_iadd g dX8_mergeNext_18 ?_
  refine r_callVr (As := [.int (x1 + (1 : Int32))]) g (fun sz => mt_Jx4a65c_get_915e3 hw sz) tw_637 tw_543 tw_5 tw_541 tw_542 (ci := 0) (T := TJx4a65c) (N := 3) rfl hk10 hy_Jx4a65c_get_915e3 ⟨rfl, rfl⟩ (Nat.le_of_ble_eq_true rfl) (Nat.le_of_ble_eq_true rfl) (Nat.le_of_ble_eq_true rfl) (Nat.le_of_ble_eq_true rfl) (Nat.le_of_ble_eq_true rfl) rfl dX8_mergeNext_19 (fun M11 r12 hK13 h15 hN14 => ?_)
  have hw := hK13 hN14
  have hk16 := Nk_.k hN14 hk9 (by decide)
  have hk17 := Nk_.k hN14 hk7 (by decide)
  have hT18 := Nk_.tr hT8 hN14
  obtain ⟨hk19, hw⟩ := hw
  refine r_cast (C := RX0) (T := TX0) (N := 4) g (ci := 1) rfl tw_83 hk19 dX8_mergeNext_22 ?_
  refine r_astore_n (L' := [(3, .ref r12), (2, .ref r3), (0, .ref a0), (1, .int x1)]) g dX8_mergeNext_25 rfl (by decide) rfl ?_
  refine r_aload_n g dX8_mergeNext_26 rfl 2 rfl ?_
  refine r_aload_n g dX8_mergeNext_27 rfl 1 rfl ?_
  refine r_callVv (As := [.ref r3]) g (fun sz => mt_X8_dropDead hw sz) tw_754 tw_757 tw_2 tw_756 tp_19 (ci := 9) (T := TX8) (N := 11) rfl hk17 hy_X8_dropDead ⟨rfl, rfl⟩ (Nat.le_of_ble_eq_true rfl) (Nat.le_of_ble_eq_true rfl) (Nat.le_of_ble_eq_true rfl) (Nat.le_of_ble_eq_true rfl) (Nat.le_of_ble_eq_true rfl) rfl dX8_mergeNext_28 (fun M20 hK21 hN22 => ?_)
  have hw := hK21 hN22
  have hk23 := Nk_.k hN22 hk19 (by decide)
  have hk24 := Nk_.k hN22 hk16 (by decide)
  have hk25 := Nk_.k hN22 hk17 (by decide)
  have hT26 := Nk_.tr hT18 hN22
  refine r_aload_n g dX8_mergeNext_31 rfl 2 rfl ?_
  refine r_aload_n g dX8_mergeNext_32 rfl 0 rfl ?_
  refine r_callVv (As := [.ref r12]) g (fun sz => mt_X8_dropDead hw sz) tw_754 tw_757 tw_2 tw_756 tp_19 (ci := 9) (T := TX8) (N := 11) rfl hk25 hy_X8_dropDead ⟨rfl, rfl⟩ (Nat.le_of_ble_eq_true rfl) (Nat.le_of_ble_eq_true rfl) (Nat.le_of_ble_eq_true rfl) (Nat.le_of_ble_eq_true rfl) (Nat.le_of_ble_eq_true rfl) rfl dX8_mergeNext_33 (fun M27 hK28 hN29 => ?_)
  have hw := hK28 hN29
  have hk30 := Nk_.k hN29 hk23 (by decide)
  have hk31 := Nk_.k hN29 hk24 (by decide)
  have hk32 := Nk_.k hN29 hk25 (by decide)
  have hT33 := Nk_.tr hT26 hN29
  refine r_iconst (v := 0) g dX8_mergeNext_36 (by decide) ?_
  refine r_istore (L' := [(4, .int (0 : Int32)), (3, .ref r12), (2, .ref r3), (0, .ref a0), (1, .int x1)]) g dX8_mergeNext_37 (by decide) rfl ?_
  obtain ⟨n44, hw⟩ := hw
  refine V_.sub (lo_X8_mergeNext_39 g hr rfl n44 _ (0 : Int32) _ hw hk32 hk31 hk30 (fun  M45 hE hN46 => ?_)) [3, 4, 2, 1, 0] rfl
  have hw := hE hN46
  have hk47 := Nk_.k hN46 hk32 (by decide)
  have hk48 := Nk_.k hN46 hk31 (by decide)
  have hT49 := Nk_.tr hT33 hN46
  refine r_aload_n g dX8_mergeNext_65 rfl 0 rfl ?_
  refine r_iload_n g dX8_mergeNext_66 rfl 1 rfl ?_
  refine r_iconst (v := 1) g dX8_mergeNext_67 (by decide) ?_
  refine r_iadd g dX8_mergeNext_68 ?_
  refine r_callVv (As := [.int (x1 + (1 : Int32))]) g (fun sz => mt_X8_removeFrame hw sz) tw_855 tw_858 tw_2 tw_857 tp_26 (ci := 9) (T := TX8) (N := 11) rfl hk47 hy_X8_removeFrame ⟨rfl, rfl⟩ (Nat.le_of_ble_eq_true rfl) (Nat.le_of_ble_eq_true rfl) (Nat.le_of_ble_eq_true rfl) (Nat.le_of_ble_eq_true rfl) (Nat.le_of_ble_eq_true rfl) rfl dX8_mergeNext_69 (fun M50 hK51 hN52 => ?_)
  have hw := hK51 hN52
  have hk53 := Nk_.k hN52 hk47 (by decide)
  have hk54 := Nk_.k hN52 hk48 (by decide)
  have hT55 := Nk_.tr hT49 hN52
  refine r_aload_n g dX8_mergeNext_72 rfl 2 rfl ?_
  refine r_gt (C := RX0) (T := TX0) (N := 4) g (ci := 1) rfl tc_X0 hk54 2 (by decide) tw_149 (fun _ h => h) rfl dX8_mergeNext_73 ?_
  refine r_if_ne (tgt := 86) g dX8_mergeNext_76 (by decide) (fun hc56 => ?_) (fun hc56 => ?_)
  · have hw := hw.2 hc56
    refine r_aload_n g dX8_mergeNext_86 rfl 0 rfl ?_
    refine r_iload_n g dX8_mergeNext_87 rfl 1 rfl ?_
    refine r_callVv (As := [.int x1]) g (fun sz => mt_X8_numberFrom hw sz) tw_812 tw_815 tw_2 tw_814 tp_24 (ci := 9) (T := TX8) (N := 11) rfl hk53 hy_X8_numberFrom ⟨rfl, rfl⟩ (Nat.le_of_ble_eq_true rfl) (Nat.le_of_ble_eq_true rfl) (Nat.le_of_ble_eq_true rfl) (Nat.le_of_ble_eq_true rfl) (Nat.le_of_ble_eq_true rfl) rfl dX8_mergeNext_88 (fun M57 hK58 hN59 => ?_)
    have hw := hK58 hN59
    have hk60 := Nk_.k hN59 hk53 (by decide)
    have hk61 := Nk_.k hN59 hk54 (by decide)
    have hT62 := Nk_.tr hT55 hN59
    refine r_aload_n g dX8_mergeNext_91 rfl 2 rfl ?_
    refine r_aload_n g dX8_mergeNext_92 rfl 0 rfl ?_
    obtain ⟨hk63, hw⟩ := hw
    refine r_gtR (C := RX8) (T := TX8) (N := 11) g (ci := 9) rfl tc_X8 hk60 0 (by decide) tw_163 (fun _ h => h) rfl (k_ne hk63 (by decide)) dX8_mergeNext_93 ?_
    refine r_aload_n g dX8_mergeNext_96 rfl 0 rfl ?_
    obtain ⟨hk64, hw⟩ := hw
    refine r_gtR (C := RX8) (T := TX8) (N := 11) g (ci := 9) rfl tc_X8 hk60 10 (by decide) tw_186 (fun _ h => h) rfl (k_ne hk64 (by decide)) dX8_mergeNext_97 ?_
    refine r_aload_n g dX8_mergeNext_100 rfl 0 rfl ?_
    obtain ⟨hk65, hw⟩ := hw
    refine r_gtR (C := RX8) (T := TX8) (N := 11) g (ci := 9) rfl tc_X8 hk60 4 (by decide) tw_174 (fun _ h => h) rfl (k_ne hk65 (by decide)) dX8_mergeNext_101 ?_
    refine r_callVv (As := [.ref (rf_ M57 a0 0), .ref (rf_ M57 a0 10), .ref (rf_ M57 a0 4)]) g (fun sz => mt_X0_reckon hw sz) tw_758 tw_761 tw_7 tw_759 tw_760 (ci := 1) (T := TX0) (N := 4) rfl hk61 hy_X0_reckon ⟨rfl, rfl⟩ (Nat.le_of_ble_eq_true rfl) (Nat.le_of_ble_eq_true rfl) (Nat.le_of_ble_eq_true rfl) (Nat.le_of_ble_eq_true rfl) (Nat.le_of_ble_eq_true rfl) rfl dX8_mergeNext_104 (fun M66 hK67 hN68 => ?_)
    have hw := hK67 hN68
    have hk69 := Nk_.k hN68 hk60 (by decide)
    have hk70 := Nk_.k hN68 hk61 (by decide)
    have hT71 := Nk_.tr hT62 hN68
    refine r_aload_n g dX8_mergeNext_107 rfl 2 rfl ?_
    refine r_gt (C := RX0) (T := TX0) (N := 4) g (ci := 1) rfl tc_X0 hk70 2 (by decide) tw_149 (fun _ h => h) rfl dX8_mergeNext_108 ?_
    exact r_iret g hr (Nat.le_of_ble_eq_true rfl) (Nat.le_of_ble_eq_true rfl) rfl dX8_mergeNext_111 hw
  · have hw := hw.1 hc56
    refine r_aload_n g dX8_mergeNext_79 rfl 0 rfl ?_
    refine r_iload_n g dX8_mergeNext_80 rfl 1 rfl ?_
    refine r_callVv (As := [.int x1]) g (fun sz => mt_X8_removeFrame hw sz) tw_855 tw_858 tw_2 tw_857 tp_26 (ci := 9) (T := TX8) (N := 11) rfl hk53 hy_X8_removeFrame ⟨rfl, rfl⟩ (Nat.le_of_ble_eq_true rfl) (Nat.le_of_ble_eq_true rfl) (Nat.le_of_ble_eq_true rfl) (Nat.le_of_ble_eq_true rfl) (Nat.le_of_ble_eq_true rfl) rfl dX8_mergeNext_81 (fun M72 hK73 hN74 => ?_)
    have hw := hK73 hN74
    have hk75 := Nk_.k hN74 hk53 (by decide)
    have hT76 := Nk_.tr hT55 hN74
    refine r_iconst (v := 0) g dX8_mergeNext_84 (by decide) ?_
    exact r_iret g hr (Nat.le_of_ble_eq_true rfl) (Nat.le_of_ble_eq_true rfl) rfl dX8_mergeNext_85 hw
def rmX8_bytesOfBitmaps : Room := { frames := 3, cells := 0, slots := 0, locals := 64 }
theorem hy_X8_bytesOfBitmaps : yX8_bytesOfBitmaps.cls ≠ "java/lang/invoke/MethodHandle" ∧ yX8_bytesOfBitmaps.cls ≠ "java/lang/invoke/VarHandle" ∧ (parseMethodDescriptor yX8_bytesOfBitmaps.desc).map (fun d => d.parameters.length) = some 0 := by decide +kernel
def lp_X8_bytesOfBitmaps_17 (a0 : Nat) (x2 : Int32) (K : Mm → Int32 → Prop) (E : Int32 → Mm → Prop) : Nat → Int32 → Int32 → Mm → Prop
  | 0, _, _, _ => False
  | n + 1, x1, x3, M => (kd_ M (rf_ M a0 1) = 1 ∧ (wp_Jx4a65c_size_8abf5 (rf_ M a0 1) M (fun M10 r11 => Nk_ M M10 → ((r11 ≤ x3 → E x1 M10) ∧ (¬ r11 ≤ x3 → (kd_ M10 (rf_ M10 a0 0) = 1 ∧ (wp_Jx4a65c_get_915e3 (rf_ M10 a0 0) x2 M10 (fun M18 r19 => Nk_ M10 M18 → (kd_ M18 r19 = 3 ∧ (bz_ (it_ M18 r19 2) → (((it_ M18 r19 2) = 0 → E x1 M18) ∧ (¬ (it_ M18 r19 2) = 0 → (kd_ M18 (rf_ M18 a0 1) = 1 ∧ (wp_Jx4a65c_get_915e3 (rf_ M18 a0 1) x3 M18 (fun M29 r30 => Nk_ M18 M29 → (kd_ M29 r30 = 2 ∧ (kd_ M29 (rf_ M29 r30 1) = 23 ∧ (vp_in x2 (ln_ M29 (rf_ M29 r30 1)) ∧ (kd_ M29 (rf_ M29 (rf_ M29 r30 1) (ix_ x2)) = 11 ∧ (wp_X9_bytesOfBitmaps (rf_ M29 (rf_ M29 r30 1) (ix_ x2)) M29 (fun M40 r41 => Nk_ M29 M40 → lp_X8_bytesOfBitmaps_17 a0 x2 K E n (x1 + r41) (x3 + (1 : Int32)) M40)))))))))))))))))))))
def lp_X8_bytesOfBitmaps_4 (a0 : Nat) (K : Mm → Int32 → Prop) (E : Int32 → Mm → Prop) : Nat → Int32 → Int32 → Mm → Prop
  | 0, _, _, _ => False
  | n + 1, x1, x2, M => (kd_ M (rf_ M a0 0) = 1 ∧ (wp_Jx4a65c_size_8abf5 (rf_ M a0 0) M (fun M2 r3 => Nk_ M M2 → ((r3 ≤ x2 → E x1 M2) ∧ (¬ r3 ≤ x2 → (∃ n46 : Nat, lp_X8_bytesOfBitmaps_17 a0 x2 K (fun xv49 M47 => Nk_ M2 M47 → lp_X8_bytesOfBitmaps_4 a0 K E n xv49 (x2 + (1 : Int32)) M47) n46 x1 (0 : Int32) M2))))))
def wp_X8_bytesOfBitmaps (a0 : Nat) (M : Mm) (K : Mm → Int32 → Prop) : Prop := kd_ M a0 = 10 ∧ (∃ n52 : Nat, lp_X8_bytesOfBitmaps_4 a0 K (fun xv55 M53 => Nk_ M M53 → (K M53 xv55)) n52 (0 : Int32) (0 : Int32) M)
set_option maxHeartbeats 4000000 in
set_option maxRecDepth 100000 in
theorem lo_X8_bytesOfBitmaps_17 {p : Program} {l : Launch} {e : Env} {s : State} {m : MethodId} {args : Array Value} {below : List Frame} {meth : Method} {c : Code} {D : Dd_} {M0 : Mm} {Q : State → Prop} {K : Mm → Int32 → Prop} (g : G_ p s m args meth c cX8_bytesOfBitmaps 4 RX8 D M0) (hr : meth.sig.returnType = some .int) (hQ : Q = MQ below (va_Qi (fun r M' => K M' r) (cB_ D M0 s.heap.size) (Aw_ M0 s.heap.size)) args s 0 0 (Aw_ M0 s.heap.size)) {a0 : Nat} {x2 : Int32} : ∀ (n : Nat) (E : Int32 → Mm → Prop) (x1 : Int32) (x3 : Int32) (M : Mm), lp_X8_bytesOfBitmaps_17 a0 x2 K E n x1 x3 M → kd_ M a0 = 10 → (∀ (e9_1 : Int32) (M' : Mm), E e9_1 M' → Nk_ M M' → V_ p l e rmX8_bytesOfBitmaps s m args below meth c 4 D M0 Q 73 [(0, .ref a0), (1, .int e9_1), (2, .int x2)] [] M' 0 0) → V_ p l e rmX8_bytesOfBitmaps s m args below meth c 4 D M0 Q 17 [(0, .ref a0), (1, .int x1), (2, .int x2), (3, .int x3)] [] M 0 0 := by
  intro n
  induction n with
  | zero =>
    intro E x1 x3 M hw
    exact hw.elim
  | succ n ih =>
    intro E x1 x3 M hw hp0 kE
    refine r_iload_n g dX8_bytesOfBitmaps_17 rfl 3 rfl ?_
    refine r_aload_n g dX8_bytesOfBitmaps_18 rfl 0 rfl ?_
    obtain ⟨hk9, hw⟩ := hw
    refine r_gtR (C := RX8) (T := TX8) (N := 11) g (ci := 9) rfl tc_X8 hp0 1 (by decide) tw_166 (fun _ h => h) rfl (k_ne hk9 (by decide)) dX8_bytesOfBitmaps_19 ?_
    refine r_callVi (As := []) g (fun sz => mt_Jx4a65c_size_8abf5 hw sz) tw_636 tw_360 tw_5 tw_358 tw_359 (ci := 0) (T := TJx4a65c) (N := 3) rfl hk9 hy_Jx4a65c_size_8abf5 ⟨rfl, rfl⟩ (Nat.le_of_ble_eq_true rfl) (Nat.le_of_ble_eq_true rfl) (Nat.le_of_ble_eq_true rfl) (Nat.le_of_ble_eq_true rfl) (Nat.le_of_ble_eq_true rfl) rfl dX8_bytesOfBitmaps_22 (fun M10 r11 hK12 hN13 => ?_)
    have hw := hK12 hN13
    have hk14 := Nk_.k hN13 hp0 (by decide)
    have hT15 := Nk_.tr (Nk_.rf _) hN13
    refine r_icmp_ge (tgt := 73) g dX8_bytesOfBitmaps_25 (by decide) (fun hc16 => ?_) (fun hc16 => ?_)
    · have hw := hw.1 hc16
      exact V_.sub (kE x1 _ hw hT15) [0, 1, 2] rfl
    · have hw := hw.2 hc16
      refine r_aload_n g dX8_bytesOfBitmaps_28 rfl 0 rfl ?_
      obtain ⟨hk17, hw⟩ := hw
      refine r_gtR (C := RX8) (T := TX8) (N := 11) g (ci := 9) rfl tc_X8 hk14 0 (by decide) tw_163 (fun _ h => h) rfl (k_ne hk17 (by decide)) dX8_bytesOfBitmaps_29 ?_
      refine r_iload_n g dX8_bytesOfBitmaps_32 rfl 2 rfl ?_
      refine r_callVr (As := [.int x2]) g (fun sz => mt_Jx4a65c_get_915e3 hw sz) tw_637 tw_543 tw_5 tw_541 tw_542 (ci := 0) (T := TJx4a65c) (N := 3) rfl hk17 hy_Jx4a65c_get_915e3 ⟨rfl, rfl⟩ (Nat.le_of_ble_eq_true rfl) (Nat.le_of_ble_eq_true rfl) (Nat.le_of_ble_eq_true rfl) (Nat.le_of_ble_eq_true rfl) (Nat.le_of_ble_eq_true rfl) rfl dX8_bytesOfBitmaps_33 (fun M18 r19 hK20 h22 hN21 => ?_)
      have hw := hK20 hN21
      have hk23 := Nk_.k hN21 hk14 (by decide)
      have hT24 := Nk_.tr hT15 hN21
      obtain ⟨hk25, hw⟩ := hw
      refine r_cast (C := RX1) (T := TX1) (N := 5) g (ci := 2) rfl tw_638 hk25 dX8_bytesOfBitmaps_36 ?_
      refine r_gtZ (C := RX1) (T := TX1) (N := 5) g (ci := 2) rfl tc_X1 hk25 2 (by decide) tw_450 (fun _ h => h) rfl dX8_bytesOfBitmaps_39 (fun hb26 => ?_)
      have hw := hw hb26
      refine r_if_eq (tgt := 73) g dX8_bytesOfBitmaps_42 (by decide) (fun hc27 => ?_) (fun hc27 => ?_)
      · have hw := hw.1 hc27
        exact V_.sub (kE x1 _ hw hT24) [0, 1, 2] rfl
      · have hw := hw.2 hc27
        refine r_iload_n g dX8_bytesOfBitmaps_45 rfl 1 rfl ?_
        refine r_aload_n g dX8_bytesOfBitmaps_46 rfl 0 rfl ?_
        obtain ⟨hk28, hw⟩ := hw
        refine r_gtR (C := RX8) (T := TX8) (N := 11) g (ci := 9) rfl tc_X8 hk23 1 (by decide) tw_166 (fun _ h => h) rfl (k_ne hk28 (by decide)) dX8_bytesOfBitmaps_47 ?_
        refine r_iload_n g dX8_bytesOfBitmaps_50 rfl 3 rfl ?_
        refine r_callVr (As := [.int x3]) g (fun sz => mt_Jx4a65c_get_915e3 hw sz) tw_637 tw_543 tw_5 tw_541 tw_542 (ci := 0) (T := TJx4a65c) (N := 3) rfl hk28 hy_Jx4a65c_get_915e3 ⟨rfl, rfl⟩ (Nat.le_of_ble_eq_true rfl) (Nat.le_of_ble_eq_true rfl) (Nat.le_of_ble_eq_true rfl) (Nat.le_of_ble_eq_true rfl) (Nat.le_of_ble_eq_true rfl) rfl dX8_bytesOfBitmaps_51 (fun M29 r30 hK31 h33 hN32 => ?_)
        have hw := hK31 hN32
        have hk34 := Nk_.k hN32 hk23 (by decide)
        have hT35 := Nk_.tr hT24 hN32
        obtain ⟨hk36, hw⟩ := hw
        refine r_cast (C := RX0) (T := TX0) (N := 4) g (ci := 1) rfl tw_83 hk36 dX8_bytesOfBitmaps_54 ?_
        obtain ⟨hk37, hw⟩ := hw
        refine r_gtR (C := RX0) (T := TX0) (N := 4) g (ci := 1) rfl tc_X0 hk36 1 (by decide) tw_145 (fun _ h => h) rfl (k_ne hk37 (by decide)) dX8_bytesOfBitmaps_57 ?_
        refine r_iload_n g dX8_bytesOfBitmaps_60 rfl 2 rfl ?_
        obtain ⟨hi38, hw⟩ := hw
        obtain ⟨hk39, hw⟩ := hw
        refine r_aald (t := 3) g (by decide) (by decide) hk37 hi38 dX8_bytesOfBitmaps_61 ?_
        refine r_rv (k_ne hk39 (by decide)) ?_
        refine r_callVi (As := []) g (fun sz => mt_X9_bytesOfBitmaps hw sz) tw_639 tw_642 tw_8 tw_640 tw_641 (ci := 10) (T := TX9) (N := 9) rfl hk39 hy_X9_bytesOfBitmaps ⟨rfl, rfl⟩ (Nat.le_of_ble_eq_true rfl) (Nat.le_of_ble_eq_true rfl) (Nat.le_of_ble_eq_true rfl) (Nat.le_of_ble_eq_true rfl) (Nat.le_of_ble_eq_true rfl) rfl dX8_bytesOfBitmaps_62 (fun M40 r41 hK42 hN43 => ?_)
        have hw := hK42 hN43
        have hk44 := Nk_.k hN43 hk34 (by decide)
        have hT45 := Nk_.tr hT35 hN43
        refine r_iadd g dX8_bytesOfBitmaps_65 ?_
        refine r_istore_n (L' := [(1, .int (x1 + r41)), (0, .ref a0), (2, .int x2), (3, .int x3)]) g dX8_bytesOfBitmaps_66 rfl (by decide) rfl ?_
        refine r_iinc (v := x3 + (1 : Int32)) (L' := [(3, .int (x3 + (1 : Int32))), (1, .int (x1 + r41)), (0, .ref a0), (2, .int x2)]) g dX8_bytesOfBitmaps_67 3 rfl rfl (by decide) rfl ?_
        refine r_goto (tgt := 17) g dX8_bytesOfBitmaps_70 (by decide) ?_
        exact V_.sub (ih E (x1 + r41) (x3 + (1 : Int32)) _ hw hk44 (fun e9_1 M9 hE9 hN9 => kE e9_1 M9 hE9 (Nk_.tr hT45 hN9))) [2, 1, 3, 0] rfl
set_option maxHeartbeats 4000000 in
set_option maxRecDepth 100000 in
theorem lo_X8_bytesOfBitmaps_4 {p : Program} {l : Launch} {e : Env} {s : State} {m : MethodId} {args : Array Value} {below : List Frame} {meth : Method} {c : Code} {D : Dd_} {M0 : Mm} {Q : State → Prop} {K : Mm → Int32 → Prop} (g : G_ p s m args meth c cX8_bytesOfBitmaps 4 RX8 D M0) (hr : meth.sig.returnType = some .int) (hQ : Q = MQ below (va_Qi (fun r M' => K M' r) (cB_ D M0 s.heap.size) (Aw_ M0 s.heap.size)) args s 0 0 (Aw_ M0 s.heap.size)) {a0 : Nat} : ∀ (n : Nat) (E : Int32 → Mm → Prop) (x1 : Int32) (x2 : Int32) (M : Mm), lp_X8_bytesOfBitmaps_4 a0 K E n x1 x2 M → kd_ M a0 = 10 → (∀ (e9_1 : Int32) (M' : Mm), E e9_1 M' → Nk_ M M' → V_ p l e rmX8_bytesOfBitmaps s m args below meth c 4 D M0 Q 79 [(1, .int e9_1)] [] M' 0 0) → V_ p l e rmX8_bytesOfBitmaps s m args below meth c 4 D M0 Q 4 [(0, .ref a0), (1, .int x1), (2, .int x2)] [] M 0 0 := by
  intro n
  induction n with
  | zero =>
    intro E x1 x2 M hw
    exact hw.elim
  | succ n ih =>
    intro E x1 x2 M hw hp0 kE
    refine r_iload_n g dX8_bytesOfBitmaps_4 rfl 2 rfl ?_
    refine r_aload_n g dX8_bytesOfBitmaps_5 rfl 0 rfl ?_
    obtain ⟨hk1, hw⟩ := hw
    refine r_gtR (C := RX8) (T := TX8) (N := 11) g (ci := 9) rfl tc_X8 hp0 0 (by decide) tw_163 (fun _ h => h) rfl (k_ne hk1 (by decide)) dX8_bytesOfBitmaps_6 ?_
    refine r_callVi (As := []) g (fun sz => mt_Jx4a65c_size_8abf5 hw sz) tw_636 tw_360 tw_5 tw_358 tw_359 (ci := 0) (T := TJx4a65c) (N := 3) rfl hk1 hy_Jx4a65c_size_8abf5 ⟨rfl, rfl⟩ (Nat.le_of_ble_eq_true rfl) (Nat.le_of_ble_eq_true rfl) (Nat.le_of_ble_eq_true rfl) (Nat.le_of_ble_eq_true rfl) (Nat.le_of_ble_eq_true rfl) rfl dX8_bytesOfBitmaps_9 (fun M2 r3 hK4 hN5 => ?_)
    have hw := hK4 hN5
    have hk6 := Nk_.k hN5 hp0 (by decide)
    have hT7 := Nk_.tr (Nk_.rf _) hN5
    refine r_icmp_ge (tgt := 79) g dX8_bytesOfBitmaps_12 (by decide) (fun hc8 => ?_) (fun hc8 => ?_)
    · have hw := hw.1 hc8
      exact V_.sub (kE x1 _ hw hT7) [1] rfl
    · have hw := hw.2 hc8
      refine r_iconst (v := 0) g dX8_bytesOfBitmaps_15 (by decide) ?_
      refine r_istore_n (L' := [(3, .int (0 : Int32)), (0, .ref a0), (1, .int x1), (2, .int x2)]) g dX8_bytesOfBitmaps_16 rfl (by decide) rfl ?_
      obtain ⟨n46, hw⟩ := hw
      refine V_.sub (lo_X8_bytesOfBitmaps_17 g hr hQ n46 _ x1 (0 : Int32) _ hw hk6 (fun xv49 M47 hE hN48 => ?_)) [1, 2, 3, 0] rfl
      have hw := hE hN48
      have hk50 := Nk_.k hN48 hk6 (by decide)
      have hT51 := Nk_.tr hT7 hN48
      refine r_iinc (v := x2 + (1 : Int32)) (L' := [(2, .int (x2 + (1 : Int32))), (0, .ref a0), (1, .int xv49)]) g dX8_bytesOfBitmaps_73 2 rfl rfl (by decide) rfl ?_
      refine r_goto (tgt := 4) g dX8_bytesOfBitmaps_76 (by decide) ?_
      exact V_.sub (ih E xv49 (x2 + (1 : Int32)) _ hw hk50 (fun e9_1 M9 hE9 hN9 => kE e9_1 M9 hE9 (Nk_.tr hT51 hN9))) [1, 2, 0] rfl
set_option maxHeartbeats 4000000 in
set_option maxRecDepth 100000 in
theorem mt_X8_bytesOfBitmaps {l : Launch} {D : Dd_} {M : Mm} {a0 : Nat} {K : Mm → Int32 → Prop} (hw : wp_X8_bytesOfBitmaps a0 M K) (sz : Nat) : Met l yX8_bytesOfBitmaps (Cond.code yX8_bytesOfBitmaps cX8_bytesOfBitmaps 4 (some .int) :: tbG_) rmX8_bytesOfBitmaps (cPc_ D M sz [.ref a0]) (va_Qi (fun r M' => K M' r) (cB_ D M sz) (Aw_ M sz)) 0 0 (Aw_ M sz) := by
  refine ofV (by decide) (Nat.le_of_ble_eq_true rfl) ?_
  intro p e s m below meth c g hr hin hsz
  subst hsz
  obtain ⟨hp0, hw⟩ := hw
  refine r_iconst (v := 0) g dX8_bytesOfBitmaps_0 (by decide) ?_
  refine r_istore_n (L' := [(1, .int (0 : Int32)), (0, .ref a0)]) g dX8_bytesOfBitmaps_1 rfl (by decide) rfl ?_
  refine r_iconst (v := 0) g dX8_bytesOfBitmaps_2 (by decide) ?_
  refine r_istore_n (L' := [(2, .int (0 : Int32)), (1, .int (0 : Int32)), (0, .ref a0)]) g dX8_bytesOfBitmaps_3 rfl (by decide) rfl ?_
  obtain ⟨n52, hw⟩ := hw
  refine V_.sub (lo_X8_bytesOfBitmaps_4 g hr rfl n52 _ (0 : Int32) (0 : Int32) _ hw hp0 (fun xv55 M53 hE hN54 => ?_)) [2, 1, 0] rfl
  have hw := hE hN54
  have hT56 := Nk_.tr (Nk_.rf _) hN54
  refine r_iload_n g dX8_bytesOfBitmaps_79 rfl 0 rfl ?_
  exact r_iret g hr (Nat.le_of_ble_eq_true rfl) (Nat.le_of_ble_eq_true rfl) rfl dX8_bytesOfBitmaps_80 hw
