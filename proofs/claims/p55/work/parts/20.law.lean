/-! walks by program: 20.law -/
def rmL_below : Room := { frames := 0, cells := 0, slots := 0, locals := 0 }
theorem hy_L_below : yL_below.cls ≠ "java/lang/invoke/MethodHandle" ∧ yL_below.cls ≠ "java/lang/invoke/VarHandle" ∧ (parseMethodDescriptor yL_below.desc).map (fun d => d.parameters.length) = some 2 := by decide +kernel
def wp_L_below (x0 : Int32) (x1 : Int32) (M : Mm) (K : Mm → Int32 → Prop) : Prop := (¬ x1 = 0 ∧ (K M ((x0 &&& (2147483647 : Int32)) - (x0 &&& (2147483647 : Int32)) / x1 * x1)))
set_option maxHeartbeats 4000000 in
set_option maxRecDepth 100000 in
theorem mt_L_below {l : Launch} {D : Dd_} {M : Mm} {x0 : Int32} {x1 : Int32} {K : Mm → Int32 → Prop} (hw : wp_L_below x0 x1 M K) (sz : Nat) : Met l yL_below (Cond.code yL_below cL_below 2 (some .int) :: tbG_) rmL_below (cPc_ D M sz [.int x0, .int x1]) (va_Qi (fun r M' => K M' r) (cB_ D M sz) (Aw_ M sz)) 0 0 (Aw_ M sz) := by
  refine ofV (by decide) (Nat.le_of_ble_eq_true rfl) ?_
  intro p e s m below meth c g hr hin hsz
  subst hsz
  refine r_iload_n g dL_below_0 rfl 0 rfl ?_
  refine r_ldc (v := 2147483647) g tw_663 dL_below_1 ?_
  refine r_iand g dL_below_3 ?_
  refine r_iload_n g dL_below_4 rfl 1 rfl ?_
  obtain ⟨hd1, hw⟩ := hw
  refine r_irem g dL_below_5 hd1 ?_
  exact r_iret g hr (Nat.le_of_ble_eq_true rfl) (Nat.le_of_ble_eq_true rfl) rfl dL_below_6 hw
def rmL_cell : Room := { frames := 0, cells := 0, slots := 0, locals := 0 }
theorem hy_L_cell : yL_cell.cls ≠ "java/lang/invoke/MethodHandle" ∧ yL_cell.cls ≠ "java/lang/invoke/VarHandle" ∧ (parseMethodDescriptor yL_cell.desc).map (fun d => d.parameters.length) = some 2 := by decide +kernel
def wp_L_cell (a0 : Nat) (x1 : Int32) (M : Mm) (K : Mm → Int32 → Prop) : Prop := kd_ M a0 = 30 ∧ (((Int32.ofNat (ln_ M a0)) ≤ x1 → (K M ((790386105 : Int32) * (x1 + (3 : Int32))))) ∧ (¬ (Int32.ofNat (ln_ M a0)) ≤ x1 → (vp_in x1 (ln_ M a0) ∧ (K M (it_ M a0 (ix_ x1))))))
set_option maxHeartbeats 4000000 in
set_option maxRecDepth 100000 in
theorem mt_L_cell {l : Launch} {D : Dd_} {M : Mm} {a0 : Nat} {x1 : Int32} {K : Mm → Int32 → Prop} (hw : wp_L_cell a0 x1 M K) (sz : Nat) : Met l yL_cell (Cond.code yL_cell cL_cell 2 (some .int) :: tbG_) rmL_cell (cPc_ D M sz [.ref a0, .int x1]) (va_Qi (fun r M' => K M' r) (cB_ D M sz) (Aw_ M sz)) 0 0 (Aw_ M sz) := by
  refine ofV (by decide) (Nat.le_of_ble_eq_true rfl) ?_
  intro p e s m below meth c g hr hin hsz
  subst hsz
  obtain ⟨hp0, hw⟩ := hw
  refine r_iload_n g dL_cell_0 rfl 1 rfl ?_
  refine r_aload_n g dL_cell_1 rfl 0 rfl ?_
  refine r_alen (t := 0) g (by decide) (Or.inr hp0) dL_cell_2 ?_
  refine r_icmp_ge (tgt := 12) g dL_cell_3 (by decide) (fun hc1 => ?_) (fun hc1 => ?_)
  · have hw := hw.1 hc1
    refine r_ldc (v := 790386105) g tw_667 dL_cell_12 ?_
    refine r_iload_n g dL_cell_14 rfl 1 rfl ?_
    refine r_iconst (v := 3) g dL_cell_15 (by decide) ?_
    refine r_iadd g dL_cell_16 ?_
    refine r_imul g dL_cell_17 ?_
    exact r_iret g hr (Nat.le_of_ble_eq_true rfl) (Nat.le_of_ble_eq_true rfl) rfl dL_cell_18 hw
  · have hw := hw.2 hc1
    refine r_aload_n g dL_cell_6 rfl 0 rfl ?_
    refine r_iload_n g dL_cell_7 rfl 1 rfl ?_
    obtain ⟨hi2, hw⟩ := hw
    refine r_iald g (Or.inr hp0) hi2 dL_cell_8 ?_
    refine r_goto (tgt := 18) g dL_cell_9 (by decide) ?_
    exact r_iret g hr (Nat.le_of_ble_eq_true rfl) (Nat.le_of_ble_eq_true rfl) rfl dL_cell_18 hw
def rmL_isTableSound : Room := { frames := 5, cells := 0, slots := 0, locals := 110 }
theorem hy_L_isTableSound : yL_isTableSound.cls ≠ "java/lang/invoke/MethodHandle" ∧ yL_isTableSound.cls ≠ "java/lang/invoke/VarHandle" ∧ (parseMethodDescriptor yL_isTableSound.desc).map (fun d => d.parameters.length) = some 2 := by decide +kernel
def lp_L_isTableSound_71 (a0 : Nat) (x1 : Int32) (x2 : Int32) (x3 : Int32) (x4 : Int32) (K : Mm → Int32 → Prop) (E : Mm → Prop) : Nat → Int32 → Mm → Prop
  | 0, _, _ => False
  | n + 1, x5, M => ((x1 ≤ x5 → E M) ∧ (¬ x1 ≤ x5 → (wp_X10_isNull a0 x3 x5 M (fun M39 r40 => Nk_ M M39 → bz_ r40 → ((r40 = 0 → ((x4 < 0 → lp_L_isTableSound_71 a0 x1 x2 x3 x4 K E n (x5 + (1 : Int32)) M39) ∧ (¬ x4 < 0 → (wp_X10_isNull a0 x3 x5 M39 (fun M48 r49 => Nk_ M39 M48 → bz_ r49 → ((r49 = 0 → (wp_X10_valueOf a0 x3 x5 M48 (fun M56 r57 => Nk_ M48 M56 → (wp_X10_least a0 x4 x5 M56 (fun M62 r63 => Nk_ M56 M62 → ((r57 < r63 → (K M62 (0 : Int32))) ∧ (¬ r57 < r63 → (wp_X10_valueOf a0 x3 x5 M62 (fun M69 r70 => Nk_ M62 M69 → (wp_X10_greatest a0 x4 x5 M69 (fun M75 r76 => Nk_ M69 M75 → ((r70 ≤ r76 → lp_L_isTableSound_71 a0 x1 x2 x3 x4 K E n (x5 + (1 : Int32)) M75) ∧ (¬ r70 ≤ r76 → (K M75 (0 : Int32))))))))))))))) ∧ (¬ r49 = 0 → lp_L_isTableSound_71 a0 x1 x2 x3 x4 K E n (x5 + (1 : Int32)) M48))))))) ∧ (¬ r40 = 0 → (wp_X10_valueOf a0 x3 x5 M39 (fun M82 r83 => Nk_ M39 M82 → ((r83 = 0 → ((x4 < 0 → lp_L_isTableSound_71 a0 x1 x2 x3 x4 K E n (x5 + (1 : Int32)) M82) ∧ (¬ x4 < 0 → (wp_X10_isNull a0 x3 x5 M82 (fun M90 r91 => Nk_ M82 M90 → bz_ r91 → ((r91 = 0 → (wp_X10_valueOf a0 x3 x5 M90 (fun M98 r99 => Nk_ M90 M98 → (wp_X10_least a0 x4 x5 M98 (fun M104 r105 => Nk_ M98 M104 → ((r99 < r105 → (K M104 (0 : Int32))) ∧ (¬ r99 < r105 → (wp_X10_valueOf a0 x3 x5 M104 (fun M111 r112 => Nk_ M104 M111 → (wp_X10_greatest a0 x4 x5 M111 (fun M117 r118 => Nk_ M111 M117 → ((r112 ≤ r118 → lp_L_isTableSound_71 a0 x1 x2 x3 x4 K E n (x5 + (1 : Int32)) M117) ∧ (¬ r112 ≤ r118 → (K M117 (0 : Int32))))))))))))))) ∧ (¬ r91 = 0 → lp_L_isTableSound_71 a0 x1 x2 x3 x4 K E n (x5 + (1 : Int32)) M90))))))) ∧ (¬ r83 = 0 → (K M82 (0 : Int32))))))))))))
def lp_L_isTableSound_4 (a0 : Nat) (x1 : Int32) (K : Mm → Int32 → Prop) (E : Int32 → Mm → Prop) : Nat → Int32 → Int32 → Mm → Prop
  | 0, _, _, _ => False
  | n + 1, x2, x3, M => (wp_X10_rows a0 M (fun M1 r2 => Nk_ M M1 → ((r2 ≤ x3 → E x2 M1) ∧ (¬ r2 ≤ x3 → (wp_X10_frameOf a0 x3 M1 (fun M8 r9 => Nk_ M1 M8 → (wp_X10_isAlive a0 x3 M8 (fun M14 r15 => Nk_ M8 M14 → bz_ r15 → ((r15 = 0 → ((r9 < (-2 : Int32) → (K M14 (0 : Int32))) ∧ (¬ r9 < (-2 : Int32) → (wp_X10_frames a0 M14 (fun M23 r24 => Nk_ M14 M23 → ((r9 < r24 → (wp_X10_isAlive a0 x3 M23 (fun M30 r31 => Nk_ M23 M30 → bz_ r31 → ((r31 = 0 → (∃ n124 : Nat, lp_L_isTableSound_71 a0 x1 (x2 + (0 : Int32)) x3 r9 K (fun  M125 => Nk_ M30 M125 → lp_L_isTableSound_4 a0 x1 K E n (x2 + (0 : Int32)) (x3 + (1 : Int32)) M125) n124 (0 : Int32) M30)) ∧ (¬ r31 = 0 → (∃ n129 : Nat, lp_L_isTableSound_71 a0 x1 (x2 + (1 : Int32)) x3 r9 K (fun  M130 => Nk_ M30 M130 → lp_L_isTableSound_4 a0 x1 K E n (x2 + (1 : Int32)) (x3 + (1 : Int32)) M130) n129 (0 : Int32) M30)))))) ∧ (¬ r9 < r24 → (K M23 (0 : Int32))))))))) ∧ (¬ r15 = 0 → ((r9 = (-2 : Int32) → (K M14 (0 : Int32))) ∧ (¬ r9 = (-2 : Int32) → ((r9 < (-2 : Int32) → (K M14 (0 : Int32))) ∧ (¬ r9 < (-2 : Int32) → (wp_X10_frames a0 M14 (fun M136 r137 => Nk_ M14 M136 → ((r9 < r137 → (wp_X10_isAlive a0 x3 M136 (fun M143 r144 => Nk_ M136 M143 → bz_ r144 → ((r144 = 0 → (∃ n151 : Nat, lp_L_isTableSound_71 a0 x1 (x2 + (0 : Int32)) x3 r9 K (fun  M152 => Nk_ M143 M152 → lp_L_isTableSound_4 a0 x1 K E n (x2 + (0 : Int32)) (x3 + (1 : Int32)) M152) n151 (0 : Int32) M143)) ∧ (¬ r144 = 0 → (∃ n156 : Nat, lp_L_isTableSound_71 a0 x1 (x2 + (1 : Int32)) x3 r9 K (fun  M157 => Nk_ M143 M157 → lp_L_isTableSound_4 a0 x1 K E n (x2 + (1 : Int32)) (x3 + (1 : Int32)) M157) n156 (0 : Int32) M143)))))) ∧ (¬ r9 < r137 → (K M136 (0 : Int32))))))))))))))))))))
def lp_L_isTableSound_184 (a0 : Nat) (x1 : Int32) (x2 : Int32) (x3 : Int32) (x4 : Int32) (x5 : Int32) (K : Mm → Int32 → Prop) (E : Mm → Prop) : Nat → Int32 → Mm → Prop
  | 0, _, _ => False
  | n + 1, x6, M => (wp_X10_rowsIn a0 x4 M (fun M174 r175 => Nk_ M M174 → ((r175 ≤ x6 → E M174) ∧ (¬ r175 ≤ x6 → (wp_X10_rowAt a0 x4 x6 M174 (fun M181 r182 => Nk_ M174 M181 → (wp_X10_frameOf a0 r182 M181 (fun M187 r188 => Nk_ M181 M187 → ((r188 = x4 → lp_L_isTableSound_184 a0 x1 x2 x3 x4 x5 K E n (x6 + (1 : Int32)) M187) ∧ (¬ r188 = x4 → (K M187 (0 : Int32))))))))))))
def lp_L_isTableSound_242 (a0 : Nat) (x1 : Int32) (x2 : Int32) (x3 : Int32) (x4 : Int32) (x5 : Int32) (x6 : Int32) (x7 : Int32) (K : Mm → Int32 → Prop) (E : Mm → Prop) : Nat → Int32 → Mm → Prop
  | 0, _, _ => False
  | n + 1, x8, M => (((5 : Int32) ≤ x8 → E M) ∧ (¬ (5 : Int32) ≤ x8 → (wp_X10_bytesAs a0 x4 x6 x8 M (fun M207 r208 => Nk_ M M207 → ((r208 < 0 → lp_L_isTableSound_242 a0 x1 x2 x3 x4 x5 x6 x7 K E n (x8 + (1 : Int32)) M207) ∧ (¬ r208 < 0 → (wp_X10_bytesAs a0 x4 x6 x7 M207 (fun M214 r215 => Nk_ M207 M214 → ((r208 < r215 → (K M214 (0 : Int32))) ∧ (¬ r208 < r215 → (wp_X10_bytesAs a0 x4 x6 x7 M214 (fun M221 r222 => Nk_ M214 M221 → ((r208 = r222 → ((x7 ≤ x8 → lp_L_isTableSound_242 a0 x1 x2 x3 x4 x5 x6 x7 K E n (x8 + (1 : Int32)) M221) ∧ (¬ x7 ≤ x8 → (K M221 (0 : Int32))))) ∧ (¬ r208 = r222 → lp_L_isTableSound_242 a0 x1 x2 x3 x4 x5 x6 x7 K E n (x8 + (1 : Int32)) M221))))))))))))))
def lp_L_isTableSound_223 (a0 : Nat) (x1 : Int32) (x2 : Int32) (x3 : Int32) (x4 : Int32) (K : Mm → Int32 → Prop) (E : Int32 → Mm → Prop) : Nat → Int32 → Int32 → Mm → Prop
  | 0, _, _, _ => False
  | n + 1, x5, x6, M => ((x1 ≤ x6 → E x5 M) ∧ (¬ x1 ≤ x6 → (wp_X10_formOf a0 x4 x6 M (fun M200 r201 => Nk_ M M200 → (∃ n229 : Nat, lp_L_isTableSound_242 a0 x1 x2 x3 x4 x5 x6 r201 K (fun  M230 => Nk_ M200 M230 → (wp_X10_bytesAs a0 x4 x6 r201 M230 (fun M234 r235 => Nk_ M230 M234 → (wp_X10_nulls a0 x4 x6 M234 (fun M240 r241 => Nk_ M234 M240 → (wp_X10_distinct a0 x4 x6 M240 (fun M246 r247 => Nk_ M240 M246 → (wp_X10_rowsIn a0 x4 M246 (fun M252 r253 => Nk_ M246 M252 → ((r253 < (r241 + r247) → (K M252 (0 : Int32))) ∧ (¬ r253 < (r241 + r247) → (wp_X10_runs a0 x4 x6 M252 (fun M259 r260 => Nk_ M252 M259 → ((r260 < (1 : Int32) → (K M259 (0 : Int32))) ∧ (¬ r260 < (1 : Int32) → (wp_X10_runs a0 x4 x6 M259 (fun M266 r267 => Nk_ M259 M266 → (wp_X10_distinct a0 x4 x6 M266 (fun M272 r273 => Nk_ M266 M272 → ((r273 ≤ r267 → lp_L_isTableSound_223 a0 x1 x2 x3 x4 K E n (x5 + r235) (x6 + (1 : Int32)) M272) ∧ (¬ r273 ≤ r267 → (K M272 (0 : Int32))))))))))))))))))))))) n229 (0 : Int32) M200)))))
def lp_L_isTableSound_169 (a0 : Nat) (x1 : Int32) (x2 : Int32) (K : Mm → Int32 → Prop) (E : Int32 → Mm → Prop) : Nat → Int32 → Int32 → Mm → Prop
  | 0, _, _, _ => False
  | n + 1, x3, x4, M => (wp_X10_frames a0 M (fun M167 r168 => Nk_ M M167 → ((r168 ≤ x4 → E x3 M167) ∧ (¬ r168 ≤ x4 → (∃ n194 : Nat, lp_L_isTableSound_184 a0 x1 x2 x3 x4 (0 : Int32) K (fun  M195 => Nk_ M167 M195 → (∃ n279 : Nat, lp_L_isTableSound_223 a0 x1 x2 x3 x4 K (fun xv282 M280 => Nk_ M195 M280 → (wp_X10_bytes a0 x4 M280 (fun M285 r286 => Nk_ M280 M285 → ((r286 = xv282 → (wp_X10_rowsIn a0 x4 M285 (fun M292 r293 => Nk_ M285 M292 → ((r293 < (1 : Int32) → (K M292 (0 : Int32))) ∧ (¬ r293 < (1 : Int32) → (wp_X10_rowsIn a0 x4 M292 (fun M299 r300 => Nk_ M292 M299 → ((r300 ≤ (64 : Int32) → lp_L_isTableSound_169 a0 x1 x2 K E n (x3 + xv282) (x4 + (1 : Int32)) M299) ∧ (¬ r300 ≤ (64 : Int32) → (K M299 (0 : Int32))))))))))) ∧ (¬ r286 = xv282 → (K M285 (0 : Int32))))))) n279 (0 : Int32) (0 : Int32) M195)) n194 (0 : Int32) M167)))))
def wp_L_isTableSound (a0 : Nat) (x1 : Int32) (M : Mm) (K : Mm → Int32 → Prop) : Prop := kd_ M a0 = 12 ∧ (∃ n161 : Nat, lp_L_isTableSound_4 a0 x1 K (fun xv164 M162 => Nk_ M M162 → (∃ n306 : Nat, lp_L_isTableSound_169 a0 x1 xv164 K (fun xv309 M307 => Nk_ M162 M307 → (wp_X10_alive a0 M307 (fun M312 r313 => Nk_ M307 M312 → ((r313 = xv164 → (wp_X10_bitmapBytes a0 M312 (fun M319 r320 => Nk_ M312 M319 → ((r320 < 0 → (K M319 (0 : Int32))) ∧ (¬ r320 < 0 → ((xv309 < 0 → (K M319 (0 : Int32))) ∧ (¬ xv309 < 0 → (K M319 (1 : Int32))))))))) ∧ (¬ r313 = xv164 → (K M312 (0 : Int32))))))) n306 (0 : Int32) (0 : Int32) M162)) n161 (0 : Int32) (0 : Int32) M)
set_option maxHeartbeats 4000000 in
set_option maxRecDepth 100000 in
theorem lo_L_isTableSound_71 {p : Program} {l : Launch} {e : Env} {s : State} {m : MethodId} {args : Array Value} {below : List Frame} {meth : Method} {c : Code} {D : Dd_} {M0 : Mm} {Q : State → Prop} {K : Mm → Int32 → Prop} (g : G_ p s m args meth c cL_isTableSound 10 RL D M0) (hr : meth.sig.returnType = some .boolean) (hQ : Q = MQ below (va_Qi (fun r M' => K M' r ∧ bz_ r) (cB_ D M0 s.heap.size) (Aw_ M0 s.heap.size)) args s 0 0 (Aw_ M0 s.heap.size)) {a0 : Nat} {x1 : Int32} {x2 : Int32} {x3 : Int32} {x4 : Int32} : ∀ (n : Nat) (E : Mm → Prop) (x5 : Int32) (M : Mm), lp_L_isTableSound_71 a0 x1 x2 x3 x4 K E n x5 M → kd_ M a0 = 12 → (∀  (M' : Mm), E  M' → Nk_ M M' → V_ p l e rmL_isTableSound s m args below meth c 10 D M0 Q 158 [(0, .ref a0), (1, .int x1), (2, .int x2), (3, .int x3)] [] M' 0 0) → V_ p l e rmL_isTableSound s m args below meth c 10 D M0 Q 71 [(0, .ref a0), (1, .int x1), (2, .int x2), (3, .int x3), (4, .int x4), (5, .int x5)] [] M 0 0 := by
  intro n
  induction n with
  | zero =>
    intro E x5 M hw
    exact hw.elim
  | succ n ih =>
    intro E x5 M hw hp0 kE
    refine r_iload g dL_isTableSound_71 5 rfl ?_
    refine r_iload_n g dL_isTableSound_73 rfl 1 rfl ?_
    refine r_icmp_ge (tgt := 158) g dL_isTableSound_74 (by decide) (fun hc38 => ?_) (fun hc38 => ?_)
    · have hw := hw.1 hc38
      exact V_.sub (kE  _ hw (Nk_.rf _)) [0, 1, 2, 3] rfl
    · have hw := hw.2 hc38
      refine r_aload_n g dL_isTableSound_77 rfl 0 rfl ?_
      refine r_iload_n g dL_isTableSound_78 rfl 3 rfl ?_
      refine r_iload g dL_isTableSound_79 5 rfl ?_
      refine r_callVz (As := [.int x3, .int x5]) g (fun sz => mt_X10_isNull hw sz) tw_965 tw_968 tw_1 tw_966 tw_967 (ci := 11) (T := TX10) (N := 6) rfl hp0 hy_X10_isNull ⟨rfl, rfl⟩ (Nat.le_of_ble_eq_true rfl) (Nat.le_of_ble_eq_true rfl) (Nat.le_of_ble_eq_true rfl) (Nat.le_of_ble_eq_true rfl) (Nat.le_of_ble_eq_true rfl) rfl dL_isTableSound_81 (fun M39 r40 hK41 hb43 hN42 => ?_)
      have hw := hK41 hN42 hb43
      have hk44 := Nk_.k hN42 hp0 (by decide)
      have hT45 := Nk_.tr (Nk_.rf _) hN42
      refine r_if_eq (tgt := 99) g dL_isTableSound_84 (by decide) (fun hc46 => ?_) (fun hc46 => ?_)
      · have hw := hw.1 hc46
        refine r_iload g dL_isTableSound_99 4 rfl ?_
        refine r_if_lt (tgt := 152) g dL_isTableSound_101 (by decide) (fun hc47 => ?_) (fun hc47 => ?_)
        · have hw := hw.1 hc47
          refine r_iinc (v := x5 + (1 : Int32)) (L' := [(5, .int (x5 + (1 : Int32))), (0, .ref a0), (1, .int x1), (2, .int x2), (3, .int x3), (4, .int x4)]) g dL_isTableSound_152 5 rfl rfl (by decide) rfl ?_
          refine r_goto (tgt := 71) g dL_isTableSound_155 (by decide) ?_
          exact V_.sub (ih E (x5 + (1 : Int32)) _ hw hk44 (fun  M9 hE9 hN9 => kE  M9 hE9 (Nk_.tr hT45 hN9))) [1, 2, 3, 4, 5, 0] rfl
        · have hw := hw.2 hc47
          refine r_aload_n g dL_isTableSound_104 rfl 0 rfl ?_
          refine r_iload_n g dL_isTableSound_105 rfl 3 rfl ?_
          refine r_iload g dL_isTableSound_106 5 rfl ?_
          refine r_callVz (As := [.int x3, .int x5]) g (fun sz => mt_X10_isNull hw sz) tw_965 tw_968 tw_1 tw_966 tw_967 (ci := 11) (T := TX10) (N := 6) rfl hk44 hy_X10_isNull ⟨rfl, rfl⟩ (Nat.le_of_ble_eq_true rfl) (Nat.le_of_ble_eq_true rfl) (Nat.le_of_ble_eq_true rfl) (Nat.le_of_ble_eq_true rfl) (Nat.le_of_ble_eq_true rfl) rfl dL_isTableSound_108 (fun M48 r49 hK50 hb52 hN51 => ?_)
          have hw := hK50 hN51 hb52
          have hk53 := Nk_.k hN51 hk44 (by decide)
          have hT54 := Nk_.tr hT45 hN51
          refine r_if_ne (tgt := 152) g dL_isTableSound_111 (by decide) (fun hc55 => ?_) (fun hc55 => ?_)
          · have hw := hw.2 hc55
            refine r_iinc (v := x5 + (1 : Int32)) (L' := [(5, .int (x5 + (1 : Int32))), (0, .ref a0), (1, .int x1), (2, .int x2), (3, .int x3), (4, .int x4)]) g dL_isTableSound_152 5 rfl rfl (by decide) rfl ?_
            refine r_goto (tgt := 71) g dL_isTableSound_155 (by decide) ?_
            exact V_.sub (ih E (x5 + (1 : Int32)) _ hw hk53 (fun  M9 hE9 hN9 => kE  M9 hE9 (Nk_.tr hT54 hN9))) [1, 2, 3, 4, 5, 0] rfl
          · have hw := hw.1 hc55
            refine r_aload_n g dL_isTableSound_114 rfl 0 rfl ?_
            refine r_iload_n g dL_isTableSound_115 rfl 3 rfl ?_
            refine r_iload g dL_isTableSound_116 5 rfl ?_
            refine r_callVi (As := [.int x3, .int x5]) g (fun sz => mt_X10_valueOf hw sz) tw_969 tw_972 tw_1 tw_970 tw_971 (ci := 11) (T := TX10) (N := 6) rfl hk53 hy_X10_valueOf ⟨rfl, rfl⟩ (Nat.le_of_ble_eq_true rfl) (Nat.le_of_ble_eq_true rfl) (Nat.le_of_ble_eq_true rfl) (Nat.le_of_ble_eq_true rfl) (Nat.le_of_ble_eq_true rfl) rfl dL_isTableSound_118 (fun M56 r57 hK58 hN59 => ?_)
            have hw := hK58 hN59
            have hk60 := Nk_.k hN59 hk53 (by decide)
            have hT61 := Nk_.tr hT54 hN59
            refine r_aload_n g dL_isTableSound_121 rfl 0 rfl ?_
            refine r_iload g dL_isTableSound_122 4 rfl ?_
            refine r_iload g dL_isTableSound_124 5 rfl ?_
            refine r_callVi (As := [.int x4, .int x5]) g (fun sz => mt_X10_least hw sz) tw_973 tw_976 tw_1 tw_974 tw_975 (ci := 11) (T := TX10) (N := 6) rfl hk60 hy_X10_least ⟨rfl, rfl⟩ (Nat.le_of_ble_eq_true rfl) (Nat.le_of_ble_eq_true rfl) (Nat.le_of_ble_eq_true rfl) (Nat.le_of_ble_eq_true rfl) (Nat.le_of_ble_eq_true rfl) rfl dL_isTableSound_126 (fun M62 r63 hK64 hN65 => ?_)
            have hw := hK64 hN65
            have hk66 := Nk_.k hN65 hk60 (by decide)
            have hT67 := Nk_.tr hT61 hN65
            refine r_icmp_lt (tgt := 150) g dL_isTableSound_129 (by decide) (fun hc68 => ?_) (fun hc68 => ?_)
            · have hw := hw.1 hc68
              refine r_iconst (v := 0) g dL_isTableSound_150 (by decide) ?_
              exact r_zret g hr (Nat.le_of_ble_eq_true rfl) (Nat.le_of_ble_eq_true rfl) hQ (Or.inl rfl) dL_isTableSound_151 hw
            · have hw := hw.2 hc68
              refine r_aload_n g dL_isTableSound_132 rfl 0 rfl ?_
              refine r_iload_n g dL_isTableSound_133 rfl 3 rfl ?_
              refine r_iload g dL_isTableSound_134 5 rfl ?_
              refine r_callVi (As := [.int x3, .int x5]) g (fun sz => mt_X10_valueOf hw sz) tw_969 tw_972 tw_1 tw_970 tw_971 (ci := 11) (T := TX10) (N := 6) rfl hk66 hy_X10_valueOf ⟨rfl, rfl⟩ (Nat.le_of_ble_eq_true rfl) (Nat.le_of_ble_eq_true rfl) (Nat.le_of_ble_eq_true rfl) (Nat.le_of_ble_eq_true rfl) (Nat.le_of_ble_eq_true rfl) rfl dL_isTableSound_136 (fun M69 r70 hK71 hN72 => ?_)
              have hw := hK71 hN72
              have hk73 := Nk_.k hN72 hk66 (by decide)
              have hT74 := Nk_.tr hT67 hN72
              refine r_aload_n g dL_isTableSound_139 rfl 0 rfl ?_
              refine r_iload g dL_isTableSound_140 4 rfl ?_
              refine r_iload g dL_isTableSound_142 5 rfl ?_
              refine r_callVi (As := [.int x4, .int x5]) g (fun sz => mt_X10_greatest hw sz) tw_981 tw_984 tw_1 tw_982 tw_983 (ci := 11) (T := TX10) (N := 6) rfl hk73 hy_X10_greatest ⟨rfl, rfl⟩ (Nat.le_of_ble_eq_true rfl) (Nat.le_of_ble_eq_true rfl) (Nat.le_of_ble_eq_true rfl) (Nat.le_of_ble_eq_true rfl) (Nat.le_of_ble_eq_true rfl) rfl dL_isTableSound_144 (fun M75 r76 hK77 hN78 => ?_)
              have hw := hK77 hN78
              have hk79 := Nk_.k hN78 hk73 (by decide)
              have hT80 := Nk_.tr hT74 hN78
              refine r_icmp_le (tgt := 152) g dL_isTableSound_147 (by decide) (fun hc81 => ?_) (fun hc81 => ?_)
              · have hw := hw.1 hc81
                refine r_iinc (v := x5 + (1 : Int32)) (L' := [(5, .int (x5 + (1 : Int32))), (0, .ref a0), (1, .int x1), (2, .int x2), (3, .int x3), (4, .int x4)]) g dL_isTableSound_152 5 rfl rfl (by decide) rfl ?_
                refine r_goto (tgt := 71) g dL_isTableSound_155 (by decide) ?_
                exact V_.sub (ih E (x5 + (1 : Int32)) _ hw hk79 (fun  M9 hE9 hN9 => kE  M9 hE9 (Nk_.tr hT80 hN9))) [1, 2, 3, 4, 5, 0] rfl
              · have hw := hw.2 hc81
                refine r_iconst (v := 0) g dL_isTableSound_150 (by decide) ?_
                exact r_zret g hr (Nat.le_of_ble_eq_true rfl) (Nat.le_of_ble_eq_true rfl) hQ (Or.inl rfl) dL_isTableSound_151 hw
      · have hw := hw.2 hc46
        refine r_aload_n g dL_isTableSound_87 rfl 0 rfl ?_
        refine r_iload_n g dL_isTableSound_88 rfl 3 rfl ?_
        refine r_iload g dL_isTableSound_89 5 rfl ?_
        refine r_callVi (As := [.int x3, .int x5]) g (fun sz => mt_X10_valueOf hw sz) tw_969 tw_972 tw_1 tw_970 tw_971 (ci := 11) (T := TX10) (N := 6) rfl hk44 hy_X10_valueOf ⟨rfl, rfl⟩ (Nat.le_of_ble_eq_true rfl) (Nat.le_of_ble_eq_true rfl) (Nat.le_of_ble_eq_true rfl) (Nat.le_of_ble_eq_true rfl) (Nat.le_of_ble_eq_true rfl) rfl dL_isTableSound_91 (fun M82 r83 hK84 hN85 => ?_)
        have hw := hK84 hN85
        have hk86 := Nk_.k hN85 hk44 (by decide)
        have hT87 := Nk_.tr hT45 hN85
        refine r_if_eq (tgt := 99) g dL_isTableSound_94 (by decide) (fun hc88 => ?_) (fun hc88 => ?_)
        · have hw := hw.1 hc88
          refine r_iload g dL_isTableSound_99 4 rfl ?_
          refine r_if_lt (tgt := 152) g dL_isTableSound_101 (by decide) (fun hc89 => ?_) (fun hc89 => ?_)
          · have hw := hw.1 hc89
            refine r_iinc (v := x5 + (1 : Int32)) (L' := [(5, .int (x5 + (1 : Int32))), (0, .ref a0), (1, .int x1), (2, .int x2), (3, .int x3), (4, .int x4)]) g dL_isTableSound_152 5 rfl rfl (by decide) rfl ?_
            refine r_goto (tgt := 71) g dL_isTableSound_155 (by decide) ?_
            exact V_.sub (ih E (x5 + (1 : Int32)) _ hw hk86 (fun  M9 hE9 hN9 => kE  M9 hE9 (Nk_.tr hT87 hN9))) [1, 2, 3, 4, 5, 0] rfl
          · have hw := hw.2 hc89
            refine r_aload_n g dL_isTableSound_104 rfl 0 rfl ?_
            refine r_iload_n g dL_isTableSound_105 rfl 3 rfl ?_
            refine r_iload g dL_isTableSound_106 5 rfl ?_
            refine r_callVz (As := [.int x3, .int x5]) g (fun sz => mt_X10_isNull hw sz) tw_965 tw_968 tw_1 tw_966 tw_967 (ci := 11) (T := TX10) (N := 6) rfl hk86 hy_X10_isNull ⟨rfl, rfl⟩ (Nat.le_of_ble_eq_true rfl) (Nat.le_of_ble_eq_true rfl) (Nat.le_of_ble_eq_true rfl) (Nat.le_of_ble_eq_true rfl) (Nat.le_of_ble_eq_true rfl) rfl dL_isTableSound_108 (fun M90 r91 hK92 hb94 hN93 => ?_)
            have hw := hK92 hN93 hb94
            have hk95 := Nk_.k hN93 hk86 (by decide)
            have hT96 := Nk_.tr hT87 hN93
            refine r_if_ne (tgt := 152) g dL_isTableSound_111 (by decide) (fun hc97 => ?_) (fun hc97 => ?_)
            · have hw := hw.2 hc97
              refine r_iinc (v := x5 + (1 : Int32)) (L' := [(5, .int (x5 + (1 : Int32))), (0, .ref a0), (1, .int x1), (2, .int x2), (3, .int x3), (4, .int x4)]) g dL_isTableSound_152 5 rfl rfl (by decide) rfl ?_
              refine r_goto (tgt := 71) g dL_isTableSound_155 (by decide) ?_
              exact V_.sub (ih E (x5 + (1 : Int32)) _ hw hk95 (fun  M9 hE9 hN9 => kE  M9 hE9 (Nk_.tr hT96 hN9))) [1, 2, 3, 4, 5, 0] rfl
            · have hw := hw.1 hc97
              refine r_aload_n g dL_isTableSound_114 rfl 0 rfl ?_
              refine r_iload_n g dL_isTableSound_115 rfl 3 rfl ?_
              refine r_iload g dL_isTableSound_116 5 rfl ?_
              refine r_callVi (As := [.int x3, .int x5]) g (fun sz => mt_X10_valueOf hw sz) tw_969 tw_972 tw_1 tw_970 tw_971 (ci := 11) (T := TX10) (N := 6) rfl hk95 hy_X10_valueOf ⟨rfl, rfl⟩ (Nat.le_of_ble_eq_true rfl) (Nat.le_of_ble_eq_true rfl) (Nat.le_of_ble_eq_true rfl) (Nat.le_of_ble_eq_true rfl) (Nat.le_of_ble_eq_true rfl) rfl dL_isTableSound_118 (fun M98 r99 hK100 hN101 => ?_)
              have hw := hK100 hN101
              have hk102 := Nk_.k hN101 hk95 (by decide)
              have hT103 := Nk_.tr hT96 hN101
              refine r_aload_n g dL_isTableSound_121 rfl 0 rfl ?_
              refine r_iload g dL_isTableSound_122 4 rfl ?_
              refine r_iload g dL_isTableSound_124 5 rfl ?_
              refine r_callVi (As := [.int x4, .int x5]) g (fun sz => mt_X10_least hw sz) tw_973 tw_976 tw_1 tw_974 tw_975 (ci := 11) (T := TX10) (N := 6) rfl hk102 hy_X10_least ⟨rfl, rfl⟩ (Nat.le_of_ble_eq_true rfl) (Nat.le_of_ble_eq_true rfl) (Nat.le_of_ble_eq_true rfl) (Nat.le_of_ble_eq_true rfl) (Nat.le_of_ble_eq_true rfl) rfl dL_isTableSound_126 (fun M104 r105 hK106 hN107 => ?_)
              have hw := hK106 hN107
              have hk108 := Nk_.k hN107 hk102 (by decide)
              have hT109 := Nk_.tr hT103 hN107
              refine r_icmp_lt (tgt := 150) g dL_isTableSound_129 (by decide) (fun hc110 => ?_) (fun hc110 => ?_)
              · have hw := hw.1 hc110
                refine r_iconst (v := 0) g dL_isTableSound_150 (by decide) ?_
                exact r_zret g hr (Nat.le_of_ble_eq_true rfl) (Nat.le_of_ble_eq_true rfl) hQ (Or.inl rfl) dL_isTableSound_151 hw
              · have hw := hw.2 hc110
                refine r_aload_n g dL_isTableSound_132 rfl 0 rfl ?_
                refine r_iload_n g dL_isTableSound_133 rfl 3 rfl ?_
                refine r_iload g dL_isTableSound_134 5 rfl ?_
                refine r_callVi (As := [.int x3, .int x5]) g (fun sz => mt_X10_valueOf hw sz) tw_969 tw_972 tw_1 tw_970 tw_971 (ci := 11) (T := TX10) (N := 6) rfl hk108 hy_X10_valueOf ⟨rfl, rfl⟩ (Nat.le_of_ble_eq_true rfl) (Nat.le_of_ble_eq_true rfl) (Nat.le_of_ble_eq_true rfl) (Nat.le_of_ble_eq_true rfl) (Nat.le_of_ble_eq_true rfl) rfl dL_isTableSound_136 (fun M111 r112 hK113 hN114 => ?_)
                have hw := hK113 hN114
                have hk115 := Nk_.k hN114 hk108 (by decide)
                have hT116 := Nk_.tr hT109 hN114
                refine r_aload_n g dL_isTableSound_139 rfl 0 rfl ?_
                refine r_iload g dL_isTableSound_140 4 rfl ?_
                refine r_iload g dL_isTableSound_142 5 rfl ?_
                refine r_callVi (As := [.int x4, .int x5]) g (fun sz => mt_X10_greatest hw sz) tw_981 tw_984 tw_1 tw_982 tw_983 (ci := 11) (T := TX10) (N := 6) rfl hk115 hy_X10_greatest ⟨rfl, rfl⟩ (Nat.le_of_ble_eq_true rfl) (Nat.le_of_ble_eq_true rfl) (Nat.le_of_ble_eq_true rfl) (Nat.le_of_ble_eq_true rfl) (Nat.le_of_ble_eq_true rfl) rfl dL_isTableSound_144 (fun M117 r118 hK119 hN120 => ?_)
                have hw := hK119 hN120
                have hk121 := Nk_.k hN120 hk115 (by decide)
                have hT122 := Nk_.tr hT116 hN120
                refine r_icmp_le (tgt := 152) g dL_isTableSound_147 (by decide) (fun hc123 => ?_) (fun hc123 => ?_)
                · have hw := hw.1 hc123
                  refine r_iinc (v := x5 + (1 : Int32)) (L' := [(5, .int (x5 + (1 : Int32))), (0, .ref a0), (1, .int x1), (2, .int x2), (3, .int x3), (4, .int x4)]) g dL_isTableSound_152 5 rfl rfl (by decide) rfl ?_
                  refine r_goto (tgt := 71) g dL_isTableSound_155 (by decide) ?_
                  exact V_.sub (ih E (x5 + (1 : Int32)) _ hw hk121 (fun  M9 hE9 hN9 => kE  M9 hE9 (Nk_.tr hT122 hN9))) [1, 2, 3, 4, 5, 0] rfl
                · have hw := hw.2 hc123
                  refine r_iconst (v := 0) g dL_isTableSound_150 (by decide) ?_
                  exact r_zret g hr (Nat.le_of_ble_eq_true rfl) (Nat.le_of_ble_eq_true rfl) hQ (Or.inl rfl) dL_isTableSound_151 hw
        · have hw := hw.2 hc88
          refine r_iconst (v := 0) g dL_isTableSound_97 (by decide) ?_
          exact r_zret g hr (Nat.le_of_ble_eq_true rfl) (Nat.le_of_ble_eq_true rfl) hQ (Or.inl rfl) dL_isTableSound_98 hw
set_option maxHeartbeats 4000000 in
set_option maxRecDepth 100000 in
theorem lo_L_isTableSound_4 {p : Program} {l : Launch} {e : Env} {s : State} {m : MethodId} {args : Array Value} {below : List Frame} {meth : Method} {c : Code} {D : Dd_} {M0 : Mm} {Q : State → Prop} {K : Mm → Int32 → Prop} (g : G_ p s m args meth c cL_isTableSound 10 RL D M0) (hr : meth.sig.returnType = some .boolean) (hQ : Q = MQ below (va_Qi (fun r M' => K M' r ∧ bz_ r) (cB_ D M0 s.heap.size) (Aw_ M0 s.heap.size)) args s 0 0 (Aw_ M0 s.heap.size)) {a0 : Nat} {x1 : Int32} : ∀ (n : Nat) (E : Int32 → Mm → Prop) (x2 : Int32) (x3 : Int32) (M : Mm), lp_L_isTableSound_4 a0 x1 K E n x2 x3 M → kd_ M a0 = 12 → (∀ (e9_2 : Int32) (M' : Mm), E e9_2 M' → Nk_ M M' → V_ p l e rmL_isTableSound s m args below meth c 10 D M0 Q 164 [(0, .ref a0), (1, .int x1), (2, .int e9_2)] [] M' 0 0) → V_ p l e rmL_isTableSound s m args below meth c 10 D M0 Q 4 [(0, .ref a0), (1, .int x1), (2, .int x2), (3, .int x3)] [] M 0 0 := by
  intro n
  induction n with
  | zero =>
    intro E x2 x3 M hw
    exact hw.elim
  | succ n ih =>
    intro E x2 x3 M hw hp0 kE
    refine r_iload_n g dL_isTableSound_4 rfl 3 rfl ?_
    refine r_aload_n g dL_isTableSound_5 rfl 0 rfl ?_
    refine r_callVi (As := []) g (fun sz => mt_X10_rows hw sz) tw_673 tw_676 tw_1 tw_674 tw_675 (ci := 11) (T := TX10) (N := 6) rfl hp0 hy_X10_rows ⟨rfl, rfl⟩ (Nat.le_of_ble_eq_true rfl) (Nat.le_of_ble_eq_true rfl) (Nat.le_of_ble_eq_true rfl) (Nat.le_of_ble_eq_true rfl) (Nat.le_of_ble_eq_true rfl) rfl dL_isTableSound_6 (fun M1 r2 hK3 hN4 => ?_)
    have hw := hK3 hN4
    have hk5 := Nk_.k hN4 hp0 (by decide)
    have hT6 := Nk_.tr (Nk_.rf _) hN4
    refine r_icmp_ge (tgt := 164) g dL_isTableSound_9 (by decide) (fun hc7 => ?_) (fun hc7 => ?_)
    · have hw := hw.1 hc7
      exact V_.sub (kE x2 _ hw hT6) [0, 1, 2] rfl
    · have hw := hw.2 hc7
      refine r_aload_n g dL_isTableSound_12 rfl 0 rfl ?_
      refine r_iload_n g dL_isTableSound_13 rfl 3 rfl ?_
      refine r_callVi (As := [.int x3]) g (fun sz => mt_X10_frameOf hw sz) tw_957 tw_960 tw_1 tw_958 tw_959 (ci := 11) (T := TX10) (N := 6) rfl hk5 hy_X10_frameOf ⟨rfl, rfl⟩ (Nat.le_of_ble_eq_true rfl) (Nat.le_of_ble_eq_true rfl) (Nat.le_of_ble_eq_true rfl) (Nat.le_of_ble_eq_true rfl) (Nat.le_of_ble_eq_true rfl) rfl dL_isTableSound_14 (fun M8 r9 hK10 hN11 => ?_)
      have hw := hK10 hN11
      have hk12 := Nk_.k hN11 hk5 (by decide)
      have hT13 := Nk_.tr hT6 hN11
      refine r_istore (L' := [(4, .int r9), (0, .ref a0), (1, .int x1), (2, .int x2), (3, .int x3)]) g dL_isTableSound_17 (by decide) rfl ?_
      refine r_aload_n g dL_isTableSound_19 rfl 1 rfl ?_
      refine r_iload_n g dL_isTableSound_20 rfl 4 rfl ?_
      refine r_callVz (As := [.int x3]) g (fun sz => mt_X10_isAlive hw sz) tw_961 tw_964 tw_1 tw_962 tw_963 (ci := 11) (T := TX10) (N := 6) rfl hk12 hy_X10_isAlive ⟨rfl, rfl⟩ (Nat.le_of_ble_eq_true rfl) (Nat.le_of_ble_eq_true rfl) (Nat.le_of_ble_eq_true rfl) (Nat.le_of_ble_eq_true rfl) (Nat.le_of_ble_eq_true rfl) rfl dL_isTableSound_21 (fun M14 r15 hK16 hb18 hN17 => ?_)
      have hw := hK16 hN17 hb18
      have hk19 := Nk_.k hN17 hk12 (by decide)
      have hT20 := Nk_.tr hT13 hN17
      refine r_if_eq (tgt := 34) g dL_isTableSound_24 (by decide) (fun hc21 => ?_) (fun hc21 => ?_)
      · have hw := hw.1 hc21
        refine r_iload g dL_isTableSound_34 0 rfl ?_
        refine r_bipush (v := -2) g dL_isTableSound_36 (by decide) ?_
        refine r_icmp_lt (tgt := 50) g dL_isTableSound_38 (by decide) (fun hc22 => ?_) (fun hc22 => ?_)
        · have hw := hw.1 hc22
          refine r_iconst (v := 0) g dL_isTableSound_50 (by decide) ?_
          exact r_zret g hr (Nat.le_of_ble_eq_true rfl) (Nat.le_of_ble_eq_true rfl) hQ (Or.inl rfl) dL_isTableSound_51 hw
        · have hw := hw.2 hc22
          refine r_iload g dL_isTableSound_41 0 rfl ?_
          refine r_aload_n g dL_isTableSound_43 rfl 1 rfl ?_
          refine r_callVi (As := []) g (fun sz => mt_X10_frames hw sz) tw_678 tw_681 tw_1 tw_679 tw_680 (ci := 11) (T := TX10) (N := 6) rfl hk19 hy_X10_frames ⟨rfl, rfl⟩ (Nat.le_of_ble_eq_true rfl) (Nat.le_of_ble_eq_true rfl) (Nat.le_of_ble_eq_true rfl) (Nat.le_of_ble_eq_true rfl) (Nat.le_of_ble_eq_true rfl) rfl dL_isTableSound_44 (fun M23 r24 hK25 hN26 => ?_)
          have hw := hK25 hN26
          have hk27 := Nk_.k hN26 hk19 (by decide)
          have hT28 := Nk_.tr hT20 hN26
          refine r_icmp_lt (tgt := 52) g dL_isTableSound_47 (by decide) (fun hc29 => ?_) (fun hc29 => ?_)
          · have hw := hw.1 hc29
            refine r_iload_n g dL_isTableSound_52 rfl 3 rfl ?_
            refine r_aload_n g dL_isTableSound_53 rfl 1 rfl ?_
            refine r_iload_n g dL_isTableSound_54 rfl 4 rfl ?_
            refine r_callVz (As := [.int x3]) g (fun sz => mt_X10_isAlive hw sz) tw_961 tw_964 tw_1 tw_962 tw_963 (ci := 11) (T := TX10) (N := 6) rfl hk27 hy_X10_isAlive ⟨rfl, rfl⟩ (Nat.le_of_ble_eq_true rfl) (Nat.le_of_ble_eq_true rfl) (Nat.le_of_ble_eq_true rfl) (Nat.le_of_ble_eq_true rfl) (Nat.le_of_ble_eq_true rfl) rfl dL_isTableSound_55 (fun M30 r31 hK32 hb34 hN33 => ?_)
            have hw := hK32 hN33 hb34
            have hk35 := Nk_.k hN33 hk27 (by decide)
            have hT36 := Nk_.tr hT28 hN33
            refine r_if_eq (tgt := 65) g dL_isTableSound_58 (by decide) (fun hc37 => ?_) (fun hc37 => ?_)
            · have hw := hw.1 hc37
              refine r_iconst (v := 0) g dL_isTableSound_65 (by decide) ?_
              refine r_iadd g dL_isTableSound_66 ?_
              refine r_istore_n (L' := [(2, .int (x2 + (0 : Int32))), (4, .int r9), (0, .ref a0), (1, .int x1), (3, .int x3)]) g dL_isTableSound_67 rfl (by decide) rfl ?_
              refine r_iconst (v := 0) g dL_isTableSound_68 (by decide) ?_
              refine r_istore (L' := [(5, .int (0 : Int32)), (2, .int (x2 + (0 : Int32))), (4, .int r9), (0, .ref a0), (1, .int x1), (3, .int x3)]) g dL_isTableSound_69 (by decide) rfl ?_
              obtain ⟨n124, hw⟩ := hw
              refine V_.sub (lo_L_isTableSound_71 g hr hQ n124 _ (0 : Int32) _ hw hk35 (fun  M125 hE hN126 => ?_)) [3, 4, 1, 5, 2, 0] rfl
              have hw := hE hN126
              have hk127 := Nk_.k hN126 hk35 (by decide)
              have hT128 := Nk_.tr hT36 hN126
              refine r_iinc (v := x3 + (1 : Int32)) (L' := [(3, .int (x3 + (1 : Int32))), (0, .ref a0), (1, .int x1), (2, .int (x2 + (0 : Int32)))]) g dL_isTableSound_158 3 rfl rfl (by decide) rfl ?_
              refine r_goto (tgt := 4) g dL_isTableSound_161 (by decide) ?_
              exact V_.sub (ih E (x2 + (0 : Int32)) (x3 + (1 : Int32)) _ hw hk127 (fun e9_2 M9 hE9 hN9 => kE e9_2 M9 hE9 (Nk_.tr hT128 hN9))) [1, 2, 3, 0] rfl
            · have hw := hw.2 hc37
              refine r_iconst (v := 1) g dL_isTableSound_61 (by decide) ?_
              refine r_goto (tgt := 66) g dL_isTableSound_62 (by decide) ?_
              refine r_iadd g dL_isTableSound_66 ?_
              refine r_istore_n (L' := [(2, .int (x2 + (1 : Int32))), (4, .int r9), (0, .ref a0), (1, .int x1), (3, .int x3)]) g dL_isTableSound_67 rfl (by decide) rfl ?_
              refine r_iconst (v := 0) g dL_isTableSound_68 (by decide) ?_
              refine r_istore (L' := [(5, .int (0 : Int32)), (2, .int (x2 + (1 : Int32))), (4, .int r9), (0, .ref a0), (1, .int x1), (3, .int x3)]) g dL_isTableSound_69 (by decide) rfl ?_
              obtain ⟨n129, hw⟩ := hw
              refine V_.sub (lo_L_isTableSound_71 g hr hQ n129 _ (0 : Int32) _ hw hk35 (fun  M130 hE hN131 => ?_)) [3, 4, 1, 5, 2, 0] rfl
              have hw := hE hN131
              have hk132 := Nk_.k hN131 hk35 (by decide)
              have hT133 := Nk_.tr hT36 hN131
              refine r_iinc (v := x3 + (1 : Int32)) (L' := [(3, .int (x3 + (1 : Int32))), (0, .ref a0), (1, .int x1), (2, .int (x2 + (1 : Int32)))]) g dL_isTableSound_158 3 rfl rfl (by decide) rfl ?_
              refine r_goto (tgt := 4) g dL_isTableSound_161 (by decide) ?_
              exact V_.sub (ih E (x2 + (1 : Int32)) (x3 + (1 : Int32)) _ hw hk132 (fun e9_2 M9 hE9 hN9 => kE e9_2 M9 hE9 (Nk_.tr hT133 hN9))) [1, 2, 3, 0] rfl
          · have hw := hw.2 hc29
            refine r_iconst (v := 0) g dL_isTableSound_50 (by decide) ?_
            exact r_zret g hr (Nat.le_of_ble_eq_true rfl) (Nat.le_of_ble_eq_true rfl) hQ (Or.inl rfl) dL_isTableSound_51 hw
      · have hw := hw.2 hc21
        refine r_iload g dL_isTableSound_27 0 rfl ?_
        refine r_bipush (v := -2) g dL_isTableSound_29 (by decide) ?_
        refine r_icmp_eq (tgt := 50) g dL_isTableSound_31 (by decide) (fun hc134 => ?_) (fun hc134 => ?_)
        · have hw := hw.1 hc134
          refine r_iconst (v := 0) g dL_isTableSound_50 (by decide) ?_
          exact r_zret g hr (Nat.le_of_ble_eq_true rfl) (Nat.le_of_ble_eq_true rfl) hQ (Or.inl rfl) dL_isTableSound_51 hw
        · have hw := hw.2 hc134
          refine r_iload g dL_isTableSound_34 0 rfl ?_
          refine r_bipush (v := -2) g dL_isTableSound_36 (by decide) ?_
          refine r_icmp_lt (tgt := 50) g dL_isTableSound_38 (by decide) (fun hc135 => ?_) (fun hc135 => ?_)
          · have hw := hw.1 hc135
            refine r_iconst (v := 0) g dL_isTableSound_50 (by decide) ?_
            exact r_zret g hr (Nat.le_of_ble_eq_true rfl) (Nat.le_of_ble_eq_true rfl) hQ (Or.inl rfl) dL_isTableSound_51 hw
          · have hw := hw.2 hc135
            refine r_iload g dL_isTableSound_41 0 rfl ?_
            refine r_aload_n g dL_isTableSound_43 rfl 1 rfl ?_
            refine r_callVi (As := []) g (fun sz => mt_X10_frames hw sz) tw_678 tw_681 tw_1 tw_679 tw_680 (ci := 11) (T := TX10) (N := 6) rfl hk19 hy_X10_frames ⟨rfl, rfl⟩ (Nat.le_of_ble_eq_true rfl) (Nat.le_of_ble_eq_true rfl) (Nat.le_of_ble_eq_true rfl) (Nat.le_of_ble_eq_true rfl) (Nat.le_of_ble_eq_true rfl) rfl dL_isTableSound_44 (fun M136 r137 hK138 hN139 => ?_)
            have hw := hK138 hN139
            have hk140 := Nk_.k hN139 hk19 (by decide)
            have hT141 := Nk_.tr hT20 hN139
            refine r_icmp_lt (tgt := 52) g dL_isTableSound_47 (by decide) (fun hc142 => ?_) (fun hc142 => ?_)
            · have hw := hw.1 hc142
              refine r_iload_n g dL_isTableSound_52 rfl 3 rfl ?_
              refine r_aload_n g dL_isTableSound_53 rfl 1 rfl ?_
              refine r_iload_n g dL_isTableSound_54 rfl 4 rfl ?_
              refine r_callVz (As := [.int x3]) g (fun sz => mt_X10_isAlive hw sz) tw_961 tw_964 tw_1 tw_962 tw_963 (ci := 11) (T := TX10) (N := 6) rfl hk140 hy_X10_isAlive ⟨rfl, rfl⟩ (Nat.le_of_ble_eq_true rfl) (Nat.le_of_ble_eq_true rfl) (Nat.le_of_ble_eq_true rfl) (Nat.le_of_ble_eq_true rfl) (Nat.le_of_ble_eq_true rfl) rfl dL_isTableSound_55 (fun M143 r144 hK145 hb147 hN146 => ?_)
              have hw := hK145 hN146 hb147
              have hk148 := Nk_.k hN146 hk140 (by decide)
              have hT149 := Nk_.tr hT141 hN146
              refine r_if_eq (tgt := 65) g dL_isTableSound_58 (by decide) (fun hc150 => ?_) (fun hc150 => ?_)
              · have hw := hw.1 hc150
                refine r_iconst (v := 0) g dL_isTableSound_65 (by decide) ?_
                refine r_iadd g dL_isTableSound_66 ?_
                refine r_istore_n (L' := [(2, .int (x2 + (0 : Int32))), (4, .int r9), (0, .ref a0), (1, .int x1), (3, .int x3)]) g dL_isTableSound_67 rfl (by decide) rfl ?_
                refine r_iconst (v := 0) g dL_isTableSound_68 (by decide) ?_
                refine r_istore (L' := [(5, .int (0 : Int32)), (2, .int (x2 + (0 : Int32))), (4, .int r9), (0, .ref a0), (1, .int x1), (3, .int x3)]) g dL_isTableSound_69 (by decide) rfl ?_
                obtain ⟨n151, hw⟩ := hw
                refine V_.sub (lo_L_isTableSound_71 g hr hQ n151 _ (0 : Int32) _ hw hk148 (fun  M152 hE hN153 => ?_)) [3, 4, 1, 5, 2, 0] rfl
                have hw := hE hN153
                have hk154 := Nk_.k hN153 hk148 (by decide)
                have hT155 := Nk_.tr hT149 hN153
                refine r_iinc (v := x3 + (1 : Int32)) (L' := [(3, .int (x3 + (1 : Int32))), (0, .ref a0), (1, .int x1), (2, .int (x2 + (0 : Int32)))]) g dL_isTableSound_158 3 rfl rfl (by decide) rfl ?_
                refine r_goto (tgt := 4) g dL_isTableSound_161 (by decide) ?_
                exact V_.sub (ih E (x2 + (0 : Int32)) (x3 + (1 : Int32)) _ hw hk154 (fun e9_2 M9 hE9 hN9 => kE e9_2 M9 hE9 (Nk_.tr hT155 hN9))) [1, 2, 3, 0] rfl
              · have hw := hw.2 hc150
                refine r_iconst (v := 1) g dL_isTableSound_61 (by decide) ?_
                refine r_goto (tgt := 66) g dL_isTableSound_62 (by decide) ?_
                refine r_iadd g dL_isTableSound_66 ?_
                refine r_istore_n (L' := [(2, .int (x2 + (1 : Int32))), (4, .int r9), (0, .ref a0), (1, .int x1), (3, .int x3)]) g dL_isTableSound_67 rfl (by decide) rfl ?_
                refine r_iconst (v := 0) g dL_isTableSound_68 (by decide) ?_
                refine r_istore (L' := [(5, .int (0 : Int32)), (2, .int (x2 + (1 : Int32))), (4, .int r9), (0, .ref a0), (1, .int x1), (3, .int x3)]) g dL_isTableSound_69 (by decide) rfl ?_
                obtain ⟨n156, hw⟩ := hw
                refine V_.sub (lo_L_isTableSound_71 g hr hQ n156 _ (0 : Int32) _ hw hk148 (fun  M157 hE hN158 => ?_)) [3, 4, 1, 5, 2, 0] rfl
                have hw := hE hN158
                have hk159 := Nk_.k hN158 hk148 (by decide)
                have hT160 := Nk_.tr hT149 hN158
                refine r_iinc (v := x3 + (1 : Int32)) (L' := [(3, .int (x3 + (1 : Int32))), (0, .ref a0), (1, .int x1), (2, .int (x2 + (1 : Int32)))]) g dL_isTableSound_158 3 rfl rfl (by decide) rfl ?_
                refine r_goto (tgt := 4) g dL_isTableSound_161 (by decide) ?_
                exact V_.sub (ih E (x2 + (1 : Int32)) (x3 + (1 : Int32)) _ hw hk159 (fun e9_2 M9 hE9 hN9 => kE e9_2 M9 hE9 (Nk_.tr hT160 hN9))) [1, 2, 3, 0] rfl
            · have hw := hw.2 hc142
              refine r_iconst (v := 0) g dL_isTableSound_50 (by decide) ?_
              exact r_zret g hr (Nat.le_of_ble_eq_true rfl) (Nat.le_of_ble_eq_true rfl) hQ (Or.inl rfl) dL_isTableSound_51 hw
set_option maxHeartbeats 4000000 in
set_option maxRecDepth 100000 in
theorem lo_L_isTableSound_184 {p : Program} {l : Launch} {e : Env} {s : State} {m : MethodId} {args : Array Value} {below : List Frame} {meth : Method} {c : Code} {D : Dd_} {M0 : Mm} {Q : State → Prop} {K : Mm → Int32 → Prop} (g : G_ p s m args meth c cL_isTableSound 10 RL D M0) (hr : meth.sig.returnType = some .boolean) (hQ : Q = MQ below (va_Qi (fun r M' => K M' r ∧ bz_ r) (cB_ D M0 s.heap.size) (Aw_ M0 s.heap.size)) args s 0 0 (Aw_ M0 s.heap.size)) {a0 : Nat} {x1 : Int32} {x2 : Int32} {x3 : Int32} {x4 : Int32} {x5 : Int32} : ∀ (n : Nat) (E : Mm → Prop) (x6 : Int32) (M : Mm), lp_L_isTableSound_184 a0 x1 x2 x3 x4 x5 K E n x6 M → kd_ M a0 = 12 → (∀  (M' : Mm), E  M' → Nk_ M M' → V_ p l e rmL_isTableSound s m args below meth c 10 D M0 Q 220 [(0, .ref a0), (1, .int x1), (2, .int x2), (3, .int x3), (4, .int x4), (5, .int x5)] [] M' 0 0) → V_ p l e rmL_isTableSound s m args below meth c 10 D M0 Q 184 [(0, .ref a0), (1, .int x1), (2, .int x2), (3, .int x3), (4, .int x4), (5, .int x5), (6, .int x6)] [] M 0 0 := by
  intro n
  induction n with
  | zero =>
    intro E x6 M hw
    exact hw.elim
  | succ n ih =>
    intro E x6 M hw hp0 kE
    refine r_iload g dL_isTableSound_184 6 rfl ?_
    refine r_aload_n g dL_isTableSound_186 rfl 0 rfl ?_
    refine r_iload g dL_isTableSound_187 4 rfl ?_
    refine r_callVi (As := [.int x4]) g (fun sz => mt_X10_rowsIn hw sz) tw_985 tw_988 tw_1 tw_986 tw_987 (ci := 11) (T := TX10) (N := 6) rfl hp0 hy_X10_rowsIn ⟨rfl, rfl⟩ (Nat.le_of_ble_eq_true rfl) (Nat.le_of_ble_eq_true rfl) (Nat.le_of_ble_eq_true rfl) (Nat.le_of_ble_eq_true rfl) (Nat.le_of_ble_eq_true rfl) rfl dL_isTableSound_189 (fun M174 r175 hK176 hN177 => ?_)
    have hw := hK176 hN177
    have hk178 := Nk_.k hN177 hp0 (by decide)
    have hT179 := Nk_.tr (Nk_.rf _) hN177
    refine r_icmp_ge (tgt := 220) g dL_isTableSound_192 (by decide) (fun hc180 => ?_) (fun hc180 => ?_)
    · have hw := hw.1 hc180
      exact V_.sub (kE  _ hw hT179) [0, 1, 2, 3, 4, 5] rfl
    · have hw := hw.2 hc180
      refine r_aload_n g dL_isTableSound_195 rfl 0 rfl ?_
      refine r_aload_n g dL_isTableSound_196 rfl 0 rfl ?_
      refine r_iload g dL_isTableSound_197 4 rfl ?_
      refine r_iload g dL_isTableSound_199 6 rfl ?_
      refine r_callVi (As := [.int x4, .int x6]) g (fun sz => mt_X10_rowAt hw sz) tw_989 tw_992 tw_1 tw_990 tw_991 (ci := 11) (T := TX10) (N := 6) rfl hk178 hy_X10_rowAt ⟨rfl, rfl⟩ (Nat.le_of_ble_eq_true rfl) (Nat.le_of_ble_eq_true rfl) (Nat.le_of_ble_eq_true rfl) (Nat.le_of_ble_eq_true rfl) (Nat.le_of_ble_eq_true rfl) rfl dL_isTableSound_201 (fun M181 r182 hK183 hN184 => ?_)
      have hw := hK183 hN184
      have hk185 := Nk_.k hN184 hk178 (by decide)
      have hT186 := Nk_.tr hT179 hN184
      refine r_callVi (As := [.int r182]) g (fun sz => mt_X10_frameOf hw sz) tw_957 tw_960 tw_1 tw_958 tw_959 (ci := 11) (T := TX10) (N := 6) rfl hk185 hy_X10_frameOf ⟨rfl, rfl⟩ (Nat.le_of_ble_eq_true rfl) (Nat.le_of_ble_eq_true rfl) (Nat.le_of_ble_eq_true rfl) (Nat.le_of_ble_eq_true rfl) (Nat.le_of_ble_eq_true rfl) rfl dL_isTableSound_204 (fun M187 r188 hK189 hN190 => ?_)
      have hw := hK189 hN190
      have hk191 := Nk_.k hN190 hk185 (by decide)
      have hT192 := Nk_.tr hT186 hN190
      refine r_iload g dL_isTableSound_207 4 rfl ?_
      refine r_icmp_eq (tgt := 214) g dL_isTableSound_209 (by decide) (fun hc193 => ?_) (fun hc193 => ?_)
      · have hw := hw.1 hc193
        refine r_iinc (v := x6 + (1 : Int32)) (L' := [(6, .int (x6 + (1 : Int32))), (0, .ref a0), (1, .int x1), (2, .int x2), (3, .int x3), (4, .int x4), (5, .int x5)]) g dL_isTableSound_214 6 rfl rfl (by decide) rfl ?_
        refine r_goto (tgt := 184) g dL_isTableSound_217 (by decide) ?_
        exact V_.sub (ih E (x6 + (1 : Int32)) _ hw hk191 (fun  M9 hE9 hN9 => kE  M9 hE9 (Nk_.tr hT192 hN9))) [1, 2, 3, 4, 5, 6, 0] rfl
      · have hw := hw.2 hc193
        refine r_iconst (v := 0) g dL_isTableSound_212 (by decide) ?_
        exact r_zret g hr (Nat.le_of_ble_eq_true rfl) (Nat.le_of_ble_eq_true rfl) hQ (Or.inl rfl) dL_isTableSound_213 hw
set_option maxHeartbeats 4000000 in
set_option maxRecDepth 100000 in
theorem lo_L_isTableSound_242 {p : Program} {l : Launch} {e : Env} {s : State} {m : MethodId} {args : Array Value} {below : List Frame} {meth : Method} {c : Code} {D : Dd_} {M0 : Mm} {Q : State → Prop} {K : Mm → Int32 → Prop} (g : G_ p s m args meth c cL_isTableSound 10 RL D M0) (hr : meth.sig.returnType = some .boolean) (hQ : Q = MQ below (va_Qi (fun r M' => K M' r ∧ bz_ r) (cB_ D M0 s.heap.size) (Aw_ M0 s.heap.size)) args s 0 0 (Aw_ M0 s.heap.size)) {a0 : Nat} {x1 : Int32} {x2 : Int32} {x3 : Int32} {x4 : Int32} {x5 : Int32} {x6 : Int32} {x7 : Int32} : ∀ (n : Nat) (E : Mm → Prop) (x8 : Int32) (M : Mm), lp_L_isTableSound_242 a0 x1 x2 x3 x4 x5 x6 x7 K E n x8 M → kd_ M a0 = 12 → (∀  (M' : Mm), E  M' → Nk_ M M' → V_ p l e rmL_isTableSound s m args below meth c 10 D M0 Q 310 [(0, .ref a0), (1, .int x1), (2, .int x2), (3, .int x3), (4, .int x4), (5, .int x5), (6, .int x6), (7, .int x7)] [] M' 0 0) → V_ p l e rmL_isTableSound s m args below meth c 10 D M0 Q 242 [(0, .ref a0), (1, .int x1), (2, .int x2), (3, .int x3), (4, .int x4), (5, .int x5), (6, .int x6), (7, .int x7), (8, .int x8)] [] M 0 0 := by
  intro n
  induction n with
  | zero =>
    intro E x8 M hw
    exact hw.elim
  | succ n ih =>
    intro E x8 M hw hp0 kE
    refine r_iload g dL_isTableSound_242 8 rfl ?_
    refine r_iconst (v := 5) g dL_isTableSound_244 (by decide) ?_
    refine r_icmp_ge (tgt := 310) g dL_isTableSound_245 (by decide) (fun hc206 => ?_) (fun hc206 => ?_)
    · have hw := hw.1 hc206
      exact V_.sub (kE  _ hw (Nk_.rf _)) [0, 1, 2, 3, 4, 5, 6, 7] rfl
    · have hw := hw.2 hc206
      refine r_aload_n g dL_isTableSound_248 rfl 0 rfl ?_
      refine r_iload g dL_isTableSound_249 4 rfl ?_
      refine r_iload g dL_isTableSound_251 6 rfl ?_
      refine r_iload g dL_isTableSound_253 8 rfl ?_
      refine r_callVi (As := [.int x4, .int x6, .int x8]) g (fun sz => mt_X10_bytesAs hw sz) tw_998 tw_1001 tw_1 tw_999 tw_1000 (ci := 11) (T := TX10) (N := 6) rfl hp0 hy_X10_bytesAs ⟨rfl, rfl⟩ (Nat.le_of_ble_eq_true rfl) (Nat.le_of_ble_eq_true rfl) (Nat.le_of_ble_eq_true rfl) (Nat.le_of_ble_eq_true rfl) (Nat.le_of_ble_eq_true rfl) rfl dL_isTableSound_255 (fun M207 r208 hK209 hN210 => ?_)
      have hw := hK209 hN210
      have hk211 := Nk_.k hN210 hp0 (by decide)
      have hT212 := Nk_.tr (Nk_.rf _) hN210
      refine r_istore (L' := [(9, .int r208), (0, .ref a0), (1, .int x1), (2, .int x2), (3, .int x3), (4, .int x4), (5, .int x5), (6, .int x6), (7, .int x7), (8, .int x8)]) g dL_isTableSound_258 (by decide) rfl ?_
      refine r_iload g dL_isTableSound_260 0 rfl ?_
      refine r_if_lt (tgt := 304) g dL_isTableSound_262 (by decide) (fun hc213 => ?_) (fun hc213 => ?_)
      · have hw := hw.1 hc213
        refine r_iinc (v := x8 + (1 : Int32)) (L' := [(8, .int (x8 + (1 : Int32))), (9, .int r208), (0, .ref a0), (1, .int x1), (2, .int x2), (3, .int x3), (4, .int x4), (5, .int x5), (6, .int x6), (7, .int x7)]) g dL_isTableSound_304 9 rfl rfl (by decide) rfl ?_
        refine r_goto (tgt := 242) g dL_isTableSound_307 (by decide) ?_
        exact V_.sub (ih E (x8 + (1 : Int32)) _ hw hk211 (fun  M9 hE9 hN9 => kE  M9 hE9 (Nk_.tr hT212 hN9))) [2, 3, 4, 5, 6, 7, 8, 9, 0] rfl
      · have hw := hw.2 hc213
        refine r_iload g dL_isTableSound_265 0 rfl ?_
        refine r_aload_n g dL_isTableSound_267 rfl 1 rfl ?_
        refine r_iload g dL_isTableSound_268 5 rfl ?_
        refine r_iload g dL_isTableSound_270 7 rfl ?_
        refine r_iload g dL_isTableSound_272 8 rfl ?_
        refine r_callVi (As := [.int x4, .int x6, .int x7]) g (fun sz => mt_X10_bytesAs hw sz) tw_998 tw_1001 tw_1 tw_999 tw_1000 (ci := 11) (T := TX10) (N := 6) rfl hk211 hy_X10_bytesAs ⟨rfl, rfl⟩ (Nat.le_of_ble_eq_true rfl) (Nat.le_of_ble_eq_true rfl) (Nat.le_of_ble_eq_true rfl) (Nat.le_of_ble_eq_true rfl) (Nat.le_of_ble_eq_true rfl) rfl dL_isTableSound_274 (fun M214 r215 hK216 hN217 => ?_)
        have hw := hK216 hN217
        have hk218 := Nk_.k hN217 hk211 (by decide)
        have hT219 := Nk_.tr hT212 hN217
        refine r_icmp_lt (tgt := 302) g dL_isTableSound_277 (by decide) (fun hc220 => ?_) (fun hc220 => ?_)
        · have hw := hw.1 hc220
          refine r_iconst (v := 0) g dL_isTableSound_302 (by decide) ?_
          exact r_zret g hr (Nat.le_of_ble_eq_true rfl) (Nat.le_of_ble_eq_true rfl) hQ (Or.inl rfl) dL_isTableSound_303 hw
        · have hw := hw.2 hc220
          refine r_iload g dL_isTableSound_280 0 rfl ?_
          refine r_aload_n g dL_isTableSound_282 rfl 1 rfl ?_
          refine r_iload g dL_isTableSound_283 5 rfl ?_
          refine r_iload g dL_isTableSound_285 7 rfl ?_
          refine r_iload g dL_isTableSound_287 8 rfl ?_
          refine r_callVi (As := [.int x4, .int x6, .int x7]) g (fun sz => mt_X10_bytesAs hw sz) tw_998 tw_1001 tw_1 tw_999 tw_1000 (ci := 11) (T := TX10) (N := 6) rfl hk218 hy_X10_bytesAs ⟨rfl, rfl⟩ (Nat.le_of_ble_eq_true rfl) (Nat.le_of_ble_eq_true rfl) (Nat.le_of_ble_eq_true rfl) (Nat.le_of_ble_eq_true rfl) (Nat.le_of_ble_eq_true rfl) rfl dL_isTableSound_289 (fun M221 r222 hK223 hN224 => ?_)
          have hw := hK223 hN224
          have hk225 := Nk_.k hN224 hk218 (by decide)
          have hT226 := Nk_.tr hT219 hN224
          refine r_icmp_ne (tgt := 304) g dL_isTableSound_292 (by decide) (fun hc227 => ?_) (fun hc227 => ?_)
          · have hw := hw.2 hc227
            refine r_iinc (v := x8 + (1 : Int32)) (L' := [(8, .int (x8 + (1 : Int32))), (9, .int r208), (0, .ref a0), (1, .int x1), (2, .int x2), (3, .int x3), (4, .int x4), (5, .int x5), (6, .int x6), (7, .int x7)]) g dL_isTableSound_304 9 rfl rfl (by decide) rfl ?_
            refine r_goto (tgt := 242) g dL_isTableSound_307 (by decide) ?_
            exact V_.sub (ih E (x8 + (1 : Int32)) _ hw hk225 (fun  M9 hE9 hN9 => kE  M9 hE9 (Nk_.tr hT226 hN9))) [2, 3, 4, 5, 6, 7, 8, 9, 0] rfl
          · have hw := hw.1 hc227
            refine r_iload g dL_isTableSound_295 9 rfl ?_
            refine r_iload g dL_isTableSound_297 8 rfl ?_
            refine r_icmp_ge (tgt := 304) g dL_isTableSound_299 (by decide) (fun hc228 => ?_) (fun hc228 => ?_)
            · have hw := hw.1 hc228
              refine r_iinc (v := x8 + (1 : Int32)) (L' := [(8, .int (x8 + (1 : Int32))), (9, .int r208), (0, .ref a0), (1, .int x1), (2, .int x2), (3, .int x3), (4, .int x4), (5, .int x5), (6, .int x6), (7, .int x7)]) g dL_isTableSound_304 9 rfl rfl (by decide) rfl ?_
              refine r_goto (tgt := 242) g dL_isTableSound_307 (by decide) ?_
              exact V_.sub (ih E (x8 + (1 : Int32)) _ hw hk225 (fun  M9 hE9 hN9 => kE  M9 hE9 (Nk_.tr hT226 hN9))) [2, 3, 4, 5, 6, 7, 8, 9, 0] rfl
            · have hw := hw.2 hc228
              refine r_iconst (v := 0) g dL_isTableSound_302 (by decide) ?_
              exact r_zret g hr (Nat.le_of_ble_eq_true rfl) (Nat.le_of_ble_eq_true rfl) hQ (Or.inl rfl) dL_isTableSound_303 hw
set_option maxHeartbeats 4000000 in
set_option maxRecDepth 100000 in
theorem lo_L_isTableSound_223 {p : Program} {l : Launch} {e : Env} {s : State} {m : MethodId} {args : Array Value} {below : List Frame} {meth : Method} {c : Code} {D : Dd_} {M0 : Mm} {Q : State → Prop} {K : Mm → Int32 → Prop} (g : G_ p s m args meth c cL_isTableSound 10 RL D M0) (hr : meth.sig.returnType = some .boolean) (hQ : Q = MQ below (va_Qi (fun r M' => K M' r ∧ bz_ r) (cB_ D M0 s.heap.size) (Aw_ M0 s.heap.size)) args s 0 0 (Aw_ M0 s.heap.size)) {a0 : Nat} {x1 : Int32} {x2 : Int32} {x3 : Int32} {x4 : Int32} : ∀ (n : Nat) (E : Int32 → Mm → Prop) (x5 : Int32) (x6 : Int32) (M : Mm), lp_L_isTableSound_223 a0 x1 x2 x3 x4 K E n x5 x6 M → kd_ M a0 = 12 → (∀ (e9_5 : Int32) (M' : Mm), E e9_5 M' → Nk_ M M' → V_ p l e rmL_isTableSound s m args below meth c 10 D M0 Q 390 [(0, .ref a0), (1, .int x1), (2, .int x2), (3, .int x3), (4, .int x4), (5, .int e9_5)] [] M' 0 0) → V_ p l e rmL_isTableSound s m args below meth c 10 D M0 Q 223 [(0, .ref a0), (1, .int x1), (2, .int x2), (3, .int x3), (4, .int x4), (5, .int x5), (6, .int x6)] [] M 0 0 := by
  intro n
  induction n with
  | zero =>
    intro E x5 x6 M hw
    exact hw.elim
  | succ n ih =>
    intro E x5 x6 M hw hp0 kE
    refine r_iload g dL_isTableSound_223 6 rfl ?_
    refine r_iload_n g dL_isTableSound_225 rfl 1 rfl ?_
    refine r_icmp_ge (tgt := 390) g dL_isTableSound_226 (by decide) (fun hc199 => ?_) (fun hc199 => ?_)
    · have hw := hw.1 hc199
      exact V_.sub (kE x5 _ hw (Nk_.rf _)) [0, 1, 2, 3, 4, 5] rfl
    · have hw := hw.2 hc199
      refine r_aload_n g dL_isTableSound_229 rfl 0 rfl ?_
      refine r_iload g dL_isTableSound_230 4 rfl ?_
      refine r_iload g dL_isTableSound_232 6 rfl ?_
      refine r_callVi (As := [.int x4, .int x6]) g (fun sz => mt_X10_formOf hw sz) tw_994 tw_997 tw_1 tw_995 tw_996 (ci := 11) (T := TX10) (N := 6) rfl hp0 hy_X10_formOf ⟨rfl, rfl⟩ (Nat.le_of_ble_eq_true rfl) (Nat.le_of_ble_eq_true rfl) (Nat.le_of_ble_eq_true rfl) (Nat.le_of_ble_eq_true rfl) (Nat.le_of_ble_eq_true rfl) rfl dL_isTableSound_234 (fun M200 r201 hK202 hN203 => ?_)
      have hw := hK202 hN203
      have hk204 := Nk_.k hN203 hp0 (by decide)
      have hT205 := Nk_.tr (Nk_.rf _) hN203
      refine r_istore (L' := [(7, .int r201), (0, .ref a0), (1, .int x1), (2, .int x2), (3, .int x3), (4, .int x4), (5, .int x5), (6, .int x6)]) g dL_isTableSound_237 (by decide) rfl ?_
      refine r_iconst (v := 0) g dL_isTableSound_239 (by decide) ?_
      refine r_istore (L' := [(8, .int (0 : Int32)), (7, .int r201), (0, .ref a0), (1, .int x1), (2, .int x2), (3, .int x3), (4, .int x4), (5, .int x5), (6, .int x6)]) g dL_isTableSound_240 (by decide) rfl ?_
      obtain ⟨n229, hw⟩ := hw
      refine V_.sub (lo_L_isTableSound_242 g hr hQ n229 _ (0 : Int32) _ hw hk204 (fun  M230 hE hN231 => ?_)) [2, 3, 4, 5, 6, 7, 8, 1, 0] rfl
      have hw := hE hN231
      have hk232 := Nk_.k hN231 hk204 (by decide)
      have hT233 := Nk_.tr hT205 hN231
      refine r_iload g dL_isTableSound_310 5 rfl ?_
      refine r_aload_n g dL_isTableSound_312 rfl 0 rfl ?_
      refine r_iload g dL_isTableSound_313 4 rfl ?_
      refine r_iload g dL_isTableSound_315 6 rfl ?_
      refine r_iload g dL_isTableSound_317 7 rfl ?_
      refine r_callVi (As := [.int x4, .int x6, .int r201]) g (fun sz => mt_X10_bytesAs hw sz) tw_998 tw_1001 tw_1 tw_999 tw_1000 (ci := 11) (T := TX10) (N := 6) rfl hk232 hy_X10_bytesAs ⟨rfl, rfl⟩ (Nat.le_of_ble_eq_true rfl) (Nat.le_of_ble_eq_true rfl) (Nat.le_of_ble_eq_true rfl) (Nat.le_of_ble_eq_true rfl) (Nat.le_of_ble_eq_true rfl) rfl dL_isTableSound_319 (fun M234 r235 hK236 hN237 => ?_)
      have hw := hK236 hN237
      have hk238 := Nk_.k hN237 hk232 (by decide)
      have hT239 := Nk_.tr hT233 hN237
      refine r_iadd g dL_isTableSound_322 ?_
      refine r_istore (L' := [(5, .int (x5 + r235)), (0, .ref a0), (1, .int x1), (2, .int x2), (3, .int x3), (4, .int x4), (6, .int x6), (7, .int r201)]) g dL_isTableSound_323 (by decide) rfl ?_
      refine r_aload_n g dL_isTableSound_325 rfl 1 rfl ?_
      refine r_iload g dL_isTableSound_326 5 rfl ?_
      refine r_iload g dL_isTableSound_328 6 rfl ?_
      refine r_callVi (As := [.int x4, .int x6]) g (fun sz => mt_X10_nulls hw sz) tw_1004 tw_1007 tw_1 tw_1005 tw_1006 (ci := 11) (T := TX10) (N := 6) rfl hk238 hy_X10_nulls ⟨rfl, rfl⟩ (Nat.le_of_ble_eq_true rfl) (Nat.le_of_ble_eq_true rfl) (Nat.le_of_ble_eq_true rfl) (Nat.le_of_ble_eq_true rfl) (Nat.le_of_ble_eq_true rfl) rfl dL_isTableSound_330 (fun M240 r241 hK242 hN243 => ?_)
      have hw := hK242 hN243
      have hk244 := Nk_.k hN243 hk238 (by decide)
      have hT245 := Nk_.tr hT239 hN243
      refine r_aload_n g dL_isTableSound_333 rfl 1 rfl ?_
      refine r_iload g dL_isTableSound_334 5 rfl ?_
      refine r_iload g dL_isTableSound_336 6 rfl ?_
      refine r_callVi (As := [.int x4, .int x6]) g (fun sz => mt_X10_distinct hw sz) tw_1008 tw_1011 tw_1 tw_1009 tw_1010 (ci := 11) (T := TX10) (N := 6) rfl hk244 hy_X10_distinct ⟨rfl, rfl⟩ (Nat.le_of_ble_eq_true rfl) (Nat.le_of_ble_eq_true rfl) (Nat.le_of_ble_eq_true rfl) (Nat.le_of_ble_eq_true rfl) (Nat.le_of_ble_eq_true rfl) rfl dL_isTableSound_338 (fun M246 r247 hK248 hN249 => ?_)
      have hw := hK248 hN249
      have hk250 := Nk_.k hN249 hk244 (by decide)
      have hT251 := Nk_.tr hT245 hN249
      refine r_iadd g dL_isTableSound_341 ?_
      refine r_aload_n g dL_isTableSound_342 rfl 1 rfl ?_
      refine r_iload g dL_isTableSound_343 5 rfl ?_
      refine r_callVi (As := [.int x4]) g (fun sz => mt_X10_rowsIn hw sz) tw_985 tw_988 tw_1 tw_986 tw_987 (ci := 11) (T := TX10) (N := 6) rfl hk250 hy_X10_rowsIn ⟨rfl, rfl⟩ (Nat.le_of_ble_eq_true rfl) (Nat.le_of_ble_eq_true rfl) (Nat.le_of_ble_eq_true rfl) (Nat.le_of_ble_eq_true rfl) (Nat.le_of_ble_eq_true rfl) rfl dL_isTableSound_345 (fun M252 r253 hK254 hN255 => ?_)
      have hw := hK254 hN255
      have hk256 := Nk_.k hN255 hk250 (by decide)
      have hT257 := Nk_.tr hT251 hN255
      refine r_icmp_gt (tgt := 382) g dL_isTableSound_348 (by decide) (fun hc258 => ?_) (fun hc258 => ?_)
      · have hw := hw.1 hc258
        refine r_iconst (v := 0) g dL_isTableSound_382 (by decide) ?_
        exact r_zret g hr (Nat.le_of_ble_eq_true rfl) (Nat.le_of_ble_eq_true rfl) hQ (Or.inl rfl) dL_isTableSound_383 hw
      · have hw := hw.2 hc258
        refine r_aload_n g dL_isTableSound_351 rfl 1 rfl ?_
        refine r_iload g dL_isTableSound_352 5 rfl ?_
        refine r_iload g dL_isTableSound_354 6 rfl ?_
        refine r_callVi (As := [.int x4, .int x6]) g (fun sz => mt_X10_runs hw sz) tw_1012 tw_1015 tw_1 tw_1013 tw_1014 (ci := 11) (T := TX10) (N := 6) rfl hk256 hy_X10_runs ⟨rfl, rfl⟩ (Nat.le_of_ble_eq_true rfl) (Nat.le_of_ble_eq_true rfl) (Nat.le_of_ble_eq_true rfl) (Nat.le_of_ble_eq_true rfl) (Nat.le_of_ble_eq_true rfl) rfl dL_isTableSound_356 (fun M259 r260 hK261 hN262 => ?_)
        have hw := hK261 hN262
        have hk263 := Nk_.k hN262 hk256 (by decide)
        have hT264 := Nk_.tr hT257 hN262
        refine r_iconst (v := 1) g dL_isTableSound_359 (by decide) ?_
        refine r_icmp_lt (tgt := 382) g dL_isTableSound_360 (by decide) (fun hc265 => ?_) (fun hc265 => ?_)
        · have hw := hw.1 hc265
          refine r_iconst (v := 0) g dL_isTableSound_382 (by decide) ?_
          exact r_zret g hr (Nat.le_of_ble_eq_true rfl) (Nat.le_of_ble_eq_true rfl) hQ (Or.inl rfl) dL_isTableSound_383 hw
        · have hw := hw.2 hc265
          refine r_aload_n g dL_isTableSound_363 rfl 1 rfl ?_
          refine r_iload g dL_isTableSound_364 5 rfl ?_
          refine r_iload g dL_isTableSound_366 6 rfl ?_
          refine r_callVi (As := [.int x4, .int x6]) g (fun sz => mt_X10_runs hw sz) tw_1012 tw_1015 tw_1 tw_1013 tw_1014 (ci := 11) (T := TX10) (N := 6) rfl hk263 hy_X10_runs ⟨rfl, rfl⟩ (Nat.le_of_ble_eq_true rfl) (Nat.le_of_ble_eq_true rfl) (Nat.le_of_ble_eq_true rfl) (Nat.le_of_ble_eq_true rfl) (Nat.le_of_ble_eq_true rfl) rfl dL_isTableSound_368 (fun M266 r267 hK268 hN269 => ?_)
          have hw := hK268 hN269
          have hk270 := Nk_.k hN269 hk263 (by decide)
          have hT271 := Nk_.tr hT264 hN269
          refine r_aload_n g dL_isTableSound_371 rfl 1 rfl ?_
          refine r_iload g dL_isTableSound_372 5 rfl ?_
          refine r_iload g dL_isTableSound_374 6 rfl ?_
          refine r_callVi (As := [.int x4, .int x6]) g (fun sz => mt_X10_distinct hw sz) tw_1008 tw_1011 tw_1 tw_1009 tw_1010 (ci := 11) (T := TX10) (N := 6) rfl hk270 hy_X10_distinct ⟨rfl, rfl⟩ (Nat.le_of_ble_eq_true rfl) (Nat.le_of_ble_eq_true rfl) (Nat.le_of_ble_eq_true rfl) (Nat.le_of_ble_eq_true rfl) (Nat.le_of_ble_eq_true rfl) rfl dL_isTableSound_376 (fun M272 r273 hK274 hN275 => ?_)
          have hw := hK274 hN275
          have hk276 := Nk_.k hN275 hk270 (by decide)
          have hT277 := Nk_.tr hT271 hN275
          refine r_icmp_ge (tgt := 384) g dL_isTableSound_379 (by decide) (fun hc278 => ?_) (fun hc278 => ?_)
          · have hw := hw.1 hc278
            refine r_iinc (v := x6 + (1 : Int32)) (L' := [(6, .int (x6 + (1 : Int32))), (5, .int (x5 + r235)), (0, .ref a0), (1, .int x1), (2, .int x2), (3, .int x3), (4, .int x4), (7, .int r201)]) g dL_isTableSound_384 6 rfl rfl (by decide) rfl ?_
            refine r_goto (tgt := 223) g dL_isTableSound_387 (by decide) ?_
            exact V_.sub (ih E (x5 + r235) (x6 + (1 : Int32)) _ hw hk276 (fun e9_5 M9 hE9 hN9 => kE e9_5 M9 hE9 (Nk_.tr hT277 hN9))) [2, 3, 4, 5, 6, 1, 0] rfl
          · have hw := hw.2 hc278
            refine r_iconst (v := 0) g dL_isTableSound_382 (by decide) ?_
            exact r_zret g hr (Nat.le_of_ble_eq_true rfl) (Nat.le_of_ble_eq_true rfl) hQ (Or.inl rfl) dL_isTableSound_383 hw
set_option maxHeartbeats 4000000 in
set_option maxRecDepth 100000 in
theorem lo_L_isTableSound_169 {p : Program} {l : Launch} {e : Env} {s : State} {m : MethodId} {args : Array Value} {below : List Frame} {meth : Method} {c : Code} {D : Dd_} {M0 : Mm} {Q : State → Prop} {K : Mm → Int32 → Prop} (g : G_ p s m args meth c cL_isTableSound 10 RL D M0) (hr : meth.sig.returnType = some .boolean) (hQ : Q = MQ below (va_Qi (fun r M' => K M' r ∧ bz_ r) (cB_ D M0 s.heap.size) (Aw_ M0 s.heap.size)) args s 0 0 (Aw_ M0 s.heap.size)) {a0 : Nat} {x1 : Int32} {x2 : Int32} : ∀ (n : Nat) (E : Int32 → Mm → Prop) (x3 : Int32) (x4 : Int32) (M : Mm), lp_L_isTableSound_169 a0 x1 x2 K E n x3 x4 M → kd_ M a0 = 12 → (∀ (e9_3 : Int32) (M' : Mm), E e9_3 M' → Nk_ M M' → V_ p l e rmL_isTableSound s m args below meth c 10 D M0 Q 435 [(0, .ref a0), (2, .int x2), (3, .int e9_3)] [] M' 0 0) → V_ p l e rmL_isTableSound s m args below meth c 10 D M0 Q 169 [(0, .ref a0), (1, .int x1), (2, .int x2), (3, .int x3), (4, .int x4)] [] M 0 0 := by
  intro n
  induction n with
  | zero =>
    intro E x3 x4 M hw
    exact hw.elim
  | succ n ih =>
    intro E x3 x4 M hw hp0 kE
    refine r_iload g dL_isTableSound_169 4 rfl ?_
    refine r_aload_n g dL_isTableSound_171 rfl 0 rfl ?_
    refine r_callVi (As := []) g (fun sz => mt_X10_frames hw sz) tw_678 tw_681 tw_1 tw_679 tw_680 (ci := 11) (T := TX10) (N := 6) rfl hp0 hy_X10_frames ⟨rfl, rfl⟩ (Nat.le_of_ble_eq_true rfl) (Nat.le_of_ble_eq_true rfl) (Nat.le_of_ble_eq_true rfl) (Nat.le_of_ble_eq_true rfl) (Nat.le_of_ble_eq_true rfl) rfl dL_isTableSound_172 (fun M167 r168 hK169 hN170 => ?_)
    have hw := hK169 hN170
    have hk171 := Nk_.k hN170 hp0 (by decide)
    have hT172 := Nk_.tr (Nk_.rf _) hN170
    refine r_icmp_ge (tgt := 435) g dL_isTableSound_175 (by decide) (fun hc173 => ?_) (fun hc173 => ?_)
    · have hw := hw.1 hc173
      exact V_.sub (kE x3 _ hw hT172) [0, 2, 3] rfl
    · have hw := hw.2 hc173
      refine r_iconst (v := 0) g dL_isTableSound_178 (by decide) ?_
      refine r_istore (L' := [(5, .int (0 : Int32)), (0, .ref a0), (1, .int x1), (2, .int x2), (3, .int x3), (4, .int x4)]) g dL_isTableSound_179 (by decide) rfl ?_
      refine r_iconst (v := 0) g dL_isTableSound_181 (by decide) ?_
      refine r_istore (L' := [(6, .int (0 : Int32)), (5, .int (0 : Int32)), (0, .ref a0), (1, .int x1), (2, .int x2), (3, .int x3), (4, .int x4)]) g dL_isTableSound_182 (by decide) rfl ?_
      obtain ⟨n194, hw⟩ := hw
      refine V_.sub (lo_L_isTableSound_184 g hr hQ n194 _ (0 : Int32) _ hw hk171 (fun  M195 hE hN196 => ?_)) [2, 3, 4, 5, 6, 1, 0] rfl
      have hw := hE hN196
      have hk197 := Nk_.k hN196 hk171 (by decide)
      have hT198 := Nk_.tr hT172 hN196
      refine r_iconst (v := 0) g dL_isTableSound_220 (by decide) ?_
      refine r_istore (L' := [(6, .int (0 : Int32)), (0, .ref a0), (1, .int x1), (2, .int x2), (3, .int x3), (4, .int x4), (5, .int (0 : Int32))]) g dL_isTableSound_221 (by decide) rfl ?_
      obtain ⟨n279, hw⟩ := hw
      refine V_.sub (lo_L_isTableSound_223 g hr hQ n279 _ (0 : Int32) (0 : Int32) _ hw hk197 (fun xv282 M280 hE hN281 => ?_)) [1, 2, 3, 4, 5, 6, 0] rfl
      have hw := hE hN281
      have hk283 := Nk_.k hN281 hk197 (by decide)
      have hT284 := Nk_.tr hT198 hN281
      refine r_aload_n g dL_isTableSound_390 rfl 0 rfl ?_
      refine r_iload g dL_isTableSound_391 4 rfl ?_
      refine r_callVi (As := [.int x4]) g (fun sz => mt_X10_bytes hw sz) tw_1016 tw_1019 tw_1 tw_1017 tw_1018 (ci := 11) (T := TX10) (N := 6) rfl hk283 hy_X10_bytes ⟨rfl, rfl⟩ (Nat.le_of_ble_eq_true rfl) (Nat.le_of_ble_eq_true rfl) (Nat.le_of_ble_eq_true rfl) (Nat.le_of_ble_eq_true rfl) (Nat.le_of_ble_eq_true rfl) rfl dL_isTableSound_393 (fun M285 r286 hK287 hN288 => ?_)
      have hw := hK287 hN288
      have hk289 := Nk_.k hN288 hk283 (by decide)
      have hT290 := Nk_.tr hT284 hN288
      refine r_iload g dL_isTableSound_396 5 rfl ?_
      refine r_icmp_ne (tgt := 422) g dL_isTableSound_398 (by decide) (fun hc291 => ?_) (fun hc291 => ?_)
      · have hw := hw.2 hc291
        refine r_iconst (v := 0) g dL_isTableSound_422 (by decide) ?_
        exact r_zret g hr (Nat.le_of_ble_eq_true rfl) (Nat.le_of_ble_eq_true rfl) hQ (Or.inl rfl) dL_isTableSound_423 hw
      · have hw := hw.1 hc291
        refine r_aload_n g dL_isTableSound_401 rfl 0 rfl ?_
        refine r_iload g dL_isTableSound_402 4 rfl ?_
        refine r_callVi (As := [.int x4]) g (fun sz => mt_X10_rowsIn hw sz) tw_985 tw_988 tw_1 tw_986 tw_987 (ci := 11) (T := TX10) (N := 6) rfl hk289 hy_X10_rowsIn ⟨rfl, rfl⟩ (Nat.le_of_ble_eq_true rfl) (Nat.le_of_ble_eq_true rfl) (Nat.le_of_ble_eq_true rfl) (Nat.le_of_ble_eq_true rfl) (Nat.le_of_ble_eq_true rfl) rfl dL_isTableSound_404 (fun M292 r293 hK294 hN295 => ?_)
        have hw := hK294 hN295
        have hk296 := Nk_.k hN295 hk289 (by decide)
        have hT297 := Nk_.tr hT290 hN295
        refine r_iconst (v := 1) g dL_isTableSound_407 (by decide) ?_
        refine r_icmp_lt (tgt := 422) g dL_isTableSound_408 (by decide) (fun hc298 => ?_) (fun hc298 => ?_)
        · have hw := hw.1 hc298
          refine r_iconst (v := 0) g dL_isTableSound_422 (by decide) ?_
          exact r_zret g hr (Nat.le_of_ble_eq_true rfl) (Nat.le_of_ble_eq_true rfl) hQ (Or.inl rfl) dL_isTableSound_423 hw
        · have hw := hw.2 hc298
          refine r_aload_n g dL_isTableSound_411 rfl 0 rfl ?_
          refine r_iload g dL_isTableSound_412 4 rfl ?_
          refine r_callVi (As := [.int x4]) g (fun sz => mt_X10_rowsIn hw sz) tw_985 tw_988 tw_1 tw_986 tw_987 (ci := 11) (T := TX10) (N := 6) rfl hk296 hy_X10_rowsIn ⟨rfl, rfl⟩ (Nat.le_of_ble_eq_true rfl) (Nat.le_of_ble_eq_true rfl) (Nat.le_of_ble_eq_true rfl) (Nat.le_of_ble_eq_true rfl) (Nat.le_of_ble_eq_true rfl) rfl dL_isTableSound_414 (fun M299 r300 hK301 hN302 => ?_)
          have hw := hK301 hN302
          have hk303 := Nk_.k hN302 hk296 (by decide)
          have hT304 := Nk_.tr hT297 hN302
          refine r_bipush (v := 64) g dL_isTableSound_417 (by decide) ?_
          refine r_icmp_le (tgt := 424) g dL_isTableSound_419 (by decide) (fun hc305 => ?_) (fun hc305 => ?_)
          · have hw := hw.1 hc305
            refine r_iload_n g dL_isTableSound_424 rfl 3 rfl ?_
            refine r_iload g dL_isTableSound_425 5 rfl ?_
            refine r_iadd g dL_isTableSound_427 ?_
            refine r_istore_n (L' := [(3, .int (x3 + xv282)), (0, .ref a0), (1, .int x1), (2, .int x2), (4, .int x4), (5, .int xv282)]) g dL_isTableSound_428 rfl (by decide) rfl ?_
            refine r_iinc (v := x4 + (1 : Int32)) (L' := [(4, .int (x4 + (1 : Int32))), (3, .int (x3 + xv282)), (0, .ref a0), (1, .int x1), (2, .int x2), (5, .int xv282)]) g dL_isTableSound_429 4 rfl rfl (by decide) rfl ?_
            refine r_goto (tgt := 169) g dL_isTableSound_432 (by decide) ?_
            exact V_.sub (ih E (x3 + xv282) (x4 + (1 : Int32)) _ hw hk303 (fun e9_3 M9 hE9 hN9 => kE e9_3 M9 hE9 (Nk_.tr hT304 hN9))) [2, 3, 4, 1, 0] rfl
          · have hw := hw.2 hc305
            refine r_iconst (v := 0) g dL_isTableSound_422 (by decide) ?_
            exact r_zret g hr (Nat.le_of_ble_eq_true rfl) (Nat.le_of_ble_eq_true rfl) hQ (Or.inl rfl) dL_isTableSound_423 hw
set_option maxHeartbeats 4000000 in
set_option maxRecDepth 100000 in
theorem mt_L_isTableSound {l : Launch} {D : Dd_} {M : Mm} {a0 : Nat} {x1 : Int32} {K : Mm → Int32 → Prop} (hw : wp_L_isTableSound a0 x1 M K) (sz : Nat) : Met l yL_isTableSound (Cond.code yL_isTableSound cL_isTableSound 10 (some .boolean) :: tbG_) rmL_isTableSound (cPc_ D M sz [.ref a0, .int x1]) (va_Qi (fun r M' => K M' r ∧ bz_ r) (cB_ D M sz) (Aw_ M sz)) 0 0 (Aw_ M sz) := by
  refine ofV (by decide) (Nat.le_of_ble_eq_true rfl) ?_
  intro p e s m below meth c g hr hin hsz
  subst hsz
  obtain ⟨hp0, hw⟩ := hw
  refine r_iconst (v := 0) g dL_isTableSound_0 (by decide) ?_
  refine r_istore_n (L' := [(2, .int (0 : Int32)), (0, .ref a0), (1, .int x1)]) g dL_isTableSound_1 rfl (by decide) rfl ?_
  refine r_iconst (v := 0) g dL_isTableSound_2 (by decide) ?_
  refine r_istore_n (L' := [(3, .int (0 : Int32)), (2, .int (0 : Int32)), (0, .ref a0), (1, .int x1)]) g dL_isTableSound_3 rfl (by decide) rfl ?_
  obtain ⟨n161, hw⟩ := hw
  refine V_.sub (lo_L_isTableSound_4 g hr rfl n161 _ (0 : Int32) (0 : Int32) _ hw hp0 (fun xv164 M162 hE hN163 => ?_)) [2, 3, 1, 0] rfl
  have hw := hE hN163
  have hk165 := Nk_.k hN163 hp0 (by decide)
  have hT166 := Nk_.tr (Nk_.rf _) hN163
  refine r_iconst (v := 0) g dL_isTableSound_164 (by decide) ?_
  refine r_istore_n (L' := [(3, .int (0 : Int32)), (0, .ref a0), (1, .int x1), (2, .int xv164)]) g dL_isTableSound_165 rfl (by decide) rfl ?_
  refine r_iconst (v := 0) g dL_isTableSound_166 (by decide) ?_
  refine r_istore (L' := [(4, .int (0 : Int32)), (3, .int (0 : Int32)), (0, .ref a0), (1, .int x1), (2, .int xv164)]) g dL_isTableSound_167 (by decide) rfl ?_
  obtain ⟨n306, hw⟩ := hw
  refine V_.sub (lo_L_isTableSound_169 g hr rfl n306 _ (0 : Int32) (0 : Int32) _ hw hk165 (fun xv309 M307 hE hN308 => ?_)) [2, 3, 4, 1, 0] rfl
  have hw := hE hN308
  have hk310 := Nk_.k hN308 hk165 (by decide)
  have hT311 := Nk_.tr hT166 hN308
  refine r_aload_n g dL_isTableSound_435 rfl 0 rfl ?_
  refine r_callVi (As := []) g (fun sz => mt_X10_alive hw sz) tw_1020 tw_1023 tw_1 tw_1021 tw_1022 (ci := 11) (T := TX10) (N := 6) rfl hk310 hy_X10_alive ⟨rfl, rfl⟩ (Nat.le_of_ble_eq_true rfl) (Nat.le_of_ble_eq_true rfl) (Nat.le_of_ble_eq_true rfl) (Nat.le_of_ble_eq_true rfl) (Nat.le_of_ble_eq_true rfl) rfl dL_isTableSound_436 (fun M312 r313 hK314 hN315 => ?_)
  have hw := hK314 hN315
  have hk316 := Nk_.k hN315 hk310 (by decide)
  have hT317 := Nk_.tr hT311 hN315
  refine r_iload_n g dL_isTableSound_439 rfl 1 rfl ?_
  refine r_icmp_ne (tgt := 458) g dL_isTableSound_440 (by decide) (fun hc318 => ?_) (fun hc318 => ?_)
  · have hw := hw.2 hc318
    refine r_iconst (v := 0) g dL_isTableSound_458 (by decide) ?_
    exact r_zret g hr (Nat.le_of_ble_eq_true rfl) (Nat.le_of_ble_eq_true rfl) rfl (Or.inl rfl) dL_isTableSound_459 hw
  · have hw := hw.1 hc318
    refine r_aload_n g dL_isTableSound_443 rfl 0 rfl ?_
    refine r_callVi (As := []) g (fun sz => mt_X10_bitmapBytes hw sz) tw_1024 tw_1027 tw_1 tw_1025 tw_1026 (ci := 11) (T := TX10) (N := 6) rfl hk316 hy_X10_bitmapBytes ⟨rfl, rfl⟩ (Nat.le_of_ble_eq_true rfl) (Nat.le_of_ble_eq_true rfl) (Nat.le_of_ble_eq_true rfl) (Nat.le_of_ble_eq_true rfl) (Nat.le_of_ble_eq_true rfl) rfl dL_isTableSound_444 (fun M319 r320 hK321 hN322 => ?_)
    have hw := hK321 hN322
    have hk323 := Nk_.k hN322 hk316 (by decide)
    have hT324 := Nk_.tr hT317 hN322
    refine r_if_lt (tgt := 458) g dL_isTableSound_447 (by decide) (fun hc325 => ?_) (fun hc325 => ?_)
    · have hw := hw.1 hc325
      refine r_iconst (v := 0) g dL_isTableSound_458 (by decide) ?_
      exact r_zret g hr (Nat.le_of_ble_eq_true rfl) (Nat.le_of_ble_eq_true rfl) rfl (Or.inl rfl) dL_isTableSound_459 hw
    · have hw := hw.2 hc325
      refine r_iload_n g dL_isTableSound_450 rfl 2 rfl ?_
      refine r_if_lt (tgt := 458) g dL_isTableSound_451 (by decide) (fun hc326 => ?_) (fun hc326 => ?_)
      · have hw := hw.1 hc326
        refine r_iconst (v := 0) g dL_isTableSound_458 (by decide) ?_
        exact r_zret g hr (Nat.le_of_ble_eq_true rfl) (Nat.le_of_ble_eq_true rfl) rfl (Or.inl rfl) dL_isTableSound_459 hw
      · have hw := hw.2 hc326
        refine r_iconst (v := 1) g dL_isTableSound_454 (by decide) ?_
        refine r_goto (tgt := 459) g dL_isTableSound_455 (by decide) ?_
        exact r_zret g hr (Nat.le_of_ble_eq_true rfl) (Nat.le_of_ble_eq_true rfl) rfl (Or.inr rfl) dL_isTableSound_459 hw
def rmL_isSearchSound : Room := { frames := 8, cells := 1, slots := 600, locals := 191 }
theorem hy_L_isSearchSound : yL_isSearchSound.cls ≠ "java/lang/invoke/MethodHandle" ∧ yL_isSearchSound.cls ≠ "java/lang/invoke/VarHandle" ∧ (parseMethodDescriptor yL_isSearchSound.desc).map (fun d => d.parameters.length) = some 2 := by decide +kernel
def lp_L_isSearchSound_52 (a0 : Nat) (x1 : Int32) (x4 : Int32) (a5 : Nat) (K : Mm → Int32 → Prop) (E : Mm → Prop) : Nat → Int32 → Mm → Prop
  | 0, _, _ => False
  | n + 1, x6, M => ((x4 ≤ x6 → E M) ∧ (¬ x4 ≤ x6 → (wp_X10_foundAt a0 x6 M (fun M52 r53 => Nk_ M M52 → (vp_in x6 (ln_ M52 a5) ∧ (∀ M60, M60 = sI_ M52 a5 (ix_ x6) r53 → (vp_in x6 (ln_ M52 a5) ∧ (wp_X10_isAlive a0 (it_ M60 a5 (ix_ x6)) M60 (fun M62 r63 => Nk_ M60 M62 → bz_ r63 → ((r63 = 0 → (K M62 (0 : Int32))) ∧ (¬ r63 = 0 → lp_L_isSearchSound_52 a0 x1 x4 a5 K E n (x6 + (1 : Int32)) M62)))))))))))
def lp_L_isSearchSound_93 (a0 : Nat) (x1 : Int32) (x4 : Int32) (a5 : Nat) (K : Mm → Int32 → Prop) (E : Mm → Prop) : Nat → Int32 → Mm → Prop
  | 0, _, _ => False
  | n + 1, x6, M => ((x1 ≤ x6 → E M) ∧ (¬ x1 ≤ x6 → (wp_X10_index a0 x6 M (fun M78 r79 => Nk_ M M78 → bz_ r79 → lp_L_isSearchSound_93 a0 x1 x4 a5 K E n (x6 + (1 : Int32)) M78))))
def lp_L_isSearchSound_126 (a0 : Nat) (x1 : Int32) (x4 : Int32) (a5 : Nat) (K : Mm → Int32 → Prop) (E : Mm → Prop) : Nat → Int32 → Mm → Prop
  | 0, _, _ => False
  | n + 1, x6, M => ((x4 ≤ x6 → E M) ∧ (¬ x4 ≤ x6 → (wp_X10_foundAt a0 x6 M (fun M101 r102 => Nk_ M M101 → (vp_in x6 (ln_ M101 a5) ∧ ((r102 = (it_ M101 a5 (ix_ x6)) → lp_L_isSearchSound_126 a0 x1 x4 a5 K E n (x6 + (1 : Int32)) M101) ∧ (¬ r102 = (it_ M101 a5 (ix_ x6)) → (K M101 (0 : Int32)))))))))
def lp_L_isSearchSound_188 (a0 : Nat) (x1 : Int32) (x4 : Int32) (x6 : Int32) (x7 : Int32) (K : Mm → Int32 → Prop) (E : Int32 → Int32 → Mm → Prop) : Nat → Int32 → Int32 → Int32 → Mm → Prop
  | 0, _, _, _, _ => False
  | n + 1, x8, x9, x10, M => ((x7 ≤ x10 → E x8 x9 M) ∧ (¬ x7 ≤ x10 → (wp_X10_ofGroup a0 x6 x10 x6 (1 : Int32) M (fun M130 r131 => Nk_ M M130 → (wp_X10_ofGroup a0 x6 x10 x6 (2 : Int32) M130 (fun M136 r137 => Nk_ M130 M136 → (wp_X10_ofGroup a0 x6 x10 x6 (3 : Int32) M136 (fun M142 r143 => Nk_ M136 M142 → (wp_X10_ofGroup a0 x6 x10 x6 (4 : Int32) M142 (fun M148 r149 => Nk_ M142 M148 → ((r149 < r143 → (K M148 (0 : Int32))) ∧ (¬ r149 < r143 → ((x10 ≤ 0 → lp_L_isSearchSound_188 a0 x1 x4 x6 x7 K E n (x8 + r131) (x9 + r137) (x10 + (1 : Int32)) M148) ∧ (¬ x10 ≤ 0 → (((x7 - (1 : Int32)) ≤ x10 → lp_L_isSearchSound_188 a0 x1 x4 x6 x7 K E n (x8 + r131) (x9 + r137) (x10 + (1 : Int32)) M148) ∧ (¬ (x7 - (1 : Int32)) ≤ x10 → (wp_X10_ofGroup a0 x6 x10 x6 (0 : Int32) M148 (fun M157 r158 => Nk_ M148 M157 → (wp_X10_ofGroup a0 x6 (x10 - (1 : Int32)) x6 (0 : Int32) M157 (fun M163 r164 => Nk_ M157 M163 → ((r164 < r158 → lp_L_isSearchSound_188 a0 x1 x4 x6 x7 K E n (x8 + r131) (x9 + r137) (x10 + (1 : Int32)) M163) ∧ (¬ r164 < r158 → (K M163 (0 : Int32))))))))))))))))))))))))
def lp_L_isSearchSound_339 (a0 : Nat) (x1 : Int32) (x4 : Int32) (x6 : Int32) (K : Mm → Int32 → Prop) (E : Mm → Prop) : Nat → Int32 → Mm → Prop
  | 0, _, _ => False
  | n + 1, x10, M => ((x4 ≤ x10 → E M) ∧ (¬ x4 ≤ x10 → (wp_X10_foundAt a0 x10 M (fun M193 r194 => Nk_ M M193 → (wp_X10_isNull a0 r194 x6 M193 (fun M199 r200 => Nk_ M193 M199 → bz_ r200 → (wp_X10_foundAt a0 (x10 - (1 : Int32)) M199 (fun M206 r207 => Nk_ M199 M206 → (wp_X10_isNull a0 r207 x6 M206 (fun M212 r213 => Nk_ M206 M212 → bz_ r213 → ((r213 = 0 → ((r200 = 0 → (wp_X10_foundAt a0 (x10 - (1 : Int32)) M212 (fun M221 r222 => Nk_ M212 M221 → (wp_X10_valueOf a0 r222 x6 M221 (fun M227 r228 => Nk_ M221 M227 → (wp_X10_foundAt a0 x10 M227 (fun M233 r234 => Nk_ M227 M233 → (wp_X10_valueOf a0 r234 x6 M233 (fun M239 r240 => Nk_ M233 M239 → ((r228 ≤ r240 → lp_L_isSearchSound_339 a0 x1 x4 x6 K E n (x10 + (1 : Int32)) M239) ∧ (¬ r228 ≤ r240 → (K M239 (0 : Int32))))))))))))) ∧ (¬ r200 = 0 → lp_L_isSearchSound_339 a0 x1 x4 x6 K E n (x10 + (1 : Int32)) M212))) ∧ (¬ r213 = 0 → ((r200 = 0 → (K M212 (0 : Int32))) ∧ (¬ r200 = 0 → ((r200 = 0 → (wp_X10_foundAt a0 (x10 - (1 : Int32)) M212 (fun M248 r249 => Nk_ M212 M248 → (wp_X10_valueOf a0 r249 x6 M248 (fun M254 r255 => Nk_ M248 M254 → (wp_X10_foundAt a0 x10 M254 (fun M260 r261 => Nk_ M254 M260 → (wp_X10_valueOf a0 r261 x6 M260 (fun M266 r267 => Nk_ M260 M266 → ((r255 ≤ r267 → lp_L_isSearchSound_339 a0 x1 x4 x6 K E n (x10 + (1 : Int32)) M266) ∧ (¬ r255 ≤ r267 → (K M266 (0 : Int32))))))))))))) ∧ (¬ r200 = 0 → lp_L_isSearchSound_339 a0 x1 x4 x6 K E n (x10 + (1 : Int32)) M212))))))))))))))))
def lp_L_isSearchSound_158 (a0 : Nat) (x1 : Int32) (x4 : Int32) (K : Mm → Int32 → Prop) (E : Mm → Prop) : Nat → Int32 → Mm → Prop
  | 0, _, _ => False
  | n + 1, x6, M => ((x1 ≤ x6 → E M) ∧ (¬ x1 ≤ x6 → (wp_X10_index a0 x6 M (fun M116 r117 => Nk_ M M116 → bz_ r117 → (wp_X10_groups a0 x6 M116 (fun M123 r124 => Nk_ M116 M123 → (∃ n170 : Nat, lp_L_isSearchSound_188 a0 x1 x4 x6 r124 K (fun xv173 xv174 M171 => Nk_ M123 M171 → ((xv173 = x4 → (wp_X10_sum a0 x6 M171 (fun M178 r179 => Nk_ M171 M178 → ((xv174 = r179 → ((r124 ≤ x4 → (wp_X10_sort a0 x6 (0 : Int32) M178 (fun M186 r187 => Nk_ M178 M186 → (∃ n273 : Nat, lp_L_isSearchSound_339 a0 x1 x4 x6 K (fun  M274 => Nk_ M186 M274 → lp_L_isSearchSound_158 a0 x1 x4 K E n (x6 + (1 : Int32)) M274) n273 (1 : Int32) M186)))) ∧ (¬ r124 ≤ x4 → (K M178 (0 : Int32))))) ∧ (¬ xv174 = r179 → (K M178 (0 : Int32))))))) ∧ (¬ xv173 = x4 → (K M171 (0 : Int32))))) n170 (0 : Int32) (0 : Int32) (0 : Int32) M123)))))))
def wp_L_isSearchSound (a0 : Nat) (x1 : Int32) (M : Mm) (K : Mm → Int32 → Prop) : Prop := kd_ M a0 = 12 ∧ (wp_X10_wouldFind a0 M (fun M1 r2 => Nk_ M M1 → (wp_X10_costWithout a0 M1 (fun M7 r8 => Nk_ M1 M7 → (wp_X10_find a0 M7 (fun M13 r14 => Nk_ M7 M13 → ((r14 = r2 → (wp_X10_passed a0 M13 (fun M20 r21 => Nk_ M13 M20 → (wp_X10_frames a0 M20 (fun M26 r27 => Nk_ M20 M26 → ((r27 < r21 → (K M26 (0 : Int32))) ∧ (¬ r27 < r21 → (wp_X10_costWithout a0 M26 (fun M33 r34 => Nk_ M26 M33 → ((r34 = r8 → (¬ r14 < 0 ∧ (ix_ r14 ≤ 600 ∧ (∀ q40, q40 ≠ 0 → kd_ M33 q40 = 0 → (∀ M47, M47 = nw_ M33 q40 20 (ix_ r14) → (∃ n71 : Nat, lp_L_isSearchSound_52 a0 x1 r14 q40 K (fun  M72 => Nk_ M47 M72 → (∃ n86 : Nat, lp_L_isSearchSound_93 a0 x1 r14 q40 K (fun  M87 => Nk_ M72 M87 → (wp_X10_find a0 M87 (fun M92 r93 => Nk_ M87 M92 → ((r93 = r14 → (∃ n110 : Nat, lp_L_isSearchSound_126 a0 x1 r14 q40 K (fun  M111 => Nk_ M92 M111 → (∃ n278 : Nat, lp_L_isSearchSound_158 a0 x1 r14 K (fun  M279 => Nk_ M111 M279 → (wp_X10_keep a0 M279 (fun M283 r284 => Nk_ M279 M283 → ((r284 = r14 → (wp_X10_pairs a0 (0 : Int32) (0 : Int32) M283 (fun M290 r291 => Nk_ M283 M290 → ((r291 < 0 → (K M290 (0 : Int32))) ∧ (¬ r291 < 0 → (wp_X10_limit a0 (r14 + (1 : Int32)) M290 (fun M297 r298 => Nk_ M290 M297 → ((r298 = r14 → (K M297 (1 : Int32))) ∧ (¬ r298 = r14 → (K M297 (0 : Int32))))))))))) ∧ (¬ r284 = r14 → (K M283 (0 : Int32))))))) n278 (0 : Int32) M111)) n110 (0 : Int32) M92)) ∧ (¬ r93 = r14 → (K M92 (0 : Int32))))))) n86 (0 : Int32) M72)) n71 (0 : Int32) M47)))))) ∧ (¬ r34 = r8 → (K M33 (0 : Int32))))))))))))) ∧ (¬ r14 = r2 → (K M13 (0 : Int32))))))))))
set_option maxHeartbeats 4000000 in
set_option maxRecDepth 100000 in
theorem lo_L_isSearchSound_52 {p : Program} {l : Launch} {e : Env} {s : State} {m : MethodId} {args : Array Value} {below : List Frame} {meth : Method} {c : Code} {D : Dd_} {M0 : Mm} {Q : State → Prop} {K : Mm → Int32 → Prop} (g : G_ p s m args meth c cL_isSearchSound 12 RL D M0) (hr : meth.sig.returnType = some .boolean) (hQ : Q = MQ below (va_Qi (fun r M' => K M' r ∧ bz_ r) (cB_ D M0 s.heap.size) (Aw_ M0 s.heap.size)) args s 1 600 (Aw_ M0 s.heap.size)) {a0 : Nat} {x1 : Int32} {x4 : Int32} {a5 : Nat} : ∀ (n : Nat) (E : Mm → Prop) (x6 : Int32) (M : Mm), lp_L_isSearchSound_52 a0 x1 x4 a5 K E n x6 M → kd_ M a0 = 12 → kd_ M a5 = 20 → (∀  (M' : Mm), E  M' → Nk_ M M' → V_ p l e rmL_isSearchSound s m args below meth c 12 D M0 Q 90 [(0, .ref a0), (1, .int x1), (4, .int x4), (5, .ref a5)] [] M' 1 600) → V_ p l e rmL_isSearchSound s m args below meth c 12 D M0 Q 52 [(0, .ref a0), (1, .int x1), (4, .int x4), (5, .ref a5), (6, .int x6)] [] M 1 600 := by
  intro n
  induction n with
  | zero =>
    intro E x6 M hw
    exact hw.elim
  | succ n ih =>
    intro E x6 M hw hp0 hp5 kE
    refine r_iload g dL_isSearchSound_52 4 rfl ?_
    refine r_iload g dL_isSearchSound_54 2 rfl ?_
    refine r_icmp_ge (tgt := 90) g dL_isSearchSound_56 (by decide) (fun hc51 => ?_) (fun hc51 => ?_)
    · have hw := hw.1 hc51
      exact V_.sub (kE  _ hw (Nk_.rf _)) [0, 1, 2, 3] rfl
    · have hw := hw.2 hc51
      refine r_aload g dL_isSearchSound_59 3 rfl ?_
      refine r_iload g dL_isSearchSound_61 4 rfl ?_
      refine r_aload_n g dL_isSearchSound_63 rfl 0 rfl ?_
      refine r_iload g dL_isSearchSound_64 4 rfl ?_
      refine r_callVi (As := [.int x6]) g (fun sz => mt_X10_foundAt hw sz) tw_1044 tw_1047 tw_1 tw_1045 tw_1046 (ci := 11) (T := TX10) (N := 6) rfl hp0 hy_X10_foundAt ⟨rfl, rfl⟩ (Nat.le_of_ble_eq_true rfl) (Nat.le_of_ble_eq_true rfl) (Nat.le_of_ble_eq_true rfl) (Nat.le_of_ble_eq_true rfl) (Nat.le_of_ble_eq_true rfl) rfl dL_isSearchSound_66 (fun M52 r53 hK54 hN55 => ?_)
      have hw := hK54 hN55
      have hk56 := Nk_.k hN55 hp0 (by decide)
      have hk57 := Nk_.k hN55 hp5 (by decide)
      have hT58 := Nk_.tr (Nk_.rf _) hN55
      obtain ⟨hi59, hw⟩ := hw
      refine r_iast g hk57 hi59 dL_isSearchSound_69 ?_
      have hw := hw _ rfl
      refine r_aload_n g dL_isSearchSound_70 rfl 0 rfl ?_
      refine r_aload g dL_isSearchSound_71 3 rfl ?_
      refine r_iload g dL_isSearchSound_73 4 rfl ?_
      obtain ⟨hi61, hw⟩ := hw
      refine r_iald g (Or.inl hk57) hi61 dL_isSearchSound_75 ?_
      refine r_callVz (As := [.int (it_ (sI_ M52 a5 (ix_ x6) r53) a5 (ix_ x6))]) g (fun sz => mt_X10_isAlive hw sz) tw_961 tw_964 tw_1 tw_962 tw_963 (ci := 11) (T := TX10) (N := 6) rfl hk56 hy_X10_isAlive ⟨rfl, rfl⟩ (Nat.le_of_ble_eq_true rfl) (Nat.le_of_ble_eq_true rfl) (Nat.le_of_ble_eq_true rfl) (Nat.le_of_ble_eq_true rfl) (Nat.le_of_ble_eq_true rfl) rfl dL_isSearchSound_76 (fun M62 r63 hK64 hb66 hN65 => ?_)
      have hw := hK64 hN65 hb66
      have hk67 := Nk_.k hN65 hk56 (by decide)
      have hk68 := Nk_.k hN65 hk57 (by decide)
      have hT69 := Nk_.tr hT58 hN65
      refine r_if_ne (tgt := 84) g dL_isSearchSound_79 (by decide) (fun hc70 => ?_) (fun hc70 => ?_)
      · have hw := hw.2 hc70
        refine r_iinc (v := x6 + (1 : Int32)) (L' := [(6, .int (x6 + (1 : Int32))), (0, .ref a0), (1, .int x1), (4, .int x4), (5, .ref a5)]) g dL_isSearchSound_84 4 rfl rfl (by decide) rfl ?_
        refine r_goto (tgt := 52) g dL_isSearchSound_87 (by decide) ?_
        exact V_.sub (ih E (x6 + (1 : Int32)) _ hw hk67 hk68 (fun  M9 hE9 hN9 => kE  M9 hE9 (Nk_.tr hT69 hN9))) [1, 2, 3, 4, 0] rfl
      · have hw := hw.1 hc70
        refine r_iconst (v := 0) g dL_isSearchSound_82 (by decide) ?_
        exact r_zret g hr (Nat.le_of_ble_eq_true rfl) (Nat.le_of_ble_eq_true rfl) hQ (Or.inl rfl) dL_isSearchSound_83 hw
set_option maxHeartbeats 4000000 in
set_option maxRecDepth 100000 in
theorem lo_L_isSearchSound_93 {p : Program} {l : Launch} {e : Env} {s : State} {m : MethodId} {args : Array Value} {below : List Frame} {meth : Method} {c : Code} {D : Dd_} {M0 : Mm} {Q : State → Prop} {K : Mm → Int32 → Prop} (g : G_ p s m args meth c cL_isSearchSound 12 RL D M0) (hr : meth.sig.returnType = some .boolean) (hQ : Q = MQ below (va_Qi (fun r M' => K M' r ∧ bz_ r) (cB_ D M0 s.heap.size) (Aw_ M0 s.heap.size)) args s 1 600 (Aw_ M0 s.heap.size)) {a0 : Nat} {x1 : Int32} {x4 : Int32} {a5 : Nat} : ∀ (n : Nat) (E : Mm → Prop) (x6 : Int32) (M : Mm), lp_L_isSearchSound_93 a0 x1 x4 a5 K E n x6 M → kd_ M a0 = 12 → kd_ M a5 = 20 → (∀  (M' : Mm), E  M' → Nk_ M M' → V_ p l e rmL_isSearchSound s m args below meth c 12 D M0 Q 112 [(0, .ref a0), (1, .int x1), (4, .int x4), (5, .ref a5)] [] M' 1 600) → V_ p l e rmL_isSearchSound s m args below meth c 12 D M0 Q 93 [(0, .ref a0), (1, .int x1), (4, .int x4), (5, .ref a5), (6, .int x6)] [] M 1 600 := by
  intro n
  induction n with
  | zero =>
    intro E x6 M hw
    exact hw.elim
  | succ n ih =>
    intro E x6 M hw hp0 hp5 kE
    refine r_iload g dL_isSearchSound_93 4 rfl ?_
    refine r_iload_n g dL_isSearchSound_95 rfl 1 rfl ?_
    refine r_icmp_ge (tgt := 112) g dL_isSearchSound_96 (by decide) (fun hc77 => ?_) (fun hc77 => ?_)
    · have hw := hw.1 hc77
      exact V_.sub (kE  _ hw (Nk_.rf _)) [0, 1, 2, 3] rfl
    · have hw := hw.2 hc77
      refine r_aload_n g dL_isSearchSound_99 rfl 0 rfl ?_
      refine r_iload g dL_isSearchSound_100 4 rfl ?_
      refine r_callVz (As := [.int x6]) g (fun sz => mt_X10_index hw sz) tw_883 tw_886 tw_1 tw_884 tw_885 (ci := 11) (T := TX10) (N := 6) rfl hp0 hy_X10_index ⟨rfl, rfl⟩ (Nat.le_of_ble_eq_true rfl) (Nat.le_of_ble_eq_true rfl) (Nat.le_of_ble_eq_true rfl) (Nat.le_of_ble_eq_true rfl) (Nat.le_of_ble_eq_true rfl) rfl dL_isSearchSound_102 (fun M78 r79 hK80 hb82 hN81 => ?_)
      have hw := hK80 hN81 hb82
      have hk83 := Nk_.k hN81 hp0 (by decide)
      have hk84 := Nk_.k hN81 hp5 (by decide)
      have hT85 := Nk_.tr (Nk_.rf _) hN81
      refine r_pop g dL_isSearchSound_105 rfl ?_
      refine r_iinc (v := x6 + (1 : Int32)) (L' := [(6, .int (x6 + (1 : Int32))), (0, .ref a0), (1, .int x1), (4, .int x4), (5, .ref a5)]) g dL_isSearchSound_106 4 rfl rfl (by decide) rfl ?_
      refine r_goto (tgt := 93) g dL_isSearchSound_109 (by decide) ?_
      exact V_.sub (ih E (x6 + (1 : Int32)) _ hw hk83 hk84 (fun  M9 hE9 hN9 => kE  M9 hE9 (Nk_.tr hT85 hN9))) [1, 2, 3, 4, 0] rfl
set_option maxHeartbeats 4000000 in
set_option maxRecDepth 100000 in
theorem lo_L_isSearchSound_126 {p : Program} {l : Launch} {e : Env} {s : State} {m : MethodId} {args : Array Value} {below : List Frame} {meth : Method} {c : Code} {D : Dd_} {M0 : Mm} {Q : State → Prop} {K : Mm → Int32 → Prop} (g : G_ p s m args meth c cL_isSearchSound 12 RL D M0) (hr : meth.sig.returnType = some .boolean) (hQ : Q = MQ below (va_Qi (fun r M' => K M' r ∧ bz_ r) (cB_ D M0 s.heap.size) (Aw_ M0 s.heap.size)) args s 1 600 (Aw_ M0 s.heap.size)) {a0 : Nat} {x1 : Int32} {x4 : Int32} {a5 : Nat} : ∀ (n : Nat) (E : Mm → Prop) (x6 : Int32) (M : Mm), lp_L_isSearchSound_126 a0 x1 x4 a5 K E n x6 M → kd_ M a0 = 12 → kd_ M a5 = 20 → (∀  (M' : Mm), E  M' → Nk_ M M' → V_ p l e rmL_isSearchSound s m args below meth c 12 D M0 Q 155 [(0, .ref a0), (1, .int x1), (4, .int x4)] [] M' 1 600) → V_ p l e rmL_isSearchSound s m args below meth c 12 D M0 Q 126 [(0, .ref a0), (1, .int x1), (4, .int x4), (5, .ref a5), (6, .int x6)] [] M 1 600 := by
  intro n
  induction n with
  | zero =>
    intro E x6 M hw
    exact hw.elim
  | succ n ih =>
    intro E x6 M hw hp0 hp5 kE
    refine r_iload g dL_isSearchSound_126 4 rfl ?_
    refine r_iload g dL_isSearchSound_128 2 rfl ?_
    refine r_icmp_ge (tgt := 155) g dL_isSearchSound_130 (by decide) (fun hc100 => ?_) (fun hc100 => ?_)
    · have hw := hw.1 hc100
      exact V_.sub (kE  _ hw (Nk_.rf _)) [0, 1, 2] rfl
    · have hw := hw.2 hc100
      refine r_aload_n g dL_isSearchSound_133 rfl 0 rfl ?_
      refine r_iload g dL_isSearchSound_134 4 rfl ?_
      refine r_callVi (As := [.int x6]) g (fun sz => mt_X10_foundAt hw sz) tw_1044 tw_1047 tw_1 tw_1045 tw_1046 (ci := 11) (T := TX10) (N := 6) rfl hp0 hy_X10_foundAt ⟨rfl, rfl⟩ (Nat.le_of_ble_eq_true rfl) (Nat.le_of_ble_eq_true rfl) (Nat.le_of_ble_eq_true rfl) (Nat.le_of_ble_eq_true rfl) (Nat.le_of_ble_eq_true rfl) rfl dL_isSearchSound_136 (fun M101 r102 hK103 hN104 => ?_)
      have hw := hK103 hN104
      have hk105 := Nk_.k hN104 hp0 (by decide)
      have hk106 := Nk_.k hN104 hp5 (by decide)
      have hT107 := Nk_.tr (Nk_.rf _) hN104
      refine r_aload g dL_isSearchSound_139 3 rfl ?_
      refine r_iload g dL_isSearchSound_141 4 rfl ?_
      obtain ⟨hi108, hw⟩ := hw
      refine r_iald g (Or.inl hk106) hi108 dL_isSearchSound_143 ?_
      refine r_icmp_eq (tgt := 149) g dL_isSearchSound_144 (by decide) (fun hc109 => ?_) (fun hc109 => ?_)
      · have hw := hw.1 hc109
        refine r_iinc (v := x6 + (1 : Int32)) (L' := [(6, .int (x6 + (1 : Int32))), (0, .ref a0), (1, .int x1), (4, .int x4), (5, .ref a5)]) g dL_isSearchSound_149 4 rfl rfl (by decide) rfl ?_
        refine r_goto (tgt := 126) g dL_isSearchSound_152 (by decide) ?_
        exact V_.sub (ih E (x6 + (1 : Int32)) _ hw hk105 hk106 (fun  M9 hE9 hN9 => kE  M9 hE9 (Nk_.tr hT107 hN9))) [1, 2, 3, 4, 0] rfl
      · have hw := hw.2 hc109
        refine r_iconst (v := 0) g dL_isSearchSound_147 (by decide) ?_
        exact r_zret g hr (Nat.le_of_ble_eq_true rfl) (Nat.le_of_ble_eq_true rfl) hQ (Or.inl rfl) dL_isSearchSound_148 hw
set_option maxHeartbeats 4000000 in
set_option maxRecDepth 100000 in
theorem lo_L_isSearchSound_188 {p : Program} {l : Launch} {e : Env} {s : State} {m : MethodId} {args : Array Value} {below : List Frame} {meth : Method} {c : Code} {D : Dd_} {M0 : Mm} {Q : State → Prop} {K : Mm → Int32 → Prop} (g : G_ p s m args meth c cL_isSearchSound 12 RL D M0) (hr : meth.sig.returnType = some .boolean) (hQ : Q = MQ below (va_Qi (fun r M' => K M' r ∧ bz_ r) (cB_ D M0 s.heap.size) (Aw_ M0 s.heap.size)) args s 1 600 (Aw_ M0 s.heap.size)) {a0 : Nat} {x1 : Int32} {x4 : Int32} {x6 : Int32} {x7 : Int32} : ∀ (n : Nat) (E : Int32 → Int32 → Mm → Prop) (x8 : Int32) (x9 : Int32) (x10 : Int32) (M : Mm), lp_L_isSearchSound_188 a0 x1 x4 x6 x7 K E n x8 x9 x10 M → kd_ M a0 = 12 → (∀ (e9_8 : Int32) (e9_9 : Int32) (M' : Mm), E e9_8 e9_9 M' → Nk_ M M' → V_ p l e rmL_isSearchSound s m args below meth c 12 D M0 Q 301 [(0, .ref a0), (1, .int x1), (4, .int x4), (6, .int x6), (7, .int x7), (8, .int e9_8), (9, .int e9_9)] [] M' 1 600) → V_ p l e rmL_isSearchSound s m args below meth c 12 D M0 Q 188 [(0, .ref a0), (1, .int x1), (4, .int x4), (6, .int x6), (7, .int x7), (8, .int x8), (9, .int x9), (10, .int x10)] [] M 1 600 := by
  intro n
  induction n with
  | zero =>
    intro E x8 x9 x10 M hw
    exact hw.elim
  | succ n ih =>
    intro E x8 x9 x10 M hw hp0 kE
    refine r_iload g dL_isSearchSound_188 7 rfl ?_
    refine r_iload g dL_isSearchSound_190 4 rfl ?_
    refine r_icmp_ge (tgt := 301) g dL_isSearchSound_192 (by decide) (fun hc129 => ?_) (fun hc129 => ?_)
    · have hw := hw.1 hc129
      exact V_.sub (kE x8 x9 _ hw (Nk_.rf _)) [0, 1, 2, 3, 4, 5, 6] rfl
    · have hw := hw.2 hc129
      refine r_iload g dL_isSearchSound_195 5 rfl ?_
      refine r_aload_n g dL_isSearchSound_197 rfl 0 rfl ?_
      refine r_iload g dL_isSearchSound_198 3 rfl ?_
      refine r_iload g dL_isSearchSound_200 7 rfl ?_
      refine r_iload g dL_isSearchSound_202 3 rfl ?_
      refine r_iconst (v := 1) g dL_isSearchSound_204 (by decide) ?_
      refine r_callVi (As := [.int x6, .int x10, .int x6, .int (1 : Int32)]) g (fun sz => mt_X10_ofGroup hw sz) tw_1059 tw_1062 tw_1 tw_1060 tw_1061 (ci := 11) (T := TX10) (N := 6) rfl hp0 hy_X10_ofGroup ⟨rfl, rfl⟩ (Nat.le_of_ble_eq_true rfl) (Nat.le_of_ble_eq_true rfl) (Nat.le_of_ble_eq_true rfl) (Nat.le_of_ble_eq_true rfl) (Nat.le_of_ble_eq_true rfl) rfl dL_isSearchSound_205 (fun M130 r131 hK132 hN133 => ?_)
      have hw := hK132 hN133
      have hk134 := Nk_.k hN133 hp0 (by decide)
      have hT135 := Nk_.tr (Nk_.rf _) hN133
      refine r_iadd g dL_isSearchSound_208 ?_
      refine r_istore (L' := [(8, .int (x8 + r131)), (0, .ref a0), (1, .int x1), (4, .int x4), (6, .int x6), (7, .int x7), (9, .int x9), (10, .int x10)]) g dL_isSearchSound_209 (by decide) rfl ?_
      refine r_iload g dL_isSearchSound_211 6 rfl ?_
      refine r_aload_n g dL_isSearchSound_213 rfl 1 rfl ?_
      refine r_iload g dL_isSearchSound_214 4 rfl ?_
      refine r_iload g dL_isSearchSound_216 7 rfl ?_
      refine r_iload g dL_isSearchSound_218 4 rfl ?_
      refine r_iconst (v := 2) g dL_isSearchSound_220 (by decide) ?_
      refine r_callVi (As := [.int x6, .int x10, .int x6, .int (2 : Int32)]) g (fun sz => mt_X10_ofGroup hw sz) tw_1059 tw_1062 tw_1 tw_1060 tw_1061 (ci := 11) (T := TX10) (N := 6) rfl hk134 hy_X10_ofGroup ⟨rfl, rfl⟩ (Nat.le_of_ble_eq_true rfl) (Nat.le_of_ble_eq_true rfl) (Nat.le_of_ble_eq_true rfl) (Nat.le_of_ble_eq_true rfl) (Nat.le_of_ble_eq_true rfl) rfl dL_isSearchSound_221 (fun M136 r137 hK138 hN139 => ?_)
      have hw := hK138 hN139
      have hk140 := Nk_.k hN139 hk134 (by decide)
      have hT141 := Nk_.tr hT135 hN139
      refine r_iadd g dL_isSearchSound_224 ?_
      refine r_istore (L' := [(9, .int (x9 + r137)), (8, .int (x8 + r131)), (0, .ref a0), (1, .int x1), (4, .int x4), (6, .int x6), (7, .int x7), (10, .int x10)]) g dL_isSearchSound_225 (by decide) rfl ?_
      refine r_aload_n g dL_isSearchSound_227 rfl 2 rfl ?_
      refine r_iload g dL_isSearchSound_228 5 rfl ?_
      refine r_iload g dL_isSearchSound_230 7 rfl ?_
      refine r_iload g dL_isSearchSound_232 5 rfl ?_
      refine r_iconst (v := 3) g dL_isSearchSound_234 (by decide) ?_
      refine r_callVi (As := [.int x6, .int x10, .int x6, .int (3 : Int32)]) g (fun sz => mt_X10_ofGroup hw sz) tw_1059 tw_1062 tw_1 tw_1060 tw_1061 (ci := 11) (T := TX10) (N := 6) rfl hk140 hy_X10_ofGroup ⟨rfl, rfl⟩ (Nat.le_of_ble_eq_true rfl) (Nat.le_of_ble_eq_true rfl) (Nat.le_of_ble_eq_true rfl) (Nat.le_of_ble_eq_true rfl) (Nat.le_of_ble_eq_true rfl) rfl dL_isSearchSound_235 (fun M142 r143 hK144 hN145 => ?_)
      have hw := hK144 hN145
      have hk146 := Nk_.k hN145 hk140 (by decide)
      have hT147 := Nk_.tr hT141 hN145
      refine r_aload_n g dL_isSearchSound_238 rfl 2 rfl ?_
      refine r_iload g dL_isSearchSound_239 5 rfl ?_
      refine r_iload g dL_isSearchSound_241 7 rfl ?_
      refine r_iload g dL_isSearchSound_243 5 rfl ?_
      refine r_iconst (v := 4) g dL_isSearchSound_245 (by decide) ?_
      refine r_callVi (As := [.int x6, .int x10, .int x6, .int (4 : Int32)]) g (fun sz => mt_X10_ofGroup hw sz) tw_1059 tw_1062 tw_1 tw_1060 tw_1061 (ci := 11) (T := TX10) (N := 6) rfl hk146 hy_X10_ofGroup ⟨rfl, rfl⟩ (Nat.le_of_ble_eq_true rfl) (Nat.le_of_ble_eq_true rfl) (Nat.le_of_ble_eq_true rfl) (Nat.le_of_ble_eq_true rfl) (Nat.le_of_ble_eq_true rfl) rfl dL_isSearchSound_246 (fun M148 r149 hK150 hN151 => ?_)
      have hw := hK150 hN151
      have hk152 := Nk_.k hN151 hk146 (by decide)
      have hT153 := Nk_.tr hT147 hN151
      refine r_icmp_gt (tgt := 293) g dL_isSearchSound_249 (by decide) (fun hc154 => ?_) (fun hc154 => ?_)
      · have hw := hw.1 hc154
        refine r_iconst (v := 0) g dL_isSearchSound_293 (by decide) ?_
        exact r_zret g hr (Nat.le_of_ble_eq_true rfl) (Nat.le_of_ble_eq_true rfl) hQ (Or.inl rfl) dL_isSearchSound_294 hw
      · have hw := hw.2 hc154
        refine r_iload g dL_isSearchSound_252 7 rfl ?_
        refine r_if_le (tgt := 295) g dL_isSearchSound_254 (by decide) (fun hc155 => ?_) (fun hc155 => ?_)
        · have hw := hw.1 hc155
          refine r_iinc (v := x10 + (1 : Int32)) (L' := [(10, .int (x10 + (1 : Int32))), (9, .int (x9 + r137)), (8, .int (x8 + r131)), (0, .ref a0), (1, .int x1), (4, .int x4), (6, .int x6), (7, .int x7)]) g dL_isSearchSound_295 7 rfl rfl (by decide) rfl ?_
          refine r_goto (tgt := 188) g dL_isSearchSound_298 (by decide) ?_
          exact V_.sub (ih E (x8 + r131) (x9 + r137) (x10 + (1 : Int32)) _ hw hk152 (fun e9_8 e9_9 M9 hE9 hN9 => kE e9_8 e9_9 M9 hE9 (Nk_.tr hT153 hN9))) [3, 4, 5, 6, 7, 2, 1, 0] rfl
        · have hw := hw.2 hc155
          refine r_iload g dL_isSearchSound_257 7 rfl ?_
          refine r_iload g dL_isSearchSound_259 6 rfl ?_
          refine r_iconst (v := 1) g dL_isSearchSound_261 (by decide) ?_
          refine r_isub g dL_isSearchSound_262 ?_
          refine r_icmp_ge (tgt := 295) g dL_isSearchSound_263 (by decide) (fun hc156 => ?_) (fun hc156 => ?_)
          · have hw := hw.1 hc156
            refine r_iinc (v := x10 + (1 : Int32)) (L' := [(10, .int (x10 + (1 : Int32))), (9, .int (x9 + r137)), (8, .int (x8 + r131)), (0, .ref a0), (1, .int x1), (4, .int x4), (6, .int x6), (7, .int x7)]) g dL_isSearchSound_295 7 rfl rfl (by decide) rfl ?_
            refine r_goto (tgt := 188) g dL_isSearchSound_298 (by decide) ?_
            exact V_.sub (ih E (x8 + r131) (x9 + r137) (x10 + (1 : Int32)) _ hw hk152 (fun e9_8 e9_9 M9 hE9 hN9 => kE e9_8 e9_9 M9 hE9 (Nk_.tr hT153 hN9))) [3, 4, 5, 6, 7, 2, 1, 0] rfl
          · have hw := hw.2 hc156
            refine r_aload_n g dL_isSearchSound_266 rfl 2 rfl ?_
            refine r_iload g dL_isSearchSound_267 5 rfl ?_
            refine r_iload g dL_isSearchSound_269 7 rfl ?_
            refine r_iload g dL_isSearchSound_271 5 rfl ?_
            refine r_iconst (v := 0) g dL_isSearchSound_273 (by decide) ?_
            refine r_callVi (As := [.int x6, .int x10, .int x6, .int (0 : Int32)]) g (fun sz => mt_X10_ofGroup hw sz) tw_1059 tw_1062 tw_1 tw_1060 tw_1061 (ci := 11) (T := TX10) (N := 6) rfl hk152 hy_X10_ofGroup ⟨rfl, rfl⟩ (Nat.le_of_ble_eq_true rfl) (Nat.le_of_ble_eq_true rfl) (Nat.le_of_ble_eq_true rfl) (Nat.le_of_ble_eq_true rfl) (Nat.le_of_ble_eq_true rfl) rfl dL_isSearchSound_274 (fun M157 r158 hK159 hN160 => ?_)
            have hw := hK159 hN160
            have hk161 := Nk_.k hN160 hk152 (by decide)
            have hT162 := Nk_.tr hT153 hN160
            refine r_aload_n g dL_isSearchSound_277 rfl 2 rfl ?_
            refine r_iload g dL_isSearchSound_278 5 rfl ?_
            refine r_iload g dL_isSearchSound_280 7 rfl ?_
            refine r_iconst (v := 1) g dL_isSearchSound_282 (by decide) ?_
            refine r_isub g dL_isSearchSound_283 ?_
            refine r_iload g dL_isSearchSound_284 5 rfl ?_
            refine r_iconst (v := 0) g dL_isSearchSound_286 (by decide) ?_
            refine r_callVi (As := [.int x6, .int (x10 - (1 : Int32)), .int x6, .int (0 : Int32)]) g (fun sz => mt_X10_ofGroup hw sz) tw_1059 tw_1062 tw_1 tw_1060 tw_1061 (ci := 11) (T := TX10) (N := 6) rfl hk161 hy_X10_ofGroup ⟨rfl, rfl⟩ (Nat.le_of_ble_eq_true rfl) (Nat.le_of_ble_eq_true rfl) (Nat.le_of_ble_eq_true rfl) (Nat.le_of_ble_eq_true rfl) (Nat.le_of_ble_eq_true rfl) rfl dL_isSearchSound_287 (fun M163 r164 hK165 hN166 => ?_)
            have hw := hK165 hN166
            have hk167 := Nk_.k hN166 hk161 (by decide)
            have hT168 := Nk_.tr hT162 hN166
            refine r_icmp_gt (tgt := 295) g dL_isSearchSound_290 (by decide) (fun hc169 => ?_) (fun hc169 => ?_)
            · have hw := hw.1 hc169
              refine r_iinc (v := x10 + (1 : Int32)) (L' := [(10, .int (x10 + (1 : Int32))), (9, .int (x9 + r137)), (8, .int (x8 + r131)), (0, .ref a0), (1, .int x1), (4, .int x4), (6, .int x6), (7, .int x7)]) g dL_isSearchSound_295 7 rfl rfl (by decide) rfl ?_
              refine r_goto (tgt := 188) g dL_isSearchSound_298 (by decide) ?_
              exact V_.sub (ih E (x8 + r131) (x9 + r137) (x10 + (1 : Int32)) _ hw hk167 (fun e9_8 e9_9 M9 hE9 hN9 => kE e9_8 e9_9 M9 hE9 (Nk_.tr hT168 hN9))) [3, 4, 5, 6, 7, 2, 1, 0] rfl
            · have hw := hw.2 hc169
              refine r_iconst (v := 0) g dL_isSearchSound_293 (by decide) ?_
              exact r_zret g hr (Nat.le_of_ble_eq_true rfl) (Nat.le_of_ble_eq_true rfl) hQ (Or.inl rfl) dL_isSearchSound_294 hw
set_option maxHeartbeats 4000000 in
set_option maxRecDepth 100000 in
theorem lo_L_isSearchSound_339 {p : Program} {l : Launch} {e : Env} {s : State} {m : MethodId} {args : Array Value} {below : List Frame} {meth : Method} {c : Code} {D : Dd_} {M0 : Mm} {Q : State → Prop} {K : Mm → Int32 → Prop} (g : G_ p s m args meth c cL_isSearchSound 12 RL D M0) (hr : meth.sig.returnType = some .boolean) (hQ : Q = MQ below (va_Qi (fun r M' => K M' r ∧ bz_ r) (cB_ D M0 s.heap.size) (Aw_ M0 s.heap.size)) args s 1 600 (Aw_ M0 s.heap.size)) {a0 : Nat} {x1 : Int32} {x4 : Int32} {x6 : Int32} : ∀ (n : Nat) (E : Mm → Prop) (x10 : Int32) (M : Mm), lp_L_isSearchSound_339 a0 x1 x4 x6 K E n x10 M → kd_ M a0 = 12 → (∀  (M' : Mm), E  M' → Nk_ M M' → V_ p l e rmL_isSearchSound s m args below meth c 12 D M0 Q 424 [(0, .ref a0), (1, .int x1), (4, .int x4), (6, .int x6)] [] M' 1 600) → V_ p l e rmL_isSearchSound s m args below meth c 12 D M0 Q 339 [(0, .ref a0), (1, .int x1), (4, .int x4), (6, .int x6), (10, .int x10)] [] M 1 600 := by
  intro n
  induction n with
  | zero =>
    intro E x10 M hw
    exact hw.elim
  | succ n ih =>
    intro E x10 M hw hp0 kE
    refine r_iload g dL_isSearchSound_339 4 rfl ?_
    refine r_iload g dL_isSearchSound_341 2 rfl ?_
    refine r_icmp_ge (tgt := 424) g dL_isSearchSound_343 (by decide) (fun hc192 => ?_) (fun hc192 => ?_)
    · have hw := hw.1 hc192
      exact V_.sub (kE  _ hw (Nk_.rf _)) [0, 1, 2, 3] rfl
    · have hw := hw.2 hc192
      refine r_aload_n g dL_isSearchSound_346 rfl 0 rfl ?_
      refine r_aload_n g dL_isSearchSound_347 rfl 0 rfl ?_
      refine r_iload g dL_isSearchSound_348 4 rfl ?_
      refine r_callVi (As := [.int x10]) g (fun sz => mt_X10_foundAt hw sz) tw_1044 tw_1047 tw_1 tw_1045 tw_1046 (ci := 11) (T := TX10) (N := 6) rfl hp0 hy_X10_foundAt ⟨rfl, rfl⟩ (Nat.le_of_ble_eq_true rfl) (Nat.le_of_ble_eq_true rfl) (Nat.le_of_ble_eq_true rfl) (Nat.le_of_ble_eq_true rfl) (Nat.le_of_ble_eq_true rfl) rfl dL_isSearchSound_350 (fun M193 r194 hK195 hN196 => ?_)
      have hw := hK195 hN196
      have hk197 := Nk_.k hN196 hp0 (by decide)
      have hT198 := Nk_.tr (Nk_.rf _) hN196
      refine r_iload g dL_isSearchSound_353 3 rfl ?_
      refine r_callVz (As := [.int r194, .int x6]) g (fun sz => mt_X10_isNull hw sz) tw_965 tw_968 tw_1 tw_966 tw_967 (ci := 11) (T := TX10) (N := 6) rfl hk197 hy_X10_isNull ⟨rfl, rfl⟩ (Nat.le_of_ble_eq_true rfl) (Nat.le_of_ble_eq_true rfl) (Nat.le_of_ble_eq_true rfl) (Nat.le_of_ble_eq_true rfl) (Nat.le_of_ble_eq_true rfl) rfl dL_isSearchSound_355 (fun M199 r200 hK201 hb203 hN202 => ?_)
      have hw := hK201 hN202 hb203
      have hk204 := Nk_.k hN202 hk197 (by decide)
      have hT205 := Nk_.tr hT198 hN202
      refine r_istore (L' := [(11, .int r200), (0, .ref a0), (1, .int x1), (4, .int x4), (6, .int x6), (10, .int x10)]) g dL_isSearchSound_358 (by decide) rfl ?_
      refine r_aload_n g dL_isSearchSound_360 rfl 1 rfl ?_
      refine r_aload_n g dL_isSearchSound_361 rfl 1 rfl ?_
      refine r_iload g dL_isSearchSound_362 5 rfl ?_
      refine r_iconst (v := 1) g dL_isSearchSound_364 (by decide) ?_
      refine r_isub g dL_isSearchSound_365 ?_
      refine r_callVi (As := [.int (x10 - (1 : Int32))]) g (fun sz => mt_X10_foundAt hw sz) tw_1044 tw_1047 tw_1 tw_1045 tw_1046 (ci := 11) (T := TX10) (N := 6) rfl hk204 hy_X10_foundAt ⟨rfl, rfl⟩ (Nat.le_of_ble_eq_true rfl) (Nat.le_of_ble_eq_true rfl) (Nat.le_of_ble_eq_true rfl) (Nat.le_of_ble_eq_true rfl) (Nat.le_of_ble_eq_true rfl) rfl dL_isSearchSound_366 (fun M206 r207 hK208 hN209 => ?_)
      have hw := hK208 hN209
      have hk210 := Nk_.k hN209 hk204 (by decide)
      have hT211 := Nk_.tr hT205 hN209
      refine r_iload g dL_isSearchSound_369 4 rfl ?_
      refine r_callVz (As := [.int r207, .int x6]) g (fun sz => mt_X10_isNull hw sz) tw_965 tw_968 tw_1 tw_966 tw_967 (ci := 11) (T := TX10) (N := 6) rfl hk210 hy_X10_isNull ⟨rfl, rfl⟩ (Nat.le_of_ble_eq_true rfl) (Nat.le_of_ble_eq_true rfl) (Nat.le_of_ble_eq_true rfl) (Nat.le_of_ble_eq_true rfl) (Nat.le_of_ble_eq_true rfl) rfl dL_isSearchSound_371 (fun M212 r213 hK214 hb216 hN215 => ?_)
      have hw := hK214 hN215 hb216
      have hk217 := Nk_.k hN215 hk210 (by decide)
      have hT218 := Nk_.tr hT211 hN215
      refine r_if_eq (tgt := 382) g dL_isSearchSound_374 (by decide) (fun hc219 => ?_) (fun hc219 => ?_)
      · have hw := hw.1 hc219
        refine r_iload g dL_isSearchSound_382 0 rfl ?_
        refine r_if_ne (tgt := 418) g dL_isSearchSound_384 (by decide) (fun hc220 => ?_) (fun hc220 => ?_)
        · have hw := hw.2 hc220
          refine r_iinc (v := x10 + (1 : Int32)) (L' := [(10, .int (x10 + (1 : Int32))), (11, .int r200), (0, .ref a0), (1, .int x1), (4, .int x4), (6, .int x6)]) g dL_isSearchSound_418 5 rfl rfl (by decide) rfl ?_
          refine r_goto (tgt := 339) g dL_isSearchSound_421 (by decide) ?_
          exact V_.sub (ih E (x10 + (1 : Int32)) _ hw hk217 (fun  M9 hE9 hN9 => kE  M9 hE9 (Nk_.tr hT218 hN9))) [2, 3, 4, 5, 0] rfl
        · have hw := hw.1 hc220
          refine r_aload_n g dL_isSearchSound_387 rfl 1 rfl ?_
          refine r_aload_n g dL_isSearchSound_388 rfl 1 rfl ?_
          refine r_iload g dL_isSearchSound_389 5 rfl ?_
          refine r_iconst (v := 1) g dL_isSearchSound_391 (by decide) ?_
          refine r_isub g dL_isSearchSound_392 ?_
          refine r_callVi (As := [.int (x10 - (1 : Int32))]) g (fun sz => mt_X10_foundAt hw sz) tw_1044 tw_1047 tw_1 tw_1045 tw_1046 (ci := 11) (T := TX10) (N := 6) rfl hk217 hy_X10_foundAt ⟨rfl, rfl⟩ (Nat.le_of_ble_eq_true rfl) (Nat.le_of_ble_eq_true rfl) (Nat.le_of_ble_eq_true rfl) (Nat.le_of_ble_eq_true rfl) (Nat.le_of_ble_eq_true rfl) rfl dL_isSearchSound_393 (fun M221 r222 hK223 hN224 => ?_)
          have hw := hK223 hN224
          have hk225 := Nk_.k hN224 hk217 (by decide)
          have hT226 := Nk_.tr hT218 hN224
          refine r_iload g dL_isSearchSound_396 4 rfl ?_
          refine r_callVi (As := [.int r222, .int x6]) g (fun sz => mt_X10_valueOf hw sz) tw_969 tw_972 tw_1 tw_970 tw_971 (ci := 11) (T := TX10) (N := 6) rfl hk225 hy_X10_valueOf ⟨rfl, rfl⟩ (Nat.le_of_ble_eq_true rfl) (Nat.le_of_ble_eq_true rfl) (Nat.le_of_ble_eq_true rfl) (Nat.le_of_ble_eq_true rfl) (Nat.le_of_ble_eq_true rfl) rfl dL_isSearchSound_398 (fun M227 r228 hK229 hN230 => ?_)
          have hw := hK229 hN230
          have hk231 := Nk_.k hN230 hk225 (by decide)
          have hT232 := Nk_.tr hT226 hN230
          refine r_aload_n g dL_isSearchSound_401 rfl 1 rfl ?_
          refine r_aload_n g dL_isSearchSound_402 rfl 1 rfl ?_
          refine r_iload g dL_isSearchSound_403 5 rfl ?_
          refine r_callVi (As := [.int x10]) g (fun sz => mt_X10_foundAt hw sz) tw_1044 tw_1047 tw_1 tw_1045 tw_1046 (ci := 11) (T := TX10) (N := 6) rfl hk231 hy_X10_foundAt ⟨rfl, rfl⟩ (Nat.le_of_ble_eq_true rfl) (Nat.le_of_ble_eq_true rfl) (Nat.le_of_ble_eq_true rfl) (Nat.le_of_ble_eq_true rfl) (Nat.le_of_ble_eq_true rfl) rfl dL_isSearchSound_405 (fun M233 r234 hK235 hN236 => ?_)
          have hw := hK235 hN236
          have hk237 := Nk_.k hN236 hk231 (by decide)
          have hT238 := Nk_.tr hT232 hN236
          refine r_iload g dL_isSearchSound_408 4 rfl ?_
          refine r_callVi (As := [.int r234, .int x6]) g (fun sz => mt_X10_valueOf hw sz) tw_969 tw_972 tw_1 tw_970 tw_971 (ci := 11) (T := TX10) (N := 6) rfl hk237 hy_X10_valueOf ⟨rfl, rfl⟩ (Nat.le_of_ble_eq_true rfl) (Nat.le_of_ble_eq_true rfl) (Nat.le_of_ble_eq_true rfl) (Nat.le_of_ble_eq_true rfl) (Nat.le_of_ble_eq_true rfl) rfl dL_isSearchSound_410 (fun M239 r240 hK241 hN242 => ?_)
          have hw := hK241 hN242
          have hk243 := Nk_.k hN242 hk237 (by decide)
          have hT244 := Nk_.tr hT238 hN242
          refine r_icmp_le (tgt := 418) g dL_isSearchSound_413 (by decide) (fun hc245 => ?_) (fun hc245 => ?_)
          · have hw := hw.1 hc245
            refine r_iinc (v := x10 + (1 : Int32)) (L' := [(10, .int (x10 + (1 : Int32))), (11, .int r200), (0, .ref a0), (1, .int x1), (4, .int x4), (6, .int x6)]) g dL_isSearchSound_418 5 rfl rfl (by decide) rfl ?_
            refine r_goto (tgt := 339) g dL_isSearchSound_421 (by decide) ?_
            exact V_.sub (ih E (x10 + (1 : Int32)) _ hw hk243 (fun  M9 hE9 hN9 => kE  M9 hE9 (Nk_.tr hT244 hN9))) [2, 3, 4, 5, 0] rfl
          · have hw := hw.2 hc245
            refine r_iconst (v := 0) g dL_isSearchSound_416 (by decide) ?_
            exact r_zret g hr (Nat.le_of_ble_eq_true rfl) (Nat.le_of_ble_eq_true rfl) hQ (Or.inl rfl) dL_isSearchSound_417 hw
      · have hw := hw.2 hc219
        refine r_iload g dL_isSearchSound_377 0 rfl ?_
        refine r_if_eq (tgt := 416) g dL_isSearchSound_379 (by decide) (fun hc246 => ?_) (fun hc246 => ?_)
        · have hw := hw.1 hc246
          refine r_iconst (v := 0) g dL_isSearchSound_416 (by decide) ?_
          exact r_zret g hr (Nat.le_of_ble_eq_true rfl) (Nat.le_of_ble_eq_true rfl) hQ (Or.inl rfl) dL_isSearchSound_417 hw
        · have hw := hw.2 hc246
          refine r_iload g dL_isSearchSound_382 0 rfl ?_
          refine r_if_ne (tgt := 418) g dL_isSearchSound_384 (by decide) (fun hc247 => ?_) (fun hc247 => ?_)
          · have hw := hw.2 hc247
            refine r_iinc (v := x10 + (1 : Int32)) (L' := [(10, .int (x10 + (1 : Int32))), (11, .int r200), (0, .ref a0), (1, .int x1), (4, .int x4), (6, .int x6)]) g dL_isSearchSound_418 5 rfl rfl (by decide) rfl ?_
            refine r_goto (tgt := 339) g dL_isSearchSound_421 (by decide) ?_
            exact V_.sub (ih E (x10 + (1 : Int32)) _ hw hk217 (fun  M9 hE9 hN9 => kE  M9 hE9 (Nk_.tr hT218 hN9))) [2, 3, 4, 5, 0] rfl
          · have hw := hw.1 hc247
            refine r_aload_n g dL_isSearchSound_387 rfl 1 rfl ?_
            refine r_aload_n g dL_isSearchSound_388 rfl 1 rfl ?_
            refine r_iload g dL_isSearchSound_389 5 rfl ?_
            refine r_iconst (v := 1) g dL_isSearchSound_391 (by decide) ?_
            refine r_isub g dL_isSearchSound_392 ?_
            refine r_callVi (As := [.int (x10 - (1 : Int32))]) g (fun sz => mt_X10_foundAt hw sz) tw_1044 tw_1047 tw_1 tw_1045 tw_1046 (ci := 11) (T := TX10) (N := 6) rfl hk217 hy_X10_foundAt ⟨rfl, rfl⟩ (Nat.le_of_ble_eq_true rfl) (Nat.le_of_ble_eq_true rfl) (Nat.le_of_ble_eq_true rfl) (Nat.le_of_ble_eq_true rfl) (Nat.le_of_ble_eq_true rfl) rfl dL_isSearchSound_393 (fun M248 r249 hK250 hN251 => ?_)
            have hw := hK250 hN251
            have hk252 := Nk_.k hN251 hk217 (by decide)
            have hT253 := Nk_.tr hT218 hN251
            refine r_iload g dL_isSearchSound_396 4 rfl ?_
            refine r_callVi (As := [.int r249, .int x6]) g (fun sz => mt_X10_valueOf hw sz) tw_969 tw_972 tw_1 tw_970 tw_971 (ci := 11) (T := TX10) (N := 6) rfl hk252 hy_X10_valueOf ⟨rfl, rfl⟩ (Nat.le_of_ble_eq_true rfl) (Nat.le_of_ble_eq_true rfl) (Nat.le_of_ble_eq_true rfl) (Nat.le_of_ble_eq_true rfl) (Nat.le_of_ble_eq_true rfl) rfl dL_isSearchSound_398 (fun M254 r255 hK256 hN257 => ?_)
            have hw := hK256 hN257
            have hk258 := Nk_.k hN257 hk252 (by decide)
            have hT259 := Nk_.tr hT253 hN257
            refine r_aload_n g dL_isSearchSound_401 rfl 1 rfl ?_
            refine r_aload_n g dL_isSearchSound_402 rfl 1 rfl ?_
            refine r_iload g dL_isSearchSound_403 5 rfl ?_
            refine r_callVi (As := [.int x10]) g (fun sz => mt_X10_foundAt hw sz) tw_1044 tw_1047 tw_1 tw_1045 tw_1046 (ci := 11) (T := TX10) (N := 6) rfl hk258 hy_X10_foundAt ⟨rfl, rfl⟩ (Nat.le_of_ble_eq_true rfl) (Nat.le_of_ble_eq_true rfl) (Nat.le_of_ble_eq_true rfl) (Nat.le_of_ble_eq_true rfl) (Nat.le_of_ble_eq_true rfl) rfl dL_isSearchSound_405 (fun M260 r261 hK262 hN263 => ?_)
            have hw := hK262 hN263
            have hk264 := Nk_.k hN263 hk258 (by decide)
            have hT265 := Nk_.tr hT259 hN263
            refine r_iload g dL_isSearchSound_408 4 rfl ?_
            refine r_callVi (As := [.int r261, .int x6]) g (fun sz => mt_X10_valueOf hw sz) tw_969 tw_972 tw_1 tw_970 tw_971 (ci := 11) (T := TX10) (N := 6) rfl hk264 hy_X10_valueOf ⟨rfl, rfl⟩ (Nat.le_of_ble_eq_true rfl) (Nat.le_of_ble_eq_true rfl) (Nat.le_of_ble_eq_true rfl) (Nat.le_of_ble_eq_true rfl) (Nat.le_of_ble_eq_true rfl) rfl dL_isSearchSound_410 (fun M266 r267 hK268 hN269 => ?_)
            have hw := hK268 hN269
            have hk270 := Nk_.k hN269 hk264 (by decide)
            have hT271 := Nk_.tr hT265 hN269
            refine r_icmp_le (tgt := 418) g dL_isSearchSound_413 (by decide) (fun hc272 => ?_) (fun hc272 => ?_)
            · have hw := hw.1 hc272
              refine r_iinc (v := x10 + (1 : Int32)) (L' := [(10, .int (x10 + (1 : Int32))), (11, .int r200), (0, .ref a0), (1, .int x1), (4, .int x4), (6, .int x6)]) g dL_isSearchSound_418 5 rfl rfl (by decide) rfl ?_
              refine r_goto (tgt := 339) g dL_isSearchSound_421 (by decide) ?_
              exact V_.sub (ih E (x10 + (1 : Int32)) _ hw hk270 (fun  M9 hE9 hN9 => kE  M9 hE9 (Nk_.tr hT271 hN9))) [2, 3, 4, 5, 0] rfl
            · have hw := hw.2 hc272
              refine r_iconst (v := 0) g dL_isSearchSound_416 (by decide) ?_
              exact r_zret g hr (Nat.le_of_ble_eq_true rfl) (Nat.le_of_ble_eq_true rfl) hQ (Or.inl rfl) dL_isSearchSound_417 hw
set_option maxHeartbeats 4000000 in
set_option maxRecDepth 100000 in
theorem lo_L_isSearchSound_158 {p : Program} {l : Launch} {e : Env} {s : State} {m : MethodId} {args : Array Value} {below : List Frame} {meth : Method} {c : Code} {D : Dd_} {M0 : Mm} {Q : State → Prop} {K : Mm → Int32 → Prop} (g : G_ p s m args meth c cL_isSearchSound 12 RL D M0) (hr : meth.sig.returnType = some .boolean) (hQ : Q = MQ below (va_Qi (fun r M' => K M' r ∧ bz_ r) (cB_ D M0 s.heap.size) (Aw_ M0 s.heap.size)) args s 1 600 (Aw_ M0 s.heap.size)) {a0 : Nat} {x1 : Int32} {x4 : Int32} : ∀ (n : Nat) (E : Mm → Prop) (x6 : Int32) (M : Mm), lp_L_isSearchSound_158 a0 x1 x4 K E n x6 M → kd_ M a0 = 12 → (∀  (M' : Mm), E  M' → Nk_ M M' → V_ p l e rmL_isSearchSound s m args below meth c 12 D M0 Q 430 [(0, .ref a0), (4, .int x4)] [] M' 1 600) → V_ p l e rmL_isSearchSound s m args below meth c 12 D M0 Q 158 [(0, .ref a0), (1, .int x1), (4, .int x4), (6, .int x6)] [] M 1 600 := by
  intro n
  induction n with
  | zero =>
    intro E x6 M hw
    exact hw.elim
  | succ n ih =>
    intro E x6 M hw hp0 kE
    refine r_iload g dL_isSearchSound_158 3 rfl ?_
    refine r_iload_n g dL_isSearchSound_160 rfl 1 rfl ?_
    refine r_icmp_ge (tgt := 430) g dL_isSearchSound_161 (by decide) (fun hc115 => ?_) (fun hc115 => ?_)
    · have hw := hw.1 hc115
      exact V_.sub (kE  _ hw (Nk_.rf _)) [0, 2] rfl
    · have hw := hw.2 hc115
      refine r_aload_n g dL_isSearchSound_164 rfl 0 rfl ?_
      refine r_iload g dL_isSearchSound_165 3 rfl ?_
      refine r_callVz (As := [.int x6]) g (fun sz => mt_X10_index hw sz) tw_883 tw_886 tw_1 tw_884 tw_885 (ci := 11) (T := TX10) (N := 6) rfl hp0 hy_X10_index ⟨rfl, rfl⟩ (Nat.le_of_ble_eq_true rfl) (Nat.le_of_ble_eq_true rfl) (Nat.le_of_ble_eq_true rfl) (Nat.le_of_ble_eq_true rfl) (Nat.le_of_ble_eq_true rfl) rfl dL_isSearchSound_167 (fun M116 r117 hK118 hb120 hN119 => ?_)
      have hw := hK118 hN119 hb120
      have hk121 := Nk_.k hN119 hp0 (by decide)
      have hT122 := Nk_.tr (Nk_.rf _) hN119
      refine r_pop g dL_isSearchSound_170 rfl ?_
      refine r_aload_n g dL_isSearchSound_171 rfl 0 rfl ?_
      refine r_iload g dL_isSearchSound_172 3 rfl ?_
      refine r_callVi (As := [.int x6]) g (fun sz => mt_X10_groups hw sz) tw_1049 tw_1052 tw_1 tw_1050 tw_1051 (ci := 11) (T := TX10) (N := 6) rfl hk121 hy_X10_groups ⟨rfl, rfl⟩ (Nat.le_of_ble_eq_true rfl) (Nat.le_of_ble_eq_true rfl) (Nat.le_of_ble_eq_true rfl) (Nat.le_of_ble_eq_true rfl) (Nat.le_of_ble_eq_true rfl) rfl dL_isSearchSound_174 (fun M123 r124 hK125 hN126 => ?_)
      have hw := hK125 hN126
      have hk127 := Nk_.k hN126 hk121 (by decide)
      have hT128 := Nk_.tr hT122 hN126
      refine r_istore (L' := [(7, .int r124), (0, .ref a0), (1, .int x1), (4, .int x4), (6, .int x6)]) g dL_isSearchSound_177 (by decide) rfl ?_
      refine r_iconst (v := 0) g dL_isSearchSound_179 (by decide) ?_
      refine r_istore (L' := [(8, .int (0 : Int32)), (7, .int r124), (0, .ref a0), (1, .int x1), (4, .int x4), (6, .int x6)]) g dL_isSearchSound_180 (by decide) rfl ?_
      refine r_iconst (v := 0) g dL_isSearchSound_182 (by decide) ?_
      refine r_istore (L' := [(9, .int (0 : Int32)), (8, .int (0 : Int32)), (7, .int r124), (0, .ref a0), (1, .int x1), (4, .int x4), (6, .int x6)]) g dL_isSearchSound_183 (by decide) rfl ?_
      refine r_iconst (v := 0) g dL_isSearchSound_185 (by decide) ?_
      refine r_istore (L' := [(10, .int (0 : Int32)), (9, .int (0 : Int32)), (8, .int (0 : Int32)), (7, .int r124), (0, .ref a0), (1, .int x1), (4, .int x4), (6, .int x6)]) g dL_isSearchSound_186 (by decide) rfl ?_
      obtain ⟨n170, hw⟩ := hw
      refine V_.sub (lo_L_isSearchSound_188 g hr hQ n170 _ (0 : Int32) (0 : Int32) (0 : Int32) _ hw hk127 (fun xv173 xv174 M171 hE hN172 => ?_)) [4, 5, 6, 7, 3, 2, 1, 0] rfl
      have hw := hE hN172
      have hk175 := Nk_.k hN172 hk127 (by decide)
      have hT176 := Nk_.tr hT128 hN172
      refine r_iload g dL_isSearchSound_301 5 rfl ?_
      refine r_iload g dL_isSearchSound_303 2 rfl ?_
      refine r_icmp_ne (tgt := 326) g dL_isSearchSound_305 (by decide) (fun hc177 => ?_) (fun hc177 => ?_)
      · have hw := hw.2 hc177
        refine r_iconst (v := 0) g dL_isSearchSound_326 (by decide) ?_
        exact r_zret g hr (Nat.le_of_ble_eq_true rfl) (Nat.le_of_ble_eq_true rfl) hQ (Or.inl rfl) dL_isSearchSound_327 hw
      · have hw := hw.1 hc177
        refine r_iload g dL_isSearchSound_308 6 rfl ?_
        refine r_aload_n g dL_isSearchSound_310 rfl 0 rfl ?_
        refine r_iload g dL_isSearchSound_311 3 rfl ?_
        refine r_callVi (As := [.int x6]) g (fun sz => mt_X10_sum hw sz) tw_1077 tw_1080 tw_1 tw_1078 tw_1079 (ci := 11) (T := TX10) (N := 6) rfl hk175 hy_X10_sum ⟨rfl, rfl⟩ (Nat.le_of_ble_eq_true rfl) (Nat.le_of_ble_eq_true rfl) (Nat.le_of_ble_eq_true rfl) (Nat.le_of_ble_eq_true rfl) (Nat.le_of_ble_eq_true rfl) rfl dL_isSearchSound_313 (fun M178 r179 hK180 hN181 => ?_)
        have hw := hK180 hN181
        have hk182 := Nk_.k hN181 hk175 (by decide)
        have hT183 := Nk_.tr hT176 hN181
        refine r_icmp_ne (tgt := 326) g dL_isSearchSound_316 (by decide) (fun hc184 => ?_) (fun hc184 => ?_)
        · have hw := hw.2 hc184
          refine r_iconst (v := 0) g dL_isSearchSound_326 (by decide) ?_
          exact r_zret g hr (Nat.le_of_ble_eq_true rfl) (Nat.le_of_ble_eq_true rfl) hQ (Or.inl rfl) dL_isSearchSound_327 hw
        · have hw := hw.1 hc184
          refine r_iload g dL_isSearchSound_319 4 rfl ?_
          refine r_iload g dL_isSearchSound_321 2 rfl ?_
          refine r_icmp_le (tgt := 328) g dL_isSearchSound_323 (by decide) (fun hc185 => ?_) (fun hc185 => ?_)
          · have hw := hw.1 hc185
            refine r_aload_n g dL_isSearchSound_328 rfl 0 rfl ?_
            refine r_iload g dL_isSearchSound_329 3 rfl ?_
            refine r_iconst (v := 0) g dL_isSearchSound_331 (by decide) ?_
            refine r_callVi (As := [.int x6, .int (0 : Int32)]) g (fun sz => mt_X10_sort hw sz) tw_1085 tw_1088 tw_1 tw_1086 tw_1087 (ci := 11) (T := TX10) (N := 6) rfl hk182 hy_X10_sort ⟨rfl, rfl⟩ (Nat.le_of_ble_eq_true rfl) (Nat.le_of_ble_eq_true rfl) (Nat.le_of_ble_eq_true rfl) (Nat.le_of_ble_eq_true rfl) (Nat.le_of_ble_eq_true rfl) rfl dL_isSearchSound_332 (fun M186 r187 hK188 hN189 => ?_)
            have hw := hK188 hN189
            have hk190 := Nk_.k hN189 hk182 (by decide)
            have hT191 := Nk_.tr hT183 hN189
            refine r_pop g dL_isSearchSound_335 rfl ?_
            refine r_iconst (v := 1) g dL_isSearchSound_336 (by decide) ?_
            refine r_istore (L' := [(10, .int (1 : Int32)), (0, .ref a0), (1, .int x1), (4, .int x4), (6, .int x6), (7, .int r124), (8, .int xv173), (9, .int xv174)]) g dL_isSearchSound_337 (by decide) rfl ?_
            obtain ⟨n273, hw⟩ := hw
            refine V_.sub (lo_L_isSearchSound_339 g hr hQ n273 _ (1 : Int32) _ hw hk190 (fun  M274 hE hN275 => ?_)) [1, 2, 3, 4, 0] rfl
            have hw := hE hN275
            have hk276 := Nk_.k hN275 hk190 (by decide)
            have hT277 := Nk_.tr hT191 hN275
            refine r_iinc (v := x6 + (1 : Int32)) (L' := [(6, .int (x6 + (1 : Int32))), (0, .ref a0), (1, .int x1), (4, .int x4)]) g dL_isSearchSound_424 3 rfl rfl (by decide) rfl ?_
            refine r_goto (tgt := 158) g dL_isSearchSound_427 (by decide) ?_
            exact V_.sub (ih E (x6 + (1 : Int32)) _ hw hk276 (fun  M9 hE9 hN9 => kE  M9 hE9 (Nk_.tr hT277 hN9))) [1, 2, 3, 0] rfl
          · have hw := hw.2 hc185
            refine r_iconst (v := 0) g dL_isSearchSound_326 (by decide) ?_
            exact r_zret g hr (Nat.le_of_ble_eq_true rfl) (Nat.le_of_ble_eq_true rfl) hQ (Or.inl rfl) dL_isSearchSound_327 hw
set_option maxHeartbeats 4000000 in
set_option maxRecDepth 100000 in
theorem mt_L_isSearchSound {l : Launch} {D : Dd_} {M : Mm} {a0 : Nat} {x1 : Int32} {K : Mm → Int32 → Prop} (hw : wp_L_isSearchSound a0 x1 M K) (sz : Nat) : Met l yL_isSearchSound (Cond.code yL_isSearchSound cL_isSearchSound 12 (some .boolean) :: tbG_) rmL_isSearchSound (cPc_ D M sz [.ref a0, .int x1]) (va_Qi (fun r M' => K M' r ∧ bz_ r) (cB_ D M sz) (Aw_ M sz)) 1 600 (Aw_ M sz) := by
  refine ofV (by decide) (Nat.le_of_ble_eq_true rfl) ?_
  intro p e s m below meth c g hr hin hsz
  subst hsz
  obtain ⟨hp0, hw⟩ := hw
  refine r_aload_n g dL_isSearchSound_0 rfl 0 rfl ?_
  refine r_callVi (As := []) g (fun sz => mt_X10_wouldFind hw sz) tw_615 tw_618 tw_1 tw_616 tw_617 (ci := 11) (T := TX10) (N := 6) rfl hp0 hy_X10_wouldFind ⟨rfl, rfl⟩ (Nat.le_of_ble_eq_true rfl) (Nat.le_of_ble_eq_true rfl) (Nat.le_of_ble_eq_true rfl) (Nat.le_of_ble_eq_true rfl) (Nat.le_of_ble_eq_true rfl) rfl dL_isSearchSound_1 (fun M1 r2 hK3 hN4 => ?_)
  have hw := hK3 hN4
  have hk5 := Nk_.k hN4 hp0 (by decide)
  have hT6 := Nk_.tr (Nk_.rf _) hN4
  refine r_istore_n (L' := [(2, .int r2), (0, .ref a0), (1, .int x1)]) g dL_isSearchSound_4 rfl (by decide) rfl ?_
  refine r_aload_n g dL_isSearchSound_5 rfl 1 rfl ?_
  refine r_callVi (As := []) g (fun sz => mt_X10_costWithout hw sz) tw_527 tw_530 tw_1 tw_528 tw_529 (ci := 11) (T := TX10) (N := 6) rfl hk5 hy_X10_costWithout ⟨rfl, rfl⟩ (Nat.le_of_ble_eq_true rfl) (Nat.le_of_ble_eq_true rfl) (Nat.le_of_ble_eq_true rfl) (Nat.le_of_ble_eq_true rfl) (Nat.le_of_ble_eq_true rfl) rfl dL_isSearchSound_6 (fun M7 r8 hK9 hN10 => ?_)
  have hw := hK9 hN10
  have hk11 := Nk_.k hN10 hk5 (by decide)
  have hT12 := Nk_.tr hT6 hN10
  refine r_istore_n (L' := [(3, .int r8), (2, .int r2), (0, .ref a0), (1, .int x1)]) g dL_isSearchSound_9 rfl (by decide) rfl ?_
  refine r_aload_n g dL_isSearchSound_10 rfl 2 rfl ?_
  refine r_callVi (As := []) g (fun sz => mt_X10_find hw sz) tw_1031 tw_1034 tw_1 tw_1032 tw_1033 (ci := 11) (T := TX10) (N := 6) rfl hk11 hy_X10_find ⟨rfl, rfl⟩ (Nat.le_of_ble_eq_true rfl) (Nat.le_of_ble_eq_true rfl) (Nat.le_of_ble_eq_true rfl) (Nat.le_of_ble_eq_true rfl) (Nat.le_of_ble_eq_true rfl) rfl dL_isSearchSound_11 (fun M13 r14 hK15 hN16 => ?_)
  have hw := hK15 hN16
  have hk17 := Nk_.k hN16 hk11 (by decide)
  have hT18 := Nk_.tr hT12 hN16
  refine r_istore (L' := [(4, .int r14), (3, .int r8), (2, .int r2), (0, .ref a0), (1, .int x1)]) g dL_isSearchSound_14 (by decide) rfl ?_
  refine r_iload g dL_isSearchSound_16 0 rfl ?_
  refine r_iload_n g dL_isSearchSound_18 rfl 2 rfl ?_
  refine r_icmp_ne (tgt := 41) g dL_isSearchSound_19 (by decide) (fun hc19 => ?_) (fun hc19 => ?_)
  · have hw := hw.2 hc19
    refine r_iconst (v := 0) g dL_isSearchSound_41 (by decide) ?_
    exact r_zret g hr (Nat.le_of_ble_eq_true rfl) (Nat.le_of_ble_eq_true rfl) rfl (Or.inl rfl) dL_isSearchSound_42 hw
  · have hw := hw.1 hc19
    refine r_aload_n g dL_isSearchSound_22 rfl 3 rfl ?_
    refine r_callVi (As := []) g (fun sz => mt_X10_passed hw sz) tw_1040 tw_1043 tw_1 tw_1041 tw_1042 (ci := 11) (T := TX10) (N := 6) rfl hk17 hy_X10_passed ⟨rfl, rfl⟩ (Nat.le_of_ble_eq_true rfl) (Nat.le_of_ble_eq_true rfl) (Nat.le_of_ble_eq_true rfl) (Nat.le_of_ble_eq_true rfl) (Nat.le_of_ble_eq_true rfl) rfl dL_isSearchSound_23 (fun M20 r21 hK22 hN23 => ?_)
    have hw := hK22 hN23
    have hk24 := Nk_.k hN23 hk17 (by decide)
    have hT25 := Nk_.tr hT18 hN23
    refine r_aload_n g dL_isSearchSound_26 rfl 3 rfl ?_
    refine r_callVi (As := []) g (fun sz => mt_X10_frames hw sz) tw_678 tw_681 tw_1 tw_679 tw_680 (ci := 11) (T := TX10) (N := 6) rfl hk24 hy_X10_frames ⟨rfl, rfl⟩ (Nat.le_of_ble_eq_true rfl) (Nat.le_of_ble_eq_true rfl) (Nat.le_of_ble_eq_true rfl) (Nat.le_of_ble_eq_true rfl) (Nat.le_of_ble_eq_true rfl) rfl dL_isSearchSound_27 (fun M26 r27 hK28 hN29 => ?_)
    have hw := hK28 hN29
    have hk30 := Nk_.k hN29 hk24 (by decide)
    have hT31 := Nk_.tr hT25 hN29
    refine r_icmp_gt (tgt := 41) g dL_isSearchSound_30 (by decide) (fun hc32 => ?_) (fun hc32 => ?_)
    · have hw := hw.1 hc32
      refine r_iconst (v := 0) g dL_isSearchSound_41 (by decide) ?_
      exact r_zret g hr (Nat.le_of_ble_eq_true rfl) (Nat.le_of_ble_eq_true rfl) rfl (Or.inl rfl) dL_isSearchSound_42 hw
    · have hw := hw.2 hc32
      refine r_aload_n g dL_isSearchSound_33 rfl 3 rfl ?_
      refine r_callVi (As := []) g (fun sz => mt_X10_costWithout hw sz) tw_527 tw_530 tw_1 tw_528 tw_529 (ci := 11) (T := TX10) (N := 6) rfl hk30 hy_X10_costWithout ⟨rfl, rfl⟩ (Nat.le_of_ble_eq_true rfl) (Nat.le_of_ble_eq_true rfl) (Nat.le_of_ble_eq_true rfl) (Nat.le_of_ble_eq_true rfl) (Nat.le_of_ble_eq_true rfl) rfl dL_isSearchSound_34 (fun M33 r34 hK35 hN36 => ?_)
      have hw := hK35 hN36
      have hk37 := Nk_.k hN36 hk30 (by decide)
      have hT38 := Nk_.tr hT31 hN36
      refine r_iload_n g dL_isSearchSound_37 rfl 1 rfl ?_
      refine r_icmp_eq (tgt := 43) g dL_isSearchSound_38 (by decide) (fun hc39 => ?_) (fun hc39 => ?_)
      · have hw := hw.1 hc39
        refine r_iload g dL_isSearchSound_43 0 rfl ?_
        obtain ⟨h46, h45, hw⟩ := hw
        refine r_newI g tw_81 h46 (Nat.le_trans h45 (Nat.le_of_ble_eq_true rfl)) (Nat.le_of_ble_eq_true rfl) (Nat.le_trans (Nat.add_le_add_left h45 _) (Nat.le_of_ble_eq_true rfl)) dL_isSearchSound_45 (fun q40 h41 hq42 => ?_)
        have hw := hw q40 h41 hq42 _ rfl
        have hk48 := Nk_.k (Nk_nw_ (c := 20) (n := (ix_ r14)) hq42) hk37 (by decide)
        have hT49 := Nk_.tr hT38 (Nk_nw_ (c := 20) (n := (ix_ r14)) hq42)
        have hk50 := kd_nq_ M33 q40 20 (ix_ r14)
        refine V_.widen (n2 := 1) (k2 := 600) (Nat.le_of_ble_eq_true rfl) (Nat.le_trans (Nat.add_le_add_left h45 _) (Nat.le_of_ble_eq_true rfl)) ?_
        refine r_astore (L' := [(5, .ref q40), (4, .int r14), (3, .int r8), (2, .int r2), (0, .ref a0), (1, .int x1)]) g dL_isSearchSound_47 (by decide) rfl ?_
        refine r_iconst (v := 0) g dL_isSearchSound_49 (by decide) ?_
        refine r_istore (L' := [(6, .int (0 : Int32)), (5, .ref q40), (4, .int r14), (3, .int r8), (2, .int r2), (0, .ref a0), (1, .int x1)]) g dL_isSearchSound_50 (by decide) rfl ?_
        obtain ⟨n71, hw⟩ := hw
        refine V_.sub (lo_L_isSearchSound_52 g hr rfl n71 _ (0 : Int32) _ hw hk48 hk50 (fun  M72 hE hN73 => ?_)) [5, 6, 2, 1, 0] rfl
        have hw := hE hN73
        have hk74 := Nk_.k hN73 hk48 (by decide)
        have hk75 := Nk_.k hN73 hk50 (by decide)
        have hT76 := Nk_.tr hT49 hN73
        refine r_iconst (v := 0) g dL_isSearchSound_90 (by decide) ?_
        refine r_istore (L' := [(6, .int (0 : Int32)), (0, .ref a0), (1, .int x1), (4, .int r14), (5, .ref q40)]) g dL_isSearchSound_91 (by decide) rfl ?_
        obtain ⟨n86, hw⟩ := hw
        refine V_.sub (lo_L_isSearchSound_93 g hr rfl n86 _ (0 : Int32) _ hw hk74 hk75 (fun  M87 hE hN88 => ?_)) [1, 2, 3, 4, 0] rfl
        have hw := hE hN88
        have hk89 := Nk_.k hN88 hk74 (by decide)
        have hk90 := Nk_.k hN88 hk75 (by decide)
        have hT91 := Nk_.tr hT76 hN88
        refine r_aload_n g dL_isSearchSound_112 rfl 0 rfl ?_
        refine r_callVi (As := []) g (fun sz => mt_X10_find hw sz) tw_1031 tw_1034 tw_1 tw_1032 tw_1033 (ci := 11) (T := TX10) (N := 6) rfl hk89 hy_X10_find ⟨rfl, rfl⟩ (Nat.le_of_ble_eq_true rfl) (Nat.le_of_ble_eq_true rfl) (Nat.le_of_ble_eq_true rfl) (Nat.le_of_ble_eq_true rfl) (Nat.le_of_ble_eq_true rfl) rfl dL_isSearchSound_113 (fun M92 r93 hK94 hN95 => ?_)
        have hw := hK94 hN95
        have hk96 := Nk_.k hN95 hk89 (by decide)
        have hk97 := Nk_.k hN95 hk90 (by decide)
        have hT98 := Nk_.tr hT91 hN95
        refine r_iload g dL_isSearchSound_116 2 rfl ?_
        refine r_icmp_eq (tgt := 123) g dL_isSearchSound_118 (by decide) (fun hc99 => ?_) (fun hc99 => ?_)
        · have hw := hw.1 hc99
          refine r_iconst (v := 0) g dL_isSearchSound_123 (by decide) ?_
          refine r_istore (L' := [(6, .int (0 : Int32)), (0, .ref a0), (1, .int x1), (4, .int r14), (5, .ref q40)]) g dL_isSearchSound_124 (by decide) rfl ?_
          obtain ⟨n110, hw⟩ := hw
          refine V_.sub (lo_L_isSearchSound_126 g hr rfl n110 _ (0 : Int32) _ hw hk96 hk97 (fun  M111 hE hN112 => ?_)) [1, 2, 3, 4, 0] rfl
          have hw := hE hN112
          have hk113 := Nk_.k hN112 hk96 (by decide)
          have hT114 := Nk_.tr hT98 hN112
          refine r_iconst (v := 0) g dL_isSearchSound_155 (by decide) ?_
          refine r_istore (L' := [(6, .int (0 : Int32)), (0, .ref a0), (1, .int x1), (4, .int r14)]) g dL_isSearchSound_156 (by decide) rfl ?_
          obtain ⟨n278, hw⟩ := hw
          refine V_.sub (lo_L_isSearchSound_158 g hr rfl n278 _ (0 : Int32) _ hw hk113 (fun  M279 hE hN280 => ?_)) [1, 2, 3, 0] rfl
          have hw := hE hN280
          have hk281 := Nk_.k hN280 hk113 (by decide)
          have hT282 := Nk_.tr hT114 hN280
          refine r_aload_n g dL_isSearchSound_430 rfl 0 rfl ?_
          refine r_callVi (As := []) g (fun sz => mt_X10_keep hw sz) tw_1090 tw_1093 tw_1 tw_1091 tw_1092 (ci := 11) (T := TX10) (N := 6) rfl hk281 hy_X10_keep ⟨rfl, rfl⟩ (Nat.le_of_ble_eq_true rfl) (Nat.le_of_ble_eq_true rfl) (Nat.le_of_ble_eq_true rfl) (Nat.le_of_ble_eq_true rfl) (Nat.le_of_ble_eq_true rfl) rfl dL_isSearchSound_431 (fun M283 r284 hK285 hN286 => ?_)
          have hw := hK285 hN286
          have hk287 := Nk_.k hN286 hk281 (by decide)
          have hT288 := Nk_.tr hT282 hN286
          refine r_iload g dL_isSearchSound_434 1 rfl ?_
          refine r_icmp_ne (tgt := 465) g dL_isSearchSound_436 (by decide) (fun hc289 => ?_) (fun hc289 => ?_)
          · have hw := hw.2 hc289
            refine r_iconst (v := 0) g dL_isSearchSound_465 (by decide) ?_
            exact r_zret g hr (Nat.le_of_ble_eq_true rfl) (Nat.le_of_ble_eq_true rfl) rfl (Or.inl rfl) dL_isSearchSound_466 hw
          · have hw := hw.1 hc289
            refine r_aload_n g dL_isSearchSound_439 rfl 0 rfl ?_
            refine r_iconst (v := 0) g dL_isSearchSound_440 (by decide) ?_
            refine r_iconst (v := 0) g dL_isSearchSound_441 (by decide) ?_
            refine r_callVi (As := [.int (0 : Int32), .int (0 : Int32)]) g (fun sz => mt_X10_pairs hw sz) tw_1098 tw_1101 tw_1 tw_1099 tw_1100 (ci := 11) (T := TX10) (N := 6) rfl hk287 hy_X10_pairs ⟨rfl, rfl⟩ (Nat.le_of_ble_eq_true rfl) (Nat.le_of_ble_eq_true rfl) (Nat.le_of_ble_eq_true rfl) (Nat.le_of_ble_eq_true rfl) (Nat.le_of_ble_eq_true rfl) rfl dL_isSearchSound_442 (fun M290 r291 hK292 hN293 => ?_)
            have hw := hK292 hN293
            have hk294 := Nk_.k hN293 hk287 (by decide)
            have hT295 := Nk_.tr hT288 hN293
            refine r_if_lt (tgt := 465) g dL_isSearchSound_445 (by decide) (fun hc296 => ?_) (fun hc296 => ?_)
            · have hw := hw.1 hc296
              refine r_iconst (v := 0) g dL_isSearchSound_465 (by decide) ?_
              exact r_zret g hr (Nat.le_of_ble_eq_true rfl) (Nat.le_of_ble_eq_true rfl) rfl (Or.inl rfl) dL_isSearchSound_466 hw
            · have hw := hw.2 hc296
              refine r_aload_n g dL_isSearchSound_448 rfl 0 rfl ?_
              refine r_iload g dL_isSearchSound_449 1 rfl ?_
              refine r_iconst (v := 1) g dL_isSearchSound_451 (by decide) ?_
              refine r_iadd g dL_isSearchSound_452 ?_
              refine r_callVi (As := [.int (r14 + (1 : Int32))]) g (fun sz => mt_X10_limit hw sz) tw_1106 tw_1109 tw_1 tw_1107 tw_1108 (ci := 11) (T := TX10) (N := 6) rfl hk294 hy_X10_limit ⟨rfl, rfl⟩ (Nat.le_of_ble_eq_true rfl) (Nat.le_of_ble_eq_true rfl) (Nat.le_of_ble_eq_true rfl) (Nat.le_of_ble_eq_true rfl) (Nat.le_of_ble_eq_true rfl) rfl dL_isSearchSound_453 (fun M297 r298 hK299 hN300 => ?_)
              have hw := hK299 hN300
              have hk301 := Nk_.k hN300 hk294 (by decide)
              have hT302 := Nk_.tr hT295 hN300
              refine r_iload g dL_isSearchSound_456 1 rfl ?_
              refine r_icmp_ne (tgt := 465) g dL_isSearchSound_458 (by decide) (fun hc303 => ?_) (fun hc303 => ?_)
              · have hw := hw.2 hc303
                refine r_iconst (v := 0) g dL_isSearchSound_465 (by decide) ?_
                exact r_zret g hr (Nat.le_of_ble_eq_true rfl) (Nat.le_of_ble_eq_true rfl) rfl (Or.inl rfl) dL_isSearchSound_466 hw
              · have hw := hw.1 hc303
                refine r_iconst (v := 1) g dL_isSearchSound_461 (by decide) ?_
                refine r_goto (tgt := 466) g dL_isSearchSound_462 (by decide) ?_
                exact r_zret g hr (Nat.le_of_ble_eq_true rfl) (Nat.le_of_ble_eq_true rfl) rfl (Or.inr rfl) dL_isSearchSound_466 hw
        · have hw := hw.2 hc99
          refine r_iconst (v := 0) g dL_isSearchSound_121 (by decide) ?_
          exact r_zret g hr (Nat.le_of_ble_eq_true rfl) (Nat.le_of_ble_eq_true rfl) rfl (Or.inl rfl) dL_isSearchSound_122 hw
      · have hw := hw.2 hc39
        refine r_iconst (v := 0) g dL_isSearchSound_41 (by decide) ?_
        exact r_zret g hr (Nat.le_of_ble_eq_true rfl) (Nat.le_of_ble_eq_true rfl) rfl (Or.inl rfl) dL_isSearchSound_42 hw
def rmL_act : Room := { frames := 10, cells := 21, slots := 482, locals := 256 }
theorem hy_L_act : yL_act.cls ≠ "java/lang/invoke/MethodHandle" ∧ yL_act.cls ≠ "java/lang/invoke/VarHandle" ∧ (parseMethodDescriptor yL_act.desc).map (fun d => d.parameters.length) = some 3 := by decide +kernel
def lp_L_act_240 (a0 : Nat) (x1 : Int32) (x2 : Int32) (K : Mm → Prop) (E : Mm → Prop) : Nat → Int32 → Mm → Prop
  | 0, _, _ => False
  | n + 1, x6, M => ((x1 ≤ x6 → E M) ∧ (¬ x1 ≤ x6 → (wp_L_below (x2 >>> (((2 : Int32) + x6) &&& 31)) (5 : Int32) M (fun M148 r149 => Nk_ M M148 → ((r149 ≤ 0 → lp_L_act_240 a0 x1 x2 K E n (x6 + (1 : Int32)) M148) ∧ (¬ r149 ≤ 0 → (wp_L_below (x2 >>> (((5 : Int32) + x6) &&& 31)) (4 : Int32) M148 (fun M155 r156 => Nk_ M148 M155 → ((r156 = 0 → (wp_X10_give a0 x6 (x2 >>> (x6 &&& 31)) M155 (fun M174 r175 => Nk_ M155 M174 → lp_L_act_240 a0 x1 x2 K E n (x6 + (1 : Int32)) M174))) ∧ (¬ r156 = 0 → (wp_L_below (x2 >>> (((6 : Int32) + x6) &&& 31)) (20 : Int32) M155 (fun M162 r163 => Nk_ M155 M162 → (wp_X10_give a0 x6 r163 M162 (fun M168 r169 => Nk_ M162 M168 → lp_L_act_240 a0 x1 x2 K E n (x6 + (1 : Int32)) M168))))))))))))))
def wp_L_act (a0 : Nat) (x1 : Int32) (x2 : Int32) (M : Mm) (K : Mm → Prop) : Prop := kd_ M a0 = 12 ∧ (wp_L_below (x2 >>> ((3 : Int32) &&& 31)) x1 M (fun M1 r2 => Nk_ M M1 → (wp_X10_rows a0 M1 (fun M7 r8 => Nk_ M1 M7 → (wp_L_below (x2 >>> ((5 : Int32) &&& 31)) (if (1 : Int32) < r8 then r8 else (1 : Int32)) M7 (fun M13 r14 => Nk_ M7 M13 → (wp_X10_frames a0 M13 (fun M19 r20 => Nk_ M13 M19 → (wp_L_below (x2 >>> ((4 : Int32) &&& 31)) (if (1 : Int32) < r20 then r20 else (1 : Int32)) M19 (fun M25 r26 => Nk_ M19 M25 → (wp_L_below x2 (16 : Int32) M25 (fun M31 r32 => Nk_ M25 M31 → ((r32 = 0 → (wx_X10_delete a0 r14 M31 (fun M38 r39 => Nk_ M31 M38 → bz_ r39 → K M38) (fun e9 M9 => Nk_ M31 M9 → K M9))) ∧ (r32 = 1 → (wp_L_below (x2 >>> ((7 : Int32) &&& 31)) (30 : Int32) M31 (fun M47 r48 => Nk_ M31 M47 → (wx_X10_change a0 r14 r2 r48 M47 (fun M53 r54 => Nk_ M47 M53 → K M53) (fun e9 M9 => Nk_ M47 M9 → K M9))))) ∧ (r32 = 2 → (wp_L_below (x2 >>> ((6 : Int32) &&& 31)) (20 : Int32) M31 (fun M61 r62 => Nk_ M31 M61 → (wp_X10_setSize a0 ((4 : Int32) + r62) M61 (fun M67 r68 => Nk_ M61 M67 → K M67))))) ∧ (r32 = 3 → (wx_X10_seal a0 M31 (fun M74 r75 => Nk_ M31 M74 → K M74) (fun e9 M9 => Nk_ M31 M9 → K M9))) ∧ (r32 = 4 → (wx_X10_cluster a0 r26 r2 M31 (fun M82 r83 => Nk_ M31 M82 → K M82) (fun e9 M9 => Nk_ M31 M9 → K M9))) ∧ (r32 = 5 → (wx_X10_merge a0 r26 M31 (fun M90 r91 => Nk_ M31 M90 → K M90) (fun e9 M9 => Nk_ M31 M9 → K M9))) ∧ (r32 = 6 → (wp_X10_index a0 r2 M31 (fun M98 r99 => Nk_ M31 M98 → bz_ r99 → K M98))) ∧ (r32 = 7 → (wp_L_below (x2 >>> ((6 : Int32) &&& 31)) (8 : Int32) M31 (fun M106 r107 => Nk_ M31 M106 → (wp_L_below (x2 >>> ((8 : Int32) &&& 31)) (30 : Int32) M106 (fun M112 r113 => Nk_ M106 M112 → (wx_X10_where a0 r2 r107 r113 M112 (fun M118 r119 => Nk_ M112 M118 → K M118) (fun e9 M9 => Nk_ M112 M9 → K M9))))))) ∧ (r32 = 8 → (wp_L_below (x2 >>> ((6 : Int32) &&& 31)) (2 : Int32) M31 (fun M126 r127 => Nk_ M31 M126 → ((r127 = 0 → (wx_X10_orElse a0 M126 (fun M139 r140 => Nk_ M126 M139 → K M139) (fun e9 M9 => Nk_ M126 M9 → K M9))) ∧ (¬ r127 = 0 → (wp_X10_clear a0 M126 (fun M133 r134 => Nk_ M126 M133 → K M133))))))) ∧ (¬ r32 = 0 → ¬ r32 = 1 → ¬ r32 = 2 → ¬ r32 = 3 → ¬ r32 = 4 → ¬ r32 = 5 → ¬ r32 = 6 → ¬ r32 = 7 → ¬ r32 = 8 → (∃ n180 : Nat, lp_L_act_240 a0 x1 x2 K (fun  M181 => Nk_ M31 M181 → (wp_X10_add a0 M181 (fun M185 r186 => Nk_ M181 M185 → K M185))) n180 (0 : Int32) M31)))))))))))))))
set_option maxHeartbeats 4000000 in
set_option maxRecDepth 100000 in
theorem lo_L_act_240 {p : Program} {l : Launch} {e : Env} {s : State} {m : MethodId} {args : Array Value} {below : List Frame} {meth : Method} {c : Code} {D : Dd_} {M0 : Mm} {Q : State → Prop} {K : Mm → Prop} (g : G_ p s m args meth c cL_act 7 RL D M0) (hr : meth.sig.returnType = none) (hQ : Q = MQ below (va_Qv (fun M' => K M') (cB_ D M0 s.heap.size) (Aw_ M0 s.heap.size)) args s 21 482 (Aw_ M0 s.heap.size)) {a0 : Nat} {x1 : Int32} {x2 : Int32} : ∀ (n : Nat) (E : Mm → Prop) (x6 : Int32) (M : Mm), lp_L_act_240 a0 x1 x2 K E n x6 M → kd_ M a0 = 12 → (∀  (M' : Mm), E  M' → Nk_ M M' → V_ p l e rmL_act s m args below meth c 7 D M0 Q 304 [(0, .ref a0)] [] M' 0 0) → V_ p l e rmL_act s m args below meth c 7 D M0 Q 240 [(0, .ref a0), (1, .int x1), (2, .int x2), (6, .int x6)] [] M 0 0 := by
  intro n
  induction n with
  | zero =>
    intro E x6 M hw
    exact hw.elim
  | succ n ih =>
    intro E x6 M hw hp0 kE
    refine r_iload g dL_act_240 3 rfl ?_
    refine r_iload_n g dL_act_242 rfl 1 rfl ?_
    refine r_icmp_ge (tgt := 304) g dL_act_243 (by decide) (fun hc147 => ?_) (fun hc147 => ?_)
    · have hw := hw.1 hc147
      exact V_.sub (kE  _ hw (Nk_.rf _)) [0] rfl
    · have hw := hw.2 hc147
      refine r_iload_n g dL_act_246 rfl 2 rfl ?_
      refine r_iconst (v := 2) g dL_act_247 (by decide) ?_
      refine r_iload g dL_act_248 3 rfl ?_
      refine r_iadd g dL_act_250 ?_
      refine r_ishr g dL_act_251 ?_
      refine r_iconst (v := 5) g dL_act_252 (by decide) ?_
      refine r_callSi (As := [.int (x2 >>> (((2 : Int32) + x6) &&& 31)), .int (5 : Int32)]) g (fun sz => mt_L_below hw sz) tw_660 tw_662 tw_0 tw_661 hy_L_below ⟨rfl, rfl⟩ (Nat.le_of_ble_eq_true rfl) (Nat.le_of_ble_eq_true rfl) (Nat.le_of_ble_eq_true rfl) (Nat.le_of_ble_eq_true rfl) (Nat.le_of_ble_eq_true rfl) rfl dL_act_253 (fun M148 r149 hK150 hN151 => ?_)
      have hw := hK150 hN151
      have hk152 := Nk_.k hN151 hp0 (by decide)
      have hT153 := Nk_.tr (Nk_.rf _) hN151
      refine r_if_le (tgt := 298) g dL_act_256 (by decide) (fun hc154 => ?_) (fun hc154 => ?_)
      · have hw := hw.1 hc154
        refine r_iinc (v := x6 + (1 : Int32)) (L' := [(6, .int (x6 + (1 : Int32))), (0, .ref a0), (1, .int x1), (2, .int x2)]) g dL_act_298 3 rfl rfl (by decide) rfl ?_
        refine r_goto (tgt := 240) g dL_act_301 (by decide) ?_
        exact V_.sub (ih E (x6 + (1 : Int32)) _ hw hk152 (fun  M9 hE9 hN9 => kE  M9 hE9 (Nk_.tr hT153 hN9))) [1, 2, 3, 0] rfl
      · have hw := hw.2 hc154
        refine r_aload_n g dL_act_259 rfl 0 rfl ?_
        refine r_iload g dL_act_260 3 rfl ?_
        refine r_iload_n g dL_act_262 rfl 2 rfl ?_
        refine r_iconst (v := 5) g dL_act_263 (by decide) ?_
        refine r_iload g dL_act_264 3 rfl ?_
        refine r_iadd g dL_act_266 ?_
        refine r_ishr g dL_act_267 ?_
        refine r_iconst (v := 4) g dL_act_268 (by decide) ?_
        refine r_callSi (As := [.int (x2 >>> (((5 : Int32) + x6) &&& 31)), .int (4 : Int32)]) g (fun sz => mt_L_below hw sz) tw_660 tw_662 tw_0 tw_661 hy_L_below ⟨rfl, rfl⟩ (Nat.le_of_ble_eq_true rfl) (Nat.le_of_ble_eq_true rfl) (Nat.le_of_ble_eq_true rfl) (Nat.le_of_ble_eq_true rfl) (Nat.le_of_ble_eq_true rfl) rfl dL_act_269 (fun M155 r156 hK157 hN158 => ?_)
        have hw := hK157 hN158
        have hk159 := Nk_.k hN158 hk152 (by decide)
        have hT160 := Nk_.tr hT153 hN158
        refine r_if_ne (tgt := 282) g dL_act_272 (by decide) (fun hc161 => ?_) (fun hc161 => ?_)
        · have hw := hw.2 hc161
          refine r_iload_n g dL_act_282 rfl 2 rfl ?_
          refine r_bipush (v := 6) g dL_act_283 (by decide) ?_
          refine r_iload g dL_act_285 3 rfl ?_
          refine r_iadd g dL_act_287 ?_
          refine r_ishr g dL_act_288 ?_
          refine r_bipush (v := 20) g dL_act_289 (by decide) ?_
          refine r_callSi (As := [.int (x2 >>> (((6 : Int32) + x6) &&& 31)), .int (20 : Int32)]) g (fun sz => mt_L_below hw sz) tw_660 tw_662 tw_0 tw_661 hy_L_below ⟨rfl, rfl⟩ (Nat.le_of_ble_eq_true rfl) (Nat.le_of_ble_eq_true rfl) (Nat.le_of_ble_eq_true rfl) (Nat.le_of_ble_eq_true rfl) (Nat.le_of_ble_eq_true rfl) rfl dL_act_291 (fun M162 r163 hK164 hN165 => ?_)
          have hw := hK164 hN165
          have hk166 := Nk_.k hN165 hk159 (by decide)
          have hT167 := Nk_.tr hT160 hN165
          refine r_callVi (As := [.int x6, .int r163]) g (fun sz => mt_X10_give hw sz) tw_925 tw_928 tw_1 tw_926 tw_927 (ci := 11) (T := TX10) (N := 6) rfl hk166 hy_X10_give ⟨rfl, rfl⟩ (Nat.le_of_ble_eq_true rfl) (Nat.le_of_ble_eq_true rfl) (Nat.le_of_ble_eq_true rfl) (Nat.le_of_ble_eq_true rfl) (Nat.le_of_ble_eq_true rfl) rfl dL_act_294 (fun M168 r169 hK170 hN171 => ?_)
          have hw := hK170 hN171
          have hk172 := Nk_.k hN171 hk166 (by decide)
          have hT173 := Nk_.tr hT167 hN171
          refine r_pop g dL_act_297 rfl ?_
          refine r_iinc (v := x6 + (1 : Int32)) (L' := [(6, .int (x6 + (1 : Int32))), (0, .ref a0), (1, .int x1), (2, .int x2)]) g dL_act_298 3 rfl rfl (by decide) rfl ?_
          refine r_goto (tgt := 240) g dL_act_301 (by decide) ?_
          exact V_.sub (ih E (x6 + (1 : Int32)) _ hw hk172 (fun  M9 hE9 hN9 => kE  M9 hE9 (Nk_.tr hT173 hN9))) [1, 2, 3, 0] rfl
        · have hw := hw.1 hc161
          refine r_iload_n g dL_act_275 rfl 2 rfl ?_
          refine r_iload g dL_act_276 3 rfl ?_
          refine r_ishr g dL_act_278 ?_
          refine r_goto (tgt := 294) g dL_act_279 (by decide) ?_
          refine r_callVi (As := [.int x6, .int (x2 >>> (x6 &&& 31))]) g (fun sz => mt_X10_give hw sz) tw_925 tw_928 tw_1 tw_926 tw_927 (ci := 11) (T := TX10) (N := 6) rfl hk159 hy_X10_give ⟨rfl, rfl⟩ (Nat.le_of_ble_eq_true rfl) (Nat.le_of_ble_eq_true rfl) (Nat.le_of_ble_eq_true rfl) (Nat.le_of_ble_eq_true rfl) (Nat.le_of_ble_eq_true rfl) rfl dL_act_294 (fun M174 r175 hK176 hN177 => ?_)
          have hw := hK176 hN177
          have hk178 := Nk_.k hN177 hk159 (by decide)
          have hT179 := Nk_.tr hT160 hN177
          refine r_pop g dL_act_297 rfl ?_
          refine r_iinc (v := x6 + (1 : Int32)) (L' := [(6, .int (x6 + (1 : Int32))), (0, .ref a0), (1, .int x1), (2, .int x2)]) g dL_act_298 3 rfl rfl (by decide) rfl ?_
          refine r_goto (tgt := 240) g dL_act_301 (by decide) ?_
          exact V_.sub (ih E (x6 + (1 : Int32)) _ hw hk178 (fun  M9 hE9 hN9 => kE  M9 hE9 (Nk_.tr hT179 hN9))) [1, 2, 3, 0] rfl
set_option maxHeartbeats 4000000 in
set_option maxRecDepth 100000 in
theorem mt_L_act {l : Launch} (hfl : l.stackTraces = false) {D : Dd_} {M : Mm} {a0 : Nat} {x1 : Int32} {x2 : Int32} {K : Mm → Prop} (hw : wp_L_act a0 x1 x2 M K) (sz : Nat) : Met l yL_act (Cond.codeWith yL_act cL_act 7 none [(40, 309, 312, 97), (40, 309, 315, 99)] :: tbG_) rmL_act (cPc_ D M sz [.ref a0, .int x1, .int x2]) (va_Qv (fun M' => K M') (cB_ D M sz) (Aw_ M sz)) 21 482 (Aw_ M sz) := by
  refine ofH (by decide) (Nat.le_of_ble_eq_true rfl) ?_
  intro p e s m below meth c g hr htab hsz
  subst hsz
  obtain ⟨hp0, hw⟩ := hw
  refine r_iload_n g dL_act_0 rfl 2 rfl ?_
  refine r_iconst (v := 3) g dL_act_1 (by decide) ?_
  refine r_ishr g dL_act_2 ?_
  refine r_iload_n g dL_act_3 rfl 1 rfl ?_
  refine r_callSi (As := [.int (x2 >>> ((3 : Int32) &&& 31)), .int x1]) g (fun sz => mt_L_below hw sz) tw_660 tw_662 tw_0 tw_661 hy_L_below ⟨rfl, rfl⟩ (Nat.le_of_ble_eq_true rfl) (Nat.le_of_ble_eq_true rfl) (Nat.le_of_ble_eq_true rfl) (Nat.le_of_ble_eq_true rfl) (Nat.le_of_ble_eq_true rfl) rfl dL_act_4 (fun M1 r2 hK3 hN4 => ?_)
  have hw := hK3 hN4
  have hk5 := Nk_.k hN4 hp0 (by decide)
  have hT6 := Nk_.tr (Nk_.rf _) hN4
  refine r_istore_n (L' := [(3, .int r2), (0, .ref a0), (1, .int x1), (2, .int x2)]) g dL_act_7 rfl (by decide) rfl ?_
  refine r_iload_n g dL_act_8 rfl 3 rfl ?_
  refine r_iconst (v := 5) g dL_act_9 (by decide) ?_
  refine r_ishr g dL_act_10 ?_
  refine r_iconst (v := 1) g dL_act_11 (by decide) ?_
  refine r_aload_n g dL_act_12 rfl 1 rfl ?_
  refine r_callVi (As := []) g (fun sz => mt_X10_rows hw sz) tw_673 tw_676 tw_1 tw_674 tw_675 (ci := 11) (T := TX10) (N := 6) rfl hk5 hy_X10_rows ⟨rfl, rfl⟩ (Nat.le_of_ble_eq_true rfl) (Nat.le_of_ble_eq_true rfl) (Nat.le_of_ble_eq_true rfl) (Nat.le_of_ble_eq_true rfl) (Nat.le_of_ble_eq_true rfl) rfl dL_act_13 (fun M7 r8 hK9 hN10 => ?_)
  have hw := hK9 hN10
  have hk11 := Nk_.k hN10 hk5 (by decide)
  have hT12 := Nk_.tr hT6 hN10
  refine r_mmax g tw_677 tw_485 tw_20 tw_486 (Nat.le_of_ble_eq_true rfl) (Nat.le_of_ble_eq_true rfl) (Nat.le_of_ble_eq_true rfl) (Nat.le_of_ble_eq_true rfl) dL_act_16 ?_
  refine r_callSi (As := [.int (x2 >>> ((5 : Int32) &&& 31)), .int (if (1 : Int32) < r8 then r8 else (1 : Int32))]) g (fun sz => mt_L_below hw sz) tw_660 tw_662 tw_0 tw_661 hy_L_below ⟨rfl, rfl⟩ (Nat.le_of_ble_eq_true rfl) (Nat.le_of_ble_eq_true rfl) (Nat.le_of_ble_eq_true rfl) (Nat.le_of_ble_eq_true rfl) (Nat.le_of_ble_eq_true rfl) rfl dL_act_19 (fun M13 r14 hK15 hN16 => ?_)
  have hw := hK15 hN16
  have hk17 := Nk_.k hN16 hk11 (by decide)
  have hT18 := Nk_.tr hT12 hN16
  refine r_istore (L' := [(4, .int r14), (3, .int r2), (0, .ref a0), (1, .int x1), (2, .int x2)]) g dL_act_22 (by decide) rfl ?_
  refine r_iload_n g dL_act_24 rfl 4 rfl ?_
  refine r_iconst (v := 4) g dL_act_25 (by decide) ?_
  refine r_ishr g dL_act_26 ?_
  refine r_iconst (v := 1) g dL_act_27 (by decide) ?_
  refine r_aload_n g dL_act_28 rfl 2 rfl ?_
  refine r_callVi (As := []) g (fun sz => mt_X10_frames hw sz) tw_678 tw_681 tw_1 tw_679 tw_680 (ci := 11) (T := TX10) (N := 6) rfl hk17 hy_X10_frames ⟨rfl, rfl⟩ (Nat.le_of_ble_eq_true rfl) (Nat.le_of_ble_eq_true rfl) (Nat.le_of_ble_eq_true rfl) (Nat.le_of_ble_eq_true rfl) (Nat.le_of_ble_eq_true rfl) rfl dL_act_29 (fun M19 r20 hK21 hN22 => ?_)
  have hw := hK21 hN22
  have hk23 := Nk_.k hN22 hk17 (by decide)
  have hT24 := Nk_.tr hT18 hN22
  refine r_mmax g tw_677 tw_485 tw_20 tw_486 (Nat.le_of_ble_eq_true rfl) (Nat.le_of_ble_eq_true rfl) (Nat.le_of_ble_eq_true rfl) (Nat.le_of_ble_eq_true rfl) dL_act_32 ?_
  refine r_callSi (As := [.int (x2 >>> ((4 : Int32) &&& 31)), .int (if (1 : Int32) < r20 then r20 else (1 : Int32))]) g (fun sz => mt_L_below hw sz) tw_660 tw_662 tw_0 tw_661 hy_L_below ⟨rfl, rfl⟩ (Nat.le_of_ble_eq_true rfl) (Nat.le_of_ble_eq_true rfl) (Nat.le_of_ble_eq_true rfl) (Nat.le_of_ble_eq_true rfl) (Nat.le_of_ble_eq_true rfl) rfl dL_act_35 (fun M25 r26 hK27 hN28 => ?_)
  have hw := hK27 hN28
  have hk29 := Nk_.k hN28 hk23 (by decide)
  have hT30 := Nk_.tr hT24 hN28
  refine r_istore (L' := [(5, .int r26), (4, .int r14), (3, .int r2), (0, .ref a0), (1, .int x1), (2, .int x2)]) g dL_act_38 (by decide) rfl ?_
  refine r_iload_n g dL_act_40 rfl 5 rfl ?_
  refine r_bipush (v := 16) g dL_act_41 (by decide) ?_
  refine r_callSi (As := [.int x2, .int (16 : Int32)]) g (fun sz => mt_L_below hw sz) tw_660 tw_662 tw_0 tw_661 hy_L_below ⟨rfl, rfl⟩ (Nat.le_of_ble_eq_true rfl) (Nat.le_of_ble_eq_true rfl) (Nat.le_of_ble_eq_true rfl) (Nat.le_of_ble_eq_true rfl) (Nat.le_of_ble_eq_true rfl) rfl dL_act_43 (fun M31 r32 hK33 hN34 => ?_)
  have hw := hK33 hN34
  have hk35 := Nk_.k hN34 hk29 (by decide)
  have hT36 := Nk_.tr hT30 hN34
  by_cases hs37 : r32 = 0
  · have hw := hw.1 hs37
    refine r_tsi (v := 0) (j := 0) (tgt := 96) g dL_act_46 hs37 (by decide) (by decide) (by decide) (by decide) ?_
    refine r_aload_n g dL_act_96 rfl 3 rfl ?_
    refine r_iload g dL_act_97 1 rfl ?_
    refine x_callVz (As := [.int r14]) g (fun sz => mx_X10_delete hfl hw sz) tw_682 tw_685 tw_1 tw_683 tw_684 (ci := 11) (T := TX10) (N := 6) rfl hk35 hy_X10_delete ⟨rfl, rfl⟩ (Nat.le_of_ble_eq_true rfl) (Nat.le_of_ble_eq_true rfl) (Nat.le_of_ble_eq_true rfl) (Nat.le_of_ble_eq_true rfl) (Nat.le_of_ble_eq_true rfl) rfl dL_act_99 (fun e9 M9 hX9 hN9 he9 => r_catch2 g htab rfl (by decide) (by decide) he9 tw_671 tw_672 (fun q9 => r_astore (L' := _) g dL_act_312 (by decide) rfl (r_vret g hr (Nat.le_of_ble_eq_true rfl) (Nat.le_of_ble_eq_true rfl) rfl dL_act_314 (hX9 hN9))) (fun q9 => r_astore (L' := _) g dL_act_315 (by decide) rfl (r_vret g hr (Nat.le_of_ble_eq_true rfl) (Nat.le_of_ble_eq_true rfl) rfl dL_act_317 (hX9 hN9)))) (fun M38 r39 hK40 hb42 hN41 => ?_)
    have hw := hK40 hN41 hb42
    have hk44 := Nk_.k hN41 hk35 (by decide)
    have hT45 := Nk_.tr hT36 hN41
    refine r_pop g dL_act_102 rfl ?_
    refine r_goto (tgt := 309) g dL_act_103 (by decide) ?_
    refine r_goto (tgt := 318) g dL_act_309 (by decide) ?_
    exact r_vret g hr (Nat.le_of_ble_eq_true rfl) (Nat.le_of_ble_eq_true rfl) rfl dL_act_318 hw
  by_cases hs46 : r32 = 1
  · have hw := hw.2.1 hs46
    refine r_tsi (v := 1) (j := 1) (tgt := 106) g dL_act_46 hs46 (by decide) (by decide) (by decide) (by decide) ?_
    refine r_aload_n g dL_act_106 rfl 3 rfl ?_
    refine r_iload g dL_act_107 1 rfl ?_
    refine r_iload_n g dL_act_109 rfl 2 rfl ?_
    refine r_iload_n g dL_act_110 rfl 5 rfl ?_
    refine r_bipush (v := 7) g dL_act_111 (by decide) ?_
    refine r_ishr g dL_act_113 ?_
    refine r_bipush (v := 30) g dL_act_114 (by decide) ?_
    refine r_callSi (As := [.int (x2 >>> ((7 : Int32) &&& 31)), .int (30 : Int32)]) g (fun sz => mt_L_below hw sz) tw_660 tw_662 tw_0 tw_661 hy_L_below ⟨rfl, rfl⟩ (Nat.le_of_ble_eq_true rfl) (Nat.le_of_ble_eq_true rfl) (Nat.le_of_ble_eq_true rfl) (Nat.le_of_ble_eq_true rfl) (Nat.le_of_ble_eq_true rfl) rfl dL_act_116 (fun M47 r48 hK49 hN50 => ?_)
    have hw := hK49 hN50
    have hk51 := Nk_.k hN50 hk35 (by decide)
    have hT52 := Nk_.tr hT36 hN50
    refine x_callVi (As := [.int r14, .int r2, .int r48]) g (fun sz => mx_X10_change hfl hw sz) tw_710 tw_713 tw_1 tw_711 tw_712 (ci := 11) (T := TX10) (N := 6) rfl hk51 hy_X10_change ⟨rfl, rfl⟩ (Nat.le_of_ble_eq_true rfl) (Nat.le_of_ble_eq_true rfl) (Nat.le_of_ble_eq_true rfl) (Nat.le_of_ble_eq_true rfl) (Nat.le_of_ble_eq_true rfl) rfl dL_act_119 (fun e9 M9 hX9 hN9 he9 => r_catch2 g htab rfl (by decide) (by decide) he9 tw_671 tw_672 (fun q9 => r_astore (L' := _) g dL_act_312 (by decide) rfl (r_vret g hr (Nat.le_of_ble_eq_true rfl) (Nat.le_of_ble_eq_true rfl) rfl dL_act_314 (hX9 hN9))) (fun q9 => r_astore (L' := _) g dL_act_315 (by decide) rfl (r_vret g hr (Nat.le_of_ble_eq_true rfl) (Nat.le_of_ble_eq_true rfl) rfl dL_act_317 (hX9 hN9)))) (fun M53 r54 hK55 hN56 => ?_)
    have hw := hK55 hN56
    have hk58 := Nk_.k hN56 hk51 (by decide)
    have hT59 := Nk_.tr hT52 hN56
    refine r_pop g dL_act_122 rfl ?_
    refine r_goto (tgt := 309) g dL_act_123 (by decide) ?_
    refine r_goto (tgt := 318) g dL_act_309 (by decide) ?_
    exact r_vret g hr (Nat.le_of_ble_eq_true rfl) (Nat.le_of_ble_eq_true rfl) rfl dL_act_318 hw
  by_cases hs60 : r32 = 2
  · have hw := hw.2.2.1 hs60
    refine r_tsi (v := 2) (j := 2) (tgt := 126) g dL_act_46 hs60 (by decide) (by decide) (by decide) (by decide) ?_
    refine r_aload_n g dL_act_126 rfl 3 rfl ?_
    refine r_iconst (v := 4) g dL_act_127 (by decide) ?_
    refine r_iload_n g dL_act_128 rfl 5 rfl ?_
    refine r_bipush (v := 6) g dL_act_129 (by decide) ?_
    refine r_ishr g dL_act_131 ?_
    refine r_bipush (v := 20) g dL_act_132 (by decide) ?_
    refine r_callSi (As := [.int (x2 >>> ((6 : Int32) &&& 31)), .int (20 : Int32)]) g (fun sz => mt_L_below hw sz) tw_660 tw_662 tw_0 tw_661 hy_L_below ⟨rfl, rfl⟩ (Nat.le_of_ble_eq_true rfl) (Nat.le_of_ble_eq_true rfl) (Nat.le_of_ble_eq_true rfl) (Nat.le_of_ble_eq_true rfl) (Nat.le_of_ble_eq_true rfl) rfl dL_act_134 (fun M61 r62 hK63 hN64 => ?_)
    have hw := hK63 hN64
    have hk65 := Nk_.k hN64 hk35 (by decide)
    have hT66 := Nk_.tr hT36 hN64
    refine r_iadd g dL_act_137 ?_
    refine r_callVi (As := [.int ((4 : Int32) + r62)]) g (fun sz => mt_X10_setSize hw sz) tw_816 tw_819 tw_1 tw_817 tw_818 (ci := 11) (T := TX10) (N := 6) rfl hk65 hy_X10_setSize ⟨rfl, rfl⟩ (Nat.le_of_ble_eq_true rfl) (Nat.le_of_ble_eq_true rfl) (Nat.le_of_ble_eq_true rfl) (Nat.le_of_ble_eq_true rfl) (Nat.le_of_ble_eq_true rfl) rfl dL_act_138 (fun M67 r68 hK69 hN70 => ?_)
    have hw := hK69 hN70
    have hk71 := Nk_.k hN70 hk65 (by decide)
    have hT72 := Nk_.tr hT66 hN70
    refine r_pop g dL_act_141 rfl ?_
    refine r_goto (tgt := 309) g dL_act_142 (by decide) ?_
    refine r_goto (tgt := 318) g dL_act_309 (by decide) ?_
    exact r_vret g hr (Nat.le_of_ble_eq_true rfl) (Nat.le_of_ble_eq_true rfl) rfl dL_act_318 hw
  by_cases hs73 : r32 = 3
  · have hw := hw.2.2.2.1 hs73
    refine r_tsi (v := 3) (j := 3) (tgt := 145) g dL_act_46 hs73 (by decide) (by decide) (by decide) (by decide) ?_
    refine r_aload_n g dL_act_145 rfl 3 rfl ?_
    refine x_callVi (As := []) g (fun sz => mx_X10_seal hfl hw sz) tw_836 tw_839 tw_1 tw_837 tw_838 (ci := 11) (T := TX10) (N := 6) rfl hk35 hy_X10_seal ⟨rfl, rfl⟩ (Nat.le_of_ble_eq_true rfl) (Nat.le_of_ble_eq_true rfl) (Nat.le_of_ble_eq_true rfl) (Nat.le_of_ble_eq_true rfl) (Nat.le_of_ble_eq_true rfl) rfl dL_act_146 (fun e9 M9 hX9 hN9 he9 => r_catch2 g htab rfl (by decide) (by decide) he9 tw_671 tw_672 (fun q9 => r_astore (L' := _) g dL_act_312 (by decide) rfl (r_vret g hr (Nat.le_of_ble_eq_true rfl) (Nat.le_of_ble_eq_true rfl) rfl dL_act_314 (hX9 hN9))) (fun q9 => r_astore (L' := _) g dL_act_315 (by decide) rfl (r_vret g hr (Nat.le_of_ble_eq_true rfl) (Nat.le_of_ble_eq_true rfl) rfl dL_act_317 (hX9 hN9)))) (fun M74 r75 hK76 hN77 => ?_)
    have hw := hK76 hN77
    have hk79 := Nk_.k hN77 hk35 (by decide)
    have hT80 := Nk_.tr hT36 hN77
    refine r_pop g dL_act_149 rfl ?_
    refine r_goto (tgt := 309) g dL_act_150 (by decide) ?_
    refine r_goto (tgt := 318) g dL_act_309 (by decide) ?_
    exact r_vret g hr (Nat.le_of_ble_eq_true rfl) (Nat.le_of_ble_eq_true rfl) rfl dL_act_318 hw
  by_cases hs81 : r32 = 4
  · have hw := hw.2.2.2.2.1 hs81
    refine r_tsi (v := 4) (j := 4) (tgt := 153) g dL_act_46 hs81 (by decide) (by decide) (by decide) (by decide) ?_
    refine r_aload_n g dL_act_153 rfl 3 rfl ?_
    refine r_iload g dL_act_154 0 rfl ?_
    refine r_iload_n g dL_act_156 rfl 2 rfl ?_
    refine x_callVi (As := [.int r26, .int r2]) g (fun sz => mx_X10_cluster hfl hw sz) tw_842 tw_845 tw_1 tw_843 tw_844 (ci := 11) (T := TX10) (N := 6) rfl hk35 hy_X10_cluster ⟨rfl, rfl⟩ (Nat.le_of_ble_eq_true rfl) (Nat.le_of_ble_eq_true rfl) (Nat.le_of_ble_eq_true rfl) (Nat.le_of_ble_eq_true rfl) (Nat.le_of_ble_eq_true rfl) rfl dL_act_157 (fun e9 M9 hX9 hN9 he9 => r_catch2 g htab rfl (by decide) (by decide) he9 tw_671 tw_672 (fun q9 => r_astore (L' := _) g dL_act_312 (by decide) rfl (r_vret g hr (Nat.le_of_ble_eq_true rfl) (Nat.le_of_ble_eq_true rfl) rfl dL_act_314 (hX9 hN9))) (fun q9 => r_astore (L' := _) g dL_act_315 (by decide) rfl (r_vret g hr (Nat.le_of_ble_eq_true rfl) (Nat.le_of_ble_eq_true rfl) rfl dL_act_317 (hX9 hN9)))) (fun M82 r83 hK84 hN85 => ?_)
    have hw := hK84 hN85
    have hk87 := Nk_.k hN85 hk35 (by decide)
    have hT88 := Nk_.tr hT36 hN85
    refine r_pop g dL_act_160 rfl ?_
    refine r_goto (tgt := 309) g dL_act_161 (by decide) ?_
    refine r_goto (tgt := 318) g dL_act_309 (by decide) ?_
    exact r_vret g hr (Nat.le_of_ble_eq_true rfl) (Nat.le_of_ble_eq_true rfl) rfl dL_act_318 hw
  by_cases hs89 : r32 = 5
  · have hw := hw.2.2.2.2.2.1 hs89
    refine r_tsi (v := 5) (j := 5) (tgt := 164) g dL_act_46 hs89 (by decide) (by decide) (by decide) (by decide) ?_
    refine r_aload_n g dL_act_164 rfl 3 rfl ?_
    refine r_iload g dL_act_165 0 rfl ?_
    refine x_callVi (As := [.int r26]) g (fun sz => mx_X10_merge hfl hw sz) tw_869 tw_872 tw_1 tw_870 tw_871 (ci := 11) (T := TX10) (N := 6) rfl hk35 hy_X10_merge ⟨rfl, rfl⟩ (Nat.le_of_ble_eq_true rfl) (Nat.le_of_ble_eq_true rfl) (Nat.le_of_ble_eq_true rfl) (Nat.le_of_ble_eq_true rfl) (Nat.le_of_ble_eq_true rfl) rfl dL_act_167 (fun e9 M9 hX9 hN9 he9 => r_catch2 g htab rfl (by decide) (by decide) he9 tw_671 tw_672 (fun q9 => r_astore (L' := _) g dL_act_312 (by decide) rfl (r_vret g hr (Nat.le_of_ble_eq_true rfl) (Nat.le_of_ble_eq_true rfl) rfl dL_act_314 (hX9 hN9))) (fun q9 => r_astore (L' := _) g dL_act_315 (by decide) rfl (r_vret g hr (Nat.le_of_ble_eq_true rfl) (Nat.le_of_ble_eq_true rfl) rfl dL_act_317 (hX9 hN9)))) (fun M90 r91 hK92 hN93 => ?_)
    have hw := hK92 hN93
    have hk95 := Nk_.k hN93 hk35 (by decide)
    have hT96 := Nk_.tr hT36 hN93
    refine r_pop g dL_act_170 rfl ?_
    refine r_goto (tgt := 309) g dL_act_171 (by decide) ?_
    refine r_goto (tgt := 318) g dL_act_309 (by decide) ?_
    exact r_vret g hr (Nat.le_of_ble_eq_true rfl) (Nat.le_of_ble_eq_true rfl) rfl dL_act_318 hw
  by_cases hs97 : r32 = 6
  · have hw := hw.2.2.2.2.2.2.1 hs97
    refine r_tsi (v := 6) (j := 6) (tgt := 174) g dL_act_46 hs97 (by decide) (by decide) (by decide) (by decide) ?_
    refine r_aload_n g dL_act_174 rfl 3 rfl ?_
    refine r_iload_n g dL_act_175 rfl 2 rfl ?_
    refine r_callVz (As := [.int r2]) g (fun sz => mt_X10_index hw sz) tw_883 tw_886 tw_1 tw_884 tw_885 (ci := 11) (T := TX10) (N := 6) rfl hk35 hy_X10_index ⟨rfl, rfl⟩ (Nat.le_of_ble_eq_true rfl) (Nat.le_of_ble_eq_true rfl) (Nat.le_of_ble_eq_true rfl) (Nat.le_of_ble_eq_true rfl) (Nat.le_of_ble_eq_true rfl) rfl dL_act_176 (fun M98 r99 hK100 hb102 hN101 => ?_)
    have hw := hK100 hN101 hb102
    have hk103 := Nk_.k hN101 hk35 (by decide)
    have hT104 := Nk_.tr hT36 hN101
    refine r_pop g dL_act_179 rfl ?_
    refine r_goto (tgt := 309) g dL_act_180 (by decide) ?_
    refine r_goto (tgt := 318) g dL_act_309 (by decide) ?_
    exact r_vret g hr (Nat.le_of_ble_eq_true rfl) (Nat.le_of_ble_eq_true rfl) rfl dL_act_318 hw
  by_cases hs105 : r32 = 7
  · have hw := hw.2.2.2.2.2.2.2.1 hs105
    refine r_tsi (v := 7) (j := 7) (tgt := 183) g dL_act_46 hs105 (by decide) (by decide) (by decide) (by decide) ?_
    refine r_aload_n g dL_act_183 rfl 3 rfl ?_
    refine r_iload_n g dL_act_184 rfl 2 rfl ?_
    refine r_iload_n g dL_act_185 rfl 5 rfl ?_
    refine r_bipush (v := 6) g dL_act_186 (by decide) ?_
    refine r_ishr g dL_act_188 ?_
    refine r_bipush (v := 8) g dL_act_189 (by decide) ?_
    refine r_callSi (As := [.int (x2 >>> ((6 : Int32) &&& 31)), .int (8 : Int32)]) g (fun sz => mt_L_below hw sz) tw_660 tw_662 tw_0 tw_661 hy_L_below ⟨rfl, rfl⟩ (Nat.le_of_ble_eq_true rfl) (Nat.le_of_ble_eq_true rfl) (Nat.le_of_ble_eq_true rfl) (Nat.le_of_ble_eq_true rfl) (Nat.le_of_ble_eq_true rfl) rfl dL_act_191 (fun M106 r107 hK108 hN109 => ?_)
    have hw := hK108 hN109
    have hk110 := Nk_.k hN109 hk35 (by decide)
    have hT111 := Nk_.tr hT36 hN109
    refine r_iload_n g dL_act_194 rfl 5 rfl ?_
    refine r_bipush (v := 8) g dL_act_195 (by decide) ?_
    refine r_ishr g dL_act_197 ?_
    refine r_bipush (v := 30) g dL_act_198 (by decide) ?_
    refine r_callSi (As := [.int (x2 >>> ((8 : Int32) &&& 31)), .int (30 : Int32)]) g (fun sz => mt_L_below hw sz) tw_660 tw_662 tw_0 tw_661 hy_L_below ⟨rfl, rfl⟩ (Nat.le_of_ble_eq_true rfl) (Nat.le_of_ble_eq_true rfl) (Nat.le_of_ble_eq_true rfl) (Nat.le_of_ble_eq_true rfl) (Nat.le_of_ble_eq_true rfl) rfl dL_act_200 (fun M112 r113 hK114 hN115 => ?_)
    have hw := hK114 hN115
    have hk116 := Nk_.k hN115 hk110 (by decide)
    have hT117 := Nk_.tr hT111 hN115
    refine x_callVi (As := [.int r2, .int r107, .int r113]) g (fun sz => mx_X10_where hfl hw sz) tw_887 tw_890 tw_1 tw_888 tw_889 (ci := 11) (T := TX10) (N := 6) rfl hk116 hy_X10_where ⟨rfl, rfl⟩ (Nat.le_of_ble_eq_true rfl) (Nat.le_of_ble_eq_true rfl) (Nat.le_of_ble_eq_true rfl) (Nat.le_of_ble_eq_true rfl) (Nat.le_of_ble_eq_true rfl) rfl dL_act_203 (fun e9 M9 hX9 hN9 he9 => r_catch2 g htab rfl (by decide) (by decide) he9 tw_671 tw_672 (fun q9 => r_astore (L' := _) g dL_act_312 (by decide) rfl (r_vret g hr (Nat.le_of_ble_eq_true rfl) (Nat.le_of_ble_eq_true rfl) rfl dL_act_314 (hX9 hN9))) (fun q9 => r_astore (L' := _) g dL_act_315 (by decide) rfl (r_vret g hr (Nat.le_of_ble_eq_true rfl) (Nat.le_of_ble_eq_true rfl) rfl dL_act_317 (hX9 hN9)))) (fun M118 r119 hK120 hN121 => ?_)
    have hw := hK120 hN121
    have hk123 := Nk_.k hN121 hk116 (by decide)
    have hT124 := Nk_.tr hT117 hN121
    refine r_pop g dL_act_206 rfl ?_
    refine r_goto (tgt := 309) g dL_act_207 (by decide) ?_
    refine r_goto (tgt := 318) g dL_act_309 (by decide) ?_
    exact r_vret g hr (Nat.le_of_ble_eq_true rfl) (Nat.le_of_ble_eq_true rfl) rfl dL_act_318 hw
  by_cases hs125 : r32 = 8
  · have hw := hw.2.2.2.2.2.2.2.2.1 hs125
    refine r_tsi (v := 8) (j := 8) (tgt := 210) g dL_act_46 hs125 (by decide) (by decide) (by decide) (by decide) ?_
    refine r_iload_n g dL_act_210 rfl 5 rfl ?_
    refine r_bipush (v := 6) g dL_act_211 (by decide) ?_
    refine r_ishr g dL_act_213 ?_
    refine r_iconst (v := 2) g dL_act_214 (by decide) ?_
    refine r_callSi (As := [.int (x2 >>> ((6 : Int32) &&& 31)), .int (2 : Int32)]) g (fun sz => mt_L_below hw sz) tw_660 tw_662 tw_0 tw_661 hy_L_below ⟨rfl, rfl⟩ (Nat.le_of_ble_eq_true rfl) (Nat.le_of_ble_eq_true rfl) (Nat.le_of_ble_eq_true rfl) (Nat.le_of_ble_eq_true rfl) (Nat.le_of_ble_eq_true rfl) rfl dL_act_215 (fun M126 r127 hK128 hN129 => ?_)
    have hw := hK128 hN129
    have hk130 := Nk_.k hN129 hk35 (by decide)
    have hT131 := Nk_.tr hT36 hN129
    refine r_if_ne (tgt := 229) g dL_act_218 (by decide) (fun hc132 => ?_) (fun hc132 => ?_)
    · have hw := hw.2 hc132
      refine r_aload_n g dL_act_229 rfl 3 rfl ?_
      refine r_callVi (As := []) g (fun sz => mt_X10_clear hw sz) tw_916 tw_919 tw_1 tw_917 tw_918 (ci := 11) (T := TX10) (N := 6) rfl hk130 hy_X10_clear ⟨rfl, rfl⟩ (Nat.le_of_ble_eq_true rfl) (Nat.le_of_ble_eq_true rfl) (Nat.le_of_ble_eq_true rfl) (Nat.le_of_ble_eq_true rfl) (Nat.le_of_ble_eq_true rfl) rfl dL_act_230 (fun M133 r134 hK135 hN136 => ?_)
      have hw := hK135 hN136
      have hk137 := Nk_.k hN136 hk130 (by decide)
      have hT138 := Nk_.tr hT131 hN136
      refine r_pop g dL_act_233 rfl ?_
      refine r_goto (tgt := 309) g dL_act_234 (by decide) ?_
      refine r_goto (tgt := 318) g dL_act_309 (by decide) ?_
      exact r_vret g hr (Nat.le_of_ble_eq_true rfl) (Nat.le_of_ble_eq_true rfl) rfl dL_act_318 hw
    · have hw := hw.1 hc132
      refine r_aload_n g dL_act_221 rfl 3 rfl ?_
      refine x_callVi (As := []) g (fun sz => mx_X10_orElse hfl hw sz) tw_905 tw_908 tw_1 tw_906 tw_907 (ci := 11) (T := TX10) (N := 6) rfl hk130 hy_X10_orElse ⟨rfl, rfl⟩ (Nat.le_of_ble_eq_true rfl) (Nat.le_of_ble_eq_true rfl) (Nat.le_of_ble_eq_true rfl) (Nat.le_of_ble_eq_true rfl) (Nat.le_of_ble_eq_true rfl) rfl dL_act_222 (fun e9 M9 hX9 hN9 he9 => r_catch2 g htab rfl (by decide) (by decide) he9 tw_671 tw_672 (fun q9 => r_astore (L' := _) g dL_act_312 (by decide) rfl (r_vret g hr (Nat.le_of_ble_eq_true rfl) (Nat.le_of_ble_eq_true rfl) rfl dL_act_314 (hX9 hN9))) (fun q9 => r_astore (L' := _) g dL_act_315 (by decide) rfl (r_vret g hr (Nat.le_of_ble_eq_true rfl) (Nat.le_of_ble_eq_true rfl) rfl dL_act_317 (hX9 hN9)))) (fun M139 r140 hK141 hN142 => ?_)
      have hw := hK141 hN142
      have hk144 := Nk_.k hN142 hk130 (by decide)
      have hT145 := Nk_.tr hT131 hN142
      refine r_pop g dL_act_225 rfl ?_
      refine r_goto (tgt := 309) g dL_act_226 (by decide) ?_
      refine r_goto (tgt := 318) g dL_act_309 (by decide) ?_
      exact r_vret g hr (Nat.le_of_ble_eq_true rfl) (Nat.le_of_ble_eq_true rfl) rfl dL_act_318 hw
  have hw := hw.2.2.2.2.2.2.2.2.2 hs37 hs46 hs60 hs73 hs81 hs89 hs97 hs105 hs125
  refine r_tsd (tgt := 237) g dL_act_46 (sw_out9_0 hs37 hs46 hs60 hs73 hs81 hs89 hs97 hs105 hs125) (by decide) ?_
  refine r_iconst (v := 0) g dL_act_237 (by decide) ?_
  refine r_istore (L' := [(6, .int (0 : Int32)), (5, .int r26), (4, .int r14), (3, .int r2), (0, .ref a0), (1, .int x1), (2, .int x2)]) g dL_act_238 (by decide) rfl ?_
  obtain ⟨n180, hw⟩ := hw
  refine V_.sub (lo_L_act_240 g hr rfl n180 _ (0 : Int32) _ hw hk35 (fun  M181 hE hN182 => ?_)) [4, 5, 6, 0] rfl
  have hw := hE hN182
  have hk183 := Nk_.k hN182 hk35 (by decide)
  have hT184 := Nk_.tr hT36 hN182
  refine r_aload_n g dL_act_304 rfl 0 rfl ?_
  refine r_callVi (As := []) g (fun sz => mt_X10_add hw sz) tw_937 tw_940 tw_1 tw_938 tw_939 (ci := 11) (T := TX10) (N := 6) rfl hk183 hy_X10_add ⟨rfl, rfl⟩ (Nat.le_of_ble_eq_true rfl) (Nat.le_of_ble_eq_true rfl) (Nat.le_of_ble_eq_true rfl) (Nat.le_of_ble_eq_true rfl) (Nat.le_of_ble_eq_true rfl) rfl dL_act_305 (fun M185 r186 hK187 hN188 => ?_)
  have hw := hK187 hN188
  have hk189 := Nk_.k hN188 hk183 (by decide)
  have hT190 := Nk_.tr hT184 hN188
  refine r_pop g dL_act_308 rfl ?_
  refine r_goto (tgt := 318) g dL_act_309 (by decide) ?_
  exact r_vret g hr (Nat.le_of_ble_eq_true rfl) (Nat.le_of_ble_eq_true rfl) rfl dL_act_318 hw
def lp_L_law_22 (a0 : Nat) (a1 : Nat) (x2 : Int32) (K : Mm → Int32 → Prop) (E : Nat → Nat → Mm → Prop) : Nat → Int32 → Nat → Nat → Mm → Prop
  | 0, _, _, _, _ => False
  | n + 1, x3, uc, ud, M => ((x2 ≤ x3 → E uc ud M) ∧ (¬ x2 ≤ x3 → ((uc + 4) ≤ 600104 ∧ ((ud + 1405) ≤ 7301314 ∧ (wp_X10_addColumn a1 M (fun M31 r32 => Nk_ M M31 → lp_L_law_22 a0 a1 x2 K E n (x3 + (1 : Int32)) (uc + 4) (ud + 1405) M31))))))
def lp_L_law_40 (a0 : Nat) (a1 : Nat) (x2 : Int32) (K : Mm → Int32 → Prop) (E : Nat → Nat → Mm → Prop) : Nat → Int32 → Nat → Nat → Mm → Prop
  | 0, _, _, _, _ => False
  | n + 1, x3, uc, ud, M => (((100 : Int32) ≤ x3 → E uc ud M) ∧ (¬ (100 : Int32) ≤ x3 → (uc ≤ 600104 ∧ (ud ≤ 7301314 ∧ (wp_L_cell a0 ((1 : Int32) + (x3 - x3 / (25 : Int32) * (25 : Int32))) M (fun M49 r50 => Nk_ M M49 → ((uc + 21) ≤ 600104 ∧ ((ud + 482) ≤ 7301314 ∧ (wp_L_act a1 x2 (r50 >>> (((x3 / (25 : Int32)) * (6 : Int32)) &&& 31)) M49 (fun M58 => Nk_ M49 M58 → (((x3 - x3 / (20 : Int32) * (20 : Int32)) = (19 : Int32) → ((uc + 21) ≤ 600104 ∧ ((ud + 482) ≤ 7301314 ∧ (wp_X10_digest a1 M58 (fun M67 r68 => Nk_ M58 M67 → ((uc + 21) ≤ 600104 ∧ ((ud + 482) ≤ 7301314 ∧ (wp_L_isTableSound a1 x2 M67 (fun M76 r77 => Nk_ M67 M76 → bz_ r77 → ((r77 = 0 → (uc + 21 ≤ 600104 ∧ (ud + 482 ≤ 7301314 ∧ (K M76 (0 : Int32))))) ∧ (¬ r77 = 0 → ((uc + 21) ≤ 600104 ∧ ((ud + 482) ≤ 7301314 ∧ (wp_X10_wouldFind a1 M76 (fun M89 r90 => Nk_ M76 M89 → ((r90 < 0 → (uc + 21 ≤ 600104 ∧ (ud + 482 ≤ 7301314 ∧ (K M89 (0 : Int32))))) ∧ (¬ r90 < 0 → ((uc + 21) ≤ 600104 ∧ ((ud + 482) ≤ 7301314 ∧ (wp_X10_costWithout a1 M89 (fun M101 r102 => Nk_ M89 M101 → ((r102 < 0 → (uc + 21 ≤ 600104 ∧ (ud + 482 ≤ 7301314 ∧ (K M101 (0 : Int32))))) ∧ (¬ r102 < 0 → ((uc + 21) ≤ 600104 ∧ ((ud + 482) ≤ 7301314 ∧ (wp_X10_digest a1 M101 (fun M113 r114 => Nk_ M101 M113 → ((r114 = r68 → ((uc + 22) ≤ 600104 ∧ ((ud + 1082) ≤ 7301314 ∧ (wp_L_isSearchSound a1 x2 M113 (fun M123 r124 => Nk_ M113 M123 → bz_ r124 → ((r124 = 0 → (uc + 22 ≤ 600104 ∧ (ud + 1082 ≤ 7301314 ∧ (K M123 (0 : Int32))))) ∧ (¬ r124 = 0 → lp_L_law_40 a0 a1 x2 K E n (x3 + (1 : Int32)) (uc + 22) (ud + 1082) M123))))))) ∧ (¬ r114 = r68 → (uc + 21 ≤ 600104 ∧ (ud + 482 ≤ 7301314 ∧ (K M113 (0 : Int32))))))))))))))))))))))))))))))))) ∧ (¬ (x3 - x3 / (20 : Int32) * (20 : Int32)) = (19 : Int32) → lp_L_law_40 a0 a1 x2 K E n (x3 + (1 : Int32)) (uc + 21) (ud + 482) M58))))))))))))
def wp_L_law (a0 : Nat) (M : Mm) (K : Mm → Int32 → Prop) : Prop := kd_ M a0 = 30 ∧ (∀ q1, q1 ≠ 0 → kd_ M q1 = 0 → (∀ M4, M4 = nw_ M q1 12 0 → (wp_X10_init q1 M4 (fun M8 => Nk_ M4 M8 → (wp_L_cell a0 (0 : Int32) M8 (fun M14 r15 => Nk_ M8 M14 → (wp_L_below r15 (3 : Int32) M14 (fun M21 r22 => Nk_ M14 M21 → (∃ n38 : Nat, lp_L_law_22 a0 q1 ((1 : Int32) + r22) K (fun c41 d42 M39 => Nk_ M21 M39 → (∃ n136 : Nat, lp_L_law_40 a0 q1 ((1 : Int32) + r22) K (fun c139 d140 M137 => Nk_ M39 M137 → (c139 ≤ 600104 ∧ (d140 ≤ 7301314 ∧ (K M137 (1 : Int32))))) n136 (0 : Int32) c41 d42 M39)) n38 (0 : Int32) 85 6273 M21)))))))))
set_option maxHeartbeats 4000000 in
set_option maxRecDepth 100000 in
theorem lo_L_law_22 {p : Program} {l : Launch} {e : Env} {s : State} {m : MethodId} {args : Array Value} {below : List Frame} {meth : Method} {c : Code} {D : Dd_} {M0 : Mm} {Q : State → Prop} {K : Mm → Int32 → Prop} (g : G_ p s m args meth c cL_law 6 RL D M0) (hr : meth.sig.returnType = ret) (hfl : l.stackTraces = false) {b : Nat} (hargs : args = #[Value.ref b]) (hM0 : ∀ a, kd_ M0 a = 0 ∨ 30 ≤ kd_ M0 a) (hK1 : ∀ M r, K M r → r = 1) (hQ : Q = lw_Z below args s) {a0 : Nat} {a1 : Nat} {x2 : Int32} : ∀ (n : Nat) (E : Nat → Nat → Mm → Prop) (x3 : Int32) (uc : Nat) (ud : Nat) (M : Mm), lp_L_law_22 a0 a1 x2 K E n x3 uc ud M → kd_ M a0 = 30 → kd_ M a1 = 12 → (∀ (c9 d9 : Nat) (M' : Mm), E c9 d9 M' → Nk_ M M' → V_ p l e room_1 s m args below meth c 6 D M0 Q 38 [(0, .ref a0), (1, .ref a1), (2, .int x2)] [] M' c9 d9) → V_ p l e room_1 s m args below meth c 6 D M0 Q 22 [(0, .ref a0), (1, .ref a1), (2, .int x2), (3, .int x3)] [] M uc ud := by
  intro n
  induction n with
  | zero =>
    intro E x3 uc ud M hw
    exact hw.elim
  | succ n ih =>
    intro E x3 uc ud M hw hp0 hp1 kE
    refine r_iload_n g dL_law_22 rfl 3 rfl ?_
    refine r_iload_n g dL_law_23 rfl 2 rfl ?_
    refine r_icmp_ge (tgt := 38) g dL_law_24 (by decide) (fun hc28 => ?_) (fun hc28 => ?_)
    · have hw := hw.1 hc28
      exact V_.sub (kE uc ud _ hw (Nk_.rf _)) [0, 1, 2] rfl
    · have hw := hw.2 hc28
      refine r_aload_n g dL_law_27 rfl 1 rfl ?_
      obtain ⟨h29, h30, hw⟩ := hw
      refine r_callVi (As := []) g (fun sz => mt_X10_addColumn hw sz) tw_353 tw_356 tw_1 tw_354 tw_355 (ci := 11) (T := TX10) (N := 6) rfl hp1 hy_X10_addColumn ⟨rfl, rfl⟩ (Nat.le_of_ble_eq_true rfl) (Nat.le_of_ble_eq_true rfl) h29 h30 (Nat.le_of_ble_eq_true rfl) rfl dL_law_28 (fun M31 r32 hK33 hN34 => ?_)
      have hw := hK33 hN34
      have hk35 := Nk_.k hN34 hp0 (by decide)
      have hk36 := Nk_.k hN34 hp1 (by decide)
      have hT37 := Nk_.tr (Nk_.rf _) hN34
      refine r_pop g dL_law_31 rfl ?_
      refine r_iinc (v := x3 + (1 : Int32)) (L' := [(3, .int (x3 + (1 : Int32))), (0, .ref a0), (1, .ref a1), (2, .int x2)]) g dL_law_32 3 rfl rfl (by decide) rfl ?_
      refine r_goto (tgt := 22) g dL_law_35 (by decide) ?_
      exact V_.sub (ih E (x3 + (1 : Int32)) (uc + 4) (ud + 1405) _ hw hk35 hk36 (fun c9 d9 M9 hE9 hN9 => kE c9 d9 M9 hE9 (Nk_.tr hT37 hN9))) [1, 2, 3, 0] rfl
set_option maxHeartbeats 4000000 in
set_option maxRecDepth 100000 in
theorem lo_L_law_40 {p : Program} {l : Launch} {e : Env} {s : State} {m : MethodId} {args : Array Value} {below : List Frame} {meth : Method} {c : Code} {D : Dd_} {M0 : Mm} {Q : State → Prop} {K : Mm → Int32 → Prop} (g : G_ p s m args meth c cL_law 6 RL D M0) (hr : meth.sig.returnType = ret) (hfl : l.stackTraces = false) {b : Nat} (hargs : args = #[Value.ref b]) (hM0 : ∀ a, kd_ M0 a = 0 ∨ 30 ≤ kd_ M0 a) (hK1 : ∀ M r, K M r → r = 1) (hQ : Q = lw_Z below args s) {a0 : Nat} {a1 : Nat} {x2 : Int32} : ∀ (n : Nat) (E : Nat → Nat → Mm → Prop) (x3 : Int32) (uc : Nat) (ud : Nat) (M : Mm), lp_L_law_40 a0 a1 x2 K E n x3 uc ud M → kd_ M a0 = 30 → kd_ M a1 = 12 → (∀ (c9 d9 : Nat) (M' : Mm), E c9 d9 M' → Nk_ M M' → V_ p l e room_1 s m args below meth c 6 D M0 Q 137 [] [] M' c9 d9) → V_ p l e room_1 s m args below meth c 6 D M0 Q 40 [(0, .ref a0), (1, .ref a1), (2, .int x2), (3, .int x3)] [] M uc ud := by
  intro n
  induction n with
  | zero =>
    intro E x3 uc ud M hw
    exact hw.elim
  | succ n ih =>
    intro E x3 uc ud M hw hp0 hp1 kE
    refine r_iload_n g dL_law_40 rfl 3 rfl ?_
    refine r_bipush (v := 100) g dL_law_41 (by decide) ?_
    refine r_icmp_ge (tgt := 137) g dL_law_43 (by decide) (fun hc46 => ?_) (fun hc46 => ?_)
    · have hw := hw.1 hc46
      exact V_.sub (kE uc ud _ hw (Nk_.rf _)) [] rfl
    · have hw := hw.2 hc46
      refine r_aload_n g dL_law_46 rfl 1 rfl ?_
      refine r_iload_n g dL_law_47 rfl 2 rfl ?_
      refine r_aload_n g dL_law_48 rfl 0 rfl ?_
      refine r_iconst (v := 1) g dL_law_49 (by decide) ?_
      refine r_iload_n g dL_law_50 rfl 3 rfl ?_
      refine r_bipush (v := 25) g dL_law_51 (by decide) ?_
      refine r_irem g dL_law_53 (by decide) ?_
      refine r_iadd g dL_law_54 ?_
      obtain ⟨h47, h48, hw⟩ := hw
      refine r_callSi (As := [.ref a0, .int ((1 : Int32) + (x3 - x3 / (25 : Int32) * (25 : Int32)))]) g (fun sz => mt_L_cell hw sz) tw_664 tw_666 tw_0 tw_665 hy_L_cell ⟨rfl, rfl⟩ (Nat.le_of_ble_eq_true rfl) (Nat.le_of_ble_eq_true rfl) h47 h48 (Nat.le_of_ble_eq_true rfl) rfl dL_law_55 (fun M49 r50 hK51 hN52 => ?_)
      have hw := hK51 hN52
      have hk53 := Nk_.k hN52 hp0 (by decide)
      have hk54 := Nk_.k hN52 hp1 (by decide)
      have hT55 := Nk_.tr (Nk_.rf _) hN52
      refine r_iload_n g dL_law_58 rfl 3 rfl ?_
      refine r_bipush (v := 25) g dL_law_59 (by decide) ?_
      refine r_idiv g dL_law_61 (by decide) ?_
      refine r_bipush (v := 6) g dL_law_62 (by decide) ?_
      refine r_imul g dL_law_64 ?_
      refine r_ishr g dL_law_65 ?_
      obtain ⟨h56, h57, hw⟩ := hw
      refine r_callWv (As := [.ref a1, .int x2, .int (r50 >>> (((x3 / (25 : Int32)) * (6 : Int32)) &&& 31))]) g (fun sz => mt_L_act hfl hw sz) tw_668 tw_670 tw_0 tw_669 hy_L_act ⟨rfl, rfl⟩ (Nat.le_of_ble_eq_true rfl) (Nat.le_of_ble_eq_true rfl) h56 h57 (Nat.le_of_ble_eq_true rfl) rfl dL_law_66 (fun M58 hK59 hN60 => ?_)
      have hw := hK59 hN60
      have hk61 := Nk_.k hN60 hk53 (by decide)
      have hk62 := Nk_.k hN60 hk54 (by decide)
      have hT63 := Nk_.tr hT55 hN60
      refine r_iload_n g dL_law_69 rfl 3 rfl ?_
      refine r_bipush (v := 20) g dL_law_70 (by decide) ?_
      refine r_irem g dL_law_72 (by decide) ?_
      refine r_bipush (v := 19) g dL_law_73 (by decide) ?_
      refine r_icmp_eq (tgt := 81) g dL_law_75 (by decide) (fun hc64 => ?_) (fun hc64 => ?_)
      · have hw := hw.1 hc64
        refine r_aload_n g dL_law_81 rfl 1 rfl ?_
        obtain ⟨h65, h66, hw⟩ := hw
        refine r_callVl (As := []) g (fun sz => mt_X10_digest hw sz) tw_619 tw_622 tw_1 tw_620 tw_621 (ci := 11) (T := TX10) (N := 6) rfl hk62 hy_X10_digest ⟨rfl, rfl⟩ (Nat.le_of_ble_eq_true rfl) (Nat.le_of_ble_eq_true rfl) h65 h66 (Nat.le_of_ble_eq_true rfl) rfl dL_law_82 (fun M67 r68 hK69 hN70 => ?_)
        have hw := hK69 hN70
        have hk71 := Nk_.k hN70 hk61 (by decide)
        have hk72 := Nk_.k hN70 hk62 (by decide)
        have hT73 := Nk_.tr hT63 hN70
        refine r_lstore (L' := [(4, .long r68), (0, .ref a0), (1, .ref a1), (2, .int x2), (3, .int x3)]) g dL_law_85 (by decide) rfl ?_
        refine r_aload_n g dL_law_87 rfl 2 rfl ?_
        refine r_iload_n g dL_law_88 rfl 3 rfl ?_
        obtain ⟨h74, h75, hw⟩ := hw
        refine r_callSz (As := [.ref a1, .int x2]) g (fun sz => mt_L_isTableSound hw sz) tw_954 tw_956 tw_0 tw_955 hy_L_isTableSound ⟨rfl, rfl⟩ (Nat.le_of_ble_eq_true rfl) (Nat.le_of_ble_eq_true rfl) h74 h75 (Nat.le_of_ble_eq_true rfl) rfl dL_law_89 (fun M76 r77 hK78 hb80 hN79 => ?_)
        have hw := hK78 hN79 hb80
        have hk81 := Nk_.k hN79 hk71 (by decide)
        have hk82 := Nk_.k hN79 hk72 (by decide)
        have hT83 := Nk_.tr hT73 hN79
        refine r_if_eq (tgt := 119) g dL_law_92 (by decide) (fun hc84 => ?_) (fun hc84 => ?_)
        · have hw := hw.1 hc84
          refine r_iconst (v := 0) g dL_law_119 (by decide) ?_
          obtain ⟨h85, h86, hw⟩ := hw
          exact r_lawret g hr hargs hM0 hK1 h85 h86 hQ dL_law_120 hw
        · have hw := hw.2 hc84
          refine r_aload_n g dL_law_95 rfl 2 rfl ?_
          obtain ⟨h87, h88, hw⟩ := hw
          refine r_callVi (As := []) g (fun sz => mt_X10_wouldFind hw sz) tw_615 tw_618 tw_1 tw_616 tw_617 (ci := 11) (T := TX10) (N := 6) rfl hk82 hy_X10_wouldFind ⟨rfl, rfl⟩ (Nat.le_of_ble_eq_true rfl) (Nat.le_of_ble_eq_true rfl) h87 h88 (Nat.le_of_ble_eq_true rfl) rfl dL_law_96 (fun M89 r90 hK91 hN92 => ?_)
          have hw := hK91 hN92
          have hk93 := Nk_.k hN92 hk81 (by decide)
          have hk94 := Nk_.k hN92 hk82 (by decide)
          have hT95 := Nk_.tr hT83 hN92
          refine r_if_lt (tgt := 119) g dL_law_99 (by decide) (fun hc96 => ?_) (fun hc96 => ?_)
          · have hw := hw.1 hc96
            refine r_iconst (v := 0) g dL_law_119 (by decide) ?_
            obtain ⟨h97, h98, hw⟩ := hw
            exact r_lawret g hr hargs hM0 hK1 h97 h98 hQ dL_law_120 hw
          · have hw := hw.2 hc96
            refine r_aload_n g dL_law_102 rfl 2 rfl ?_
            obtain ⟨h99, h100, hw⟩ := hw
            refine r_callVi (As := []) g (fun sz => mt_X10_costWithout hw sz) tw_527 tw_530 tw_1 tw_528 tw_529 (ci := 11) (T := TX10) (N := 6) rfl hk94 hy_X10_costWithout ⟨rfl, rfl⟩ (Nat.le_of_ble_eq_true rfl) (Nat.le_of_ble_eq_true rfl) h99 h100 (Nat.le_of_ble_eq_true rfl) rfl dL_law_103 (fun M101 r102 hK103 hN104 => ?_)
            have hw := hK103 hN104
            have hk105 := Nk_.k hN104 hk93 (by decide)
            have hk106 := Nk_.k hN104 hk94 (by decide)
            have hT107 := Nk_.tr hT95 hN104
            refine r_if_lt (tgt := 119) g dL_law_106 (by decide) (fun hc108 => ?_) (fun hc108 => ?_)
            · have hw := hw.1 hc108
              refine r_iconst (v := 0) g dL_law_119 (by decide) ?_
              obtain ⟨h109, h110, hw⟩ := hw
              exact r_lawret g hr hargs hM0 hK1 h109 h110 hQ dL_law_120 hw
            · have hw := hw.2 hc108
              refine r_aload_n g dL_law_109 rfl 2 rfl ?_
              obtain ⟨h111, h112, hw⟩ := hw
              refine r_callVl (As := []) g (fun sz => mt_X10_digest hw sz) tw_619 tw_622 tw_1 tw_620 tw_621 (ci := 11) (T := TX10) (N := 6) rfl hk106 hy_X10_digest ⟨rfl, rfl⟩ (Nat.le_of_ble_eq_true rfl) (Nat.le_of_ble_eq_true rfl) h111 h112 (Nat.le_of_ble_eq_true rfl) rfl dL_law_110 (fun M113 r114 hK115 hN116 => ?_)
              have hw := hK115 hN116
              have hk117 := Nk_.k hN116 hk105 (by decide)
              have hk118 := Nk_.k hN116 hk106 (by decide)
              have hT119 := Nk_.tr hT107 hN116
              refine r_lload g dL_law_113 0 rfl ?_
              refine r_lcmp_eq (tgt := 121) g dL_law_115 dL_law_116 (by decide) (fun hc120 => ?_) (fun hc120 => ?_)
              · have hw := hw.1 hc120
                refine r_aload_n g dL_law_121 rfl 2 rfl ?_
                refine r_iload_n g dL_law_122 rfl 3 rfl ?_
                obtain ⟨h121, h122, hw⟩ := hw
                refine r_callSz (As := [.ref a1, .int x2]) g (fun sz => mt_L_isSearchSound hw sz) tw_1028 tw_1030 tw_0 tw_1029 hy_L_isSearchSound ⟨rfl, rfl⟩ (Nat.le_of_ble_eq_true rfl) (Nat.le_of_ble_eq_true rfl) h121 h122 (Nat.le_of_ble_eq_true rfl) rfl dL_law_123 (fun M123 r124 hK125 hb127 hN126 => ?_)
                have hw := hK125 hN126 hb127
                have hk128 := Nk_.k hN126 hk117 (by decide)
                have hk129 := Nk_.k hN126 hk118 (by decide)
                have hT130 := Nk_.tr hT119 hN126
                refine r_if_ne (tgt := 131) g dL_law_126 (by decide) (fun hc131 => ?_) (fun hc131 => ?_)
                · have hw := hw.2 hc131
                  refine r_iinc (v := x3 + (1 : Int32)) (L' := [(3, .int (x3 + (1 : Int32))), (4, .long r68), (0, .ref a0), (1, .ref a1), (2, .int x2)]) g dL_law_131 4 rfl rfl (by decide) rfl ?_
                  refine r_goto (tgt := 40) g dL_law_134 (by decide) ?_
                  exact V_.sub (ih E (x3 + (1 : Int32)) (uc + 22) (ud + 1082) _ hw hk128 hk129 (fun c9 d9 M9 hE9 hN9 => kE c9 d9 M9 hE9 (Nk_.tr hT130 hN9))) [2, 3, 4, 0] rfl
                · have hw := hw.1 hc131
                  refine r_iconst (v := 0) g dL_law_129 (by decide) ?_
                  obtain ⟨h132, h133, hw⟩ := hw
                  exact r_lawret g hr hargs hM0 hK1 h132 h133 hQ dL_law_130 hw
              · have hw := hw.2 hc120
                refine r_iconst (v := 0) g dL_law_119 (by decide) ?_
                obtain ⟨h134, h135, hw⟩ := hw
                exact r_lawret g hr hargs hM0 hK1 h134 h135 hQ dL_law_120 hw
      · have hw := hw.2 hc64
        refine r_goto (tgt := 131) g dL_law_78 (by decide) ?_
        refine r_iinc (v := x3 + (1 : Int32)) (L' := [(3, .int (x3 + (1 : Int32))), (0, .ref a0), (1, .ref a1), (2, .int x2)]) g dL_law_131 3 rfl rfl (by decide) rfl ?_
        refine r_goto (tgt := 40) g dL_law_134 (by decide) ?_
        exact V_.sub (ih E (x3 + (1 : Int32)) (uc + 21) (ud + 482) _ hw hk61 hk62 (fun c9 d9 M9 hE9 hN9 => kE c9 d9 M9 hE9 (Nk_.tr hT63 hN9))) [1, 2, 3, 0] rfl
set_option maxHeartbeats 4000000 in
set_option maxRecDepth 100000 in
theorem vt_L_law {p : Program} {l : Launch} (hfl : l.stackTraces = false) {e : Env} {s : State} {m : MethodId} {args : Array Value} {below : List Frame} {meth : Method} {c : Code} {D : Dd_} {M : Mm} {Q : State → Prop} {a0 : Nat} {K : Mm → Int32 → Prop} (g : G_ p s m args meth c code 6 RL D M) (hr : meth.sig.returnType = ret) {b : Nat} (hargs : args = #[Value.ref b]) (hM0 : ∀ a, kd_ M a = 0 ∨ 30 ≤ kd_ M a) (hK1 : ∀ M r, K M r → r = 1) (hQ : Q = lw_Z below args s) (hw : wp_L_law a0 M K) : V_ p l e room_1 s m args below meth c 6 D M Q 0 [(0, .ref a0)] [] M 0 0 := by
  obtain ⟨hp0, hw⟩ := hw
  refine r_new (ci := 11) (C := RX10) (T := TX10) (N := 6) g rfl tc_X10 tyX10 tyX10_ok tw_27 tw_28 tw_1 td_X10 (Nat.le_of_ble_eq_true rfl) (Nat.le_of_ble_eq_true rfl) dL_law_0 (fun q1 h2 hq3 => ?_)
  have hw := hw q1 h2 hq3 _ rfl
  have hk5 := Nk_.k (Nk_nw_ (c := 12) (n := 0) hq3) hp0 (by decide)
  have hT6 := Nk_.tr (Nk_.rf _) (Nk_nw_ (c := 12) (n := 0) hq3)
  have hk7 := kd_nq_ M q1 12 0
  refine r_dup g dL_law_3 rfl ?_
  refine r_callIv (As := []) g (fun sz => mt_X10_init hw sz) tw_29 tw_31 tw_1 tw_30 rfl hy_X10_init ⟨rfl, rfl⟩ (Nat.le_of_ble_eq_true rfl) (Nat.le_of_ble_eq_true rfl) (Nat.le_of_ble_eq_true rfl) (Nat.le_of_ble_eq_true rfl) (Nat.le_of_ble_eq_true rfl) rfl dL_law_4 (fun M8 hK9 hN10 => ?_)
  have hw := hK9 hN10
  have hk11 := Nk_.k hN10 hk5 (by decide)
  have hk12 := Nk_.k hN10 hk7 (by decide)
  have hT13 := Nk_.tr hT6 hN10
  refine r_astore_n (L' := [(1, .ref q1), (0, .ref a0)]) g dL_law_7 rfl (by decide) rfl ?_
  refine r_iconst (v := 1) g dL_law_8 (by decide) ?_
  refine r_aload_n g dL_law_9 rfl 1 rfl ?_
  refine r_iconst (v := 0) g dL_law_10 (by decide) ?_
  refine r_callSi (As := [.ref a0, .int (0 : Int32)]) g (fun sz => mt_L_cell hw sz) tw_664 tw_666 tw_0 tw_665 hy_L_cell ⟨rfl, rfl⟩ (Nat.le_of_ble_eq_true rfl) (Nat.le_of_ble_eq_true rfl) (Nat.le_of_ble_eq_true rfl) (Nat.le_of_ble_eq_true rfl) (Nat.le_of_ble_eq_true rfl) rfl dL_law_11 (fun M14 r15 hK16 hN17 => ?_)
  have hw := hK16 hN17
  have hk18 := Nk_.k hN17 hk12 (by decide)
  have hk19 := Nk_.k hN17 hk11 (by decide)
  have hT20 := Nk_.tr hT13 hN17
  refine r_iconst (v := 3) g dL_law_14 (by decide) ?_
  refine r_callSi (As := [.int r15, .int (3 : Int32)]) g (fun sz => mt_L_below hw sz) tw_660 tw_662 tw_0 tw_661 hy_L_below ⟨rfl, rfl⟩ (Nat.le_of_ble_eq_true rfl) (Nat.le_of_ble_eq_true rfl) (Nat.le_of_ble_eq_true rfl) (Nat.le_of_ble_eq_true rfl) (Nat.le_of_ble_eq_true rfl) rfl dL_law_15 (fun M21 r22 hK23 hN24 => ?_)
  have hw := hK23 hN24
  have hk25 := Nk_.k hN24 hk18 (by decide)
  have hk26 := Nk_.k hN24 hk19 (by decide)
  have hT27 := Nk_.tr hT20 hN24
  refine r_iadd g dL_law_18 ?_
  refine r_istore_n (L' := [(2, .int ((1 : Int32) + r22)), (1, .ref q1), (0, .ref a0)]) g dL_law_19 rfl (by decide) rfl ?_
  refine r_iconst (v := 0) g dL_law_20 (by decide) ?_
  refine r_istore_n (L' := [(3, .int (0 : Int32)), (2, .int ((1 : Int32) + r22)), (1, .ref q1), (0, .ref a0)]) g dL_law_21 rfl (by decide) rfl ?_
  obtain ⟨n38, hw⟩ := hw
  refine V_.sub (lo_L_law_22 g hr hfl hargs hM0 hK1 hQ n38 _ (0 : Int32) 85 6273 _ hw hk26 hk25 (fun c41 d42 M39 hE hN40 => ?_)) [3, 2, 1, 0] rfl
  have hw := hE hN40
  have hk43 := Nk_.k hN40 hk26 (by decide)
  have hk44 := Nk_.k hN40 hk25 (by decide)
  have hT45 := Nk_.tr hT27 hN40
  refine r_iconst (v := 0) g dL_law_38 (by decide) ?_
  refine r_istore_n (L' := [(3, .int (0 : Int32)), (0, .ref a0), (1, .ref q1), (2, .int ((1 : Int32) + r22))]) g dL_law_39 rfl (by decide) rfl ?_
  obtain ⟨n136, hw⟩ := hw
  refine V_.sub (lo_L_law_40 g hr hfl hargs hM0 hK1 hQ n136 _ (0 : Int32) c41 d42 _ hw hk43 hk44 (fun c139 d140 M137 hE hN138 => ?_)) [1, 2, 3, 0] rfl
  have hw := hE hN138
  have hT141 := Nk_.tr hT45 hN138
  refine r_iconst (v := 1) g dL_law_137 (by decide) ?_
  obtain ⟨h142, h143, hw⟩ := hw
  exact r_lawret g hr hargs hM0 hK1 h142 h143 hQ dL_law_138 hw
