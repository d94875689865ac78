/-! walks by program: 12.zone -/
def rmX2_init : Room := { frames := 1, cells := 0, slots := 0, locals := 12 }
theorem hy_X2_init : yX2_init.cls ≠ "java/lang/invoke/MethodHandle" ∧ yX2_init.cls ≠ "java/lang/invoke/VarHandle" ∧ (parseMethodDescriptor yX2_init.desc).map (fun d => d.parameters.length) = some 0 := by decide +kernel
def wp_X2_init (a0 : Nat) (M : Mm) (K : Mm → Prop) : Prop := kd_ M a0 = 4 ∧ K M
set_option maxHeartbeats 4000000 in
set_option maxRecDepth 100000 in
theorem mt_X2_init {l : Launch} {D : Dd_} {M : Mm} {a0 : Nat} {K : Mm → Prop} (hw : wp_X2_init a0 M K) (sz : Nat) : Met l yX2_init (Cond.code yX2_init cX2_init 1 none :: tbG_) rmX2_init (cPc_ D M sz [.ref a0]) (va_Qv (fun M' => K M') (cB_ D M sz) (Aw_ M sz)) 0 0 (Aw_ M sz) := by
  refine ofV (by decide) (Nat.le_of_ble_eq_true rfl) ?_
  intro p e s m below meth c g hr hin hsz
  subst hsz
  have hin := hin rfl
  obtain ⟨hp0, hw⟩ := hw
  refine r_aload_n g dX2_init_0 rfl 0 rfl ?_
  refine r_oinit g tw_229 tw_33 tw_34 dX2_init_1 (Nat.le_of_ble_eq_true rfl) (Nat.le_of_ble_eq_true rfl) ?_
  exact r_vret g hr (Nat.le_of_ble_eq_true rfl) (Nat.le_of_ble_eq_true rfl) rfl dX2_init_4 hw
def rmX2_state : Room := { frames := 0, cells := 0, slots := 0, locals := 0 }
theorem hy_X2_state : yX2_state.cls ≠ "java/lang/invoke/MethodHandle" ∧ yX2_state.cls ≠ "java/lang/invoke/VarHandle" ∧ (parseMethodDescriptor yX2_state.desc).map (fun d => d.parameters.length) = some 3 := by decide +kernel
def wp_X2_state (a0 : Nat) (x1 : Int32) (x2 : Int32) (x3 : Int32) (M : Mm) (K : Mm → Prop) : Prop := kd_ M a0 = 4 ∧ (∀ M1, M1 = sI_ M a0 0 x1 → (∀ M2, M2 = sI_ M1 a0 1 x2 → (∀ M3, M3 = sI_ M2 a0 2 x3 → K M3)))
set_option maxHeartbeats 4000000 in
set_option maxRecDepth 100000 in
theorem mt_X2_state {l : Launch} {D : Dd_} {M : Mm} {a0 : Nat} {x1 : Int32} {x2 : Int32} {x3 : Int32} {K : Mm → Prop} (hw : wp_X2_state a0 x1 x2 x3 M K) (sz : Nat) : Met l yX2_state (Cond.code yX2_state cX2_state 4 none :: tbG_) rmX2_state (cPc_ D M sz [.ref a0, .int x1, .int x2, .int x3]) (va_Qv (fun M' => K M') (cB_ D M sz) (Aw_ M sz)) 0 0 (Aw_ M sz) := by
  refine ofV (by decide) (Nat.le_of_ble_eq_true rfl) ?_
  intro p e s m below meth c g hr hin hsz
  subst hsz
  obtain ⟨hp0, hw⟩ := hw
  refine r_aload_n g dX2_state_0 rfl 0 rfl ?_
  refine r_iload_n g dX2_state_1 rfl 1 rfl ?_
  refine r_ptI (C := RX2) (T := TX2) (N := 3) g (ci := 3) rfl tc_X2 tyX2 tyX2_ok nmX2 hp0 0 (by decide) tw_230 (fun _ h => h) rfl rfl rfl rfl dX2_state_2 ?_
  have hw := hw _ rfl
  refine r_aload_n g dX2_state_5 rfl 0 rfl ?_
  refine r_iload_n g dX2_state_6 rfl 2 rfl ?_
  refine r_ptI (C := RX2) (T := TX2) (N := 3) g (ci := 3) rfl tc_X2 tyX2 tyX2_ok nmX2 hp0 1 (by decide) tw_232 (fun _ h => h) rfl rfl rfl rfl dX2_state_7 ?_
  have hw := hw _ rfl
  refine r_aload_n g dX2_state_10 rfl 0 rfl ?_
  refine r_iload_n g dX2_state_11 rfl 3 rfl ?_
  refine r_ptI (C := RX2) (T := TX2) (N := 3) g (ci := 3) rfl tc_X2 tyX2 tyX2_ok nmX2 hp0 2 (by decide) tw_233 (fun _ h => h) rfl rfl rfl rfl dX2_state_12 ?_
  have hw := hw _ rfl
  exact r_vret g hr (Nat.le_of_ble_eq_true rfl) (Nat.le_of_ble_eq_true rfl) rfl dX2_state_15 hw
def rmX2_isMetBy : Room := { frames := 0, cells := 0, slots := 0, locals := 0 }
theorem hy_X2_isMetBy : yX2_isMetBy.cls ≠ "java/lang/invoke/MethodHandle" ∧ yX2_isMetBy.cls ≠ "java/lang/invoke/VarHandle" ∧ (parseMethodDescriptor yX2_isMetBy.desc).map (fun d => d.parameters.length) = some 2 := by decide +kernel
def wp_X2_isMetBy (a0 : Nat) (x1 : Int32) (x2 : Int32) (M : Mm) (K : Mm → Int32 → Prop) : Prop := kd_ M a0 = 4 ∧ (((it_ M a0 1) = 0 → ((x1 = 0 → ((x2 = (it_ M a0 2) → (K M (1 : Int32))) ∧ (¬ x2 = (it_ M a0 2) → (K M (0 : Int32))))) ∧ (¬ x1 = 0 → (K M (0 : Int32))))) ∧ ((it_ M a0 1) = 1 → ((x1 = 0 → ((x2 = (it_ M a0 2) → (K M (0 : Int32))) ∧ (¬ x2 = (it_ M a0 2) → (K M (1 : Int32))))) ∧ (¬ x1 = 0 → (K M (0 : Int32))))) ∧ ((it_ M a0 1) = 2 → ((x1 = 0 → (((it_ M a0 2) ≤ x2 → (K M (0 : Int32))) ∧ (¬ (it_ M a0 2) ≤ x2 → (K M (1 : Int32))))) ∧ (¬ x1 = 0 → (K M (0 : Int32))))) ∧ ((it_ M a0 1) = 3 → ((x1 = 0 → (((it_ M a0 2) < x2 → (K M (0 : Int32))) ∧ (¬ (it_ M a0 2) < x2 → (K M (1 : Int32))))) ∧ (¬ x1 = 0 → (K M (0 : Int32))))) ∧ ((it_ M a0 1) = 4 → ((x1 = 0 → ((x2 ≤ (it_ M a0 2) → (K M (0 : Int32))) ∧ (¬ x2 ≤ (it_ M a0 2) → (K M (1 : Int32))))) ∧ (¬ x1 = 0 → (K M (0 : Int32))))) ∧ ((it_ M a0 1) = 5 → ((x1 = 0 → ((x2 < (it_ M a0 2) → (K M (0 : Int32))) ∧ (¬ x2 < (it_ M a0 2) → (K M (1 : Int32))))) ∧ (¬ x1 = 0 → (K M (0 : Int32))))) ∧ ((it_ M a0 1) = 6 → (bz_ x1 ∧ K M x1)) ∧ ((it_ M a0 1) = 7 → ((x1 = 0 → (K M (1 : Int32))) ∧ (¬ x1 = 0 → (K M (0 : Int32))))) ∧ (¬ (it_ M a0 1) = 0 → ¬ (it_ M a0 1) = 1 → ¬ (it_ M a0 1) = 2 → ¬ (it_ M a0 1) = 3 → ¬ (it_ M a0 1) = 4 → ¬ (it_ M a0 1) = 5 → ¬ (it_ M a0 1) = 6 → ¬ (it_ M a0 1) = 7 → (K M (0 : Int32))))
set_option maxHeartbeats 4000000 in
set_option maxRecDepth 100000 in
theorem mt_X2_isMetBy {l : Launch} {D : Dd_} {M : Mm} {a0 : Nat} {x1 : Int32} {x2 : Int32} {K : Mm → Int32 → Prop} (hw : wp_X2_isMetBy a0 x1 x2 M K) (sz : Nat) : Met l yX2_isMetBy (Cond.code yX2_isMetBy cX2_isMetBy 3 (some .boolean) :: tbG_) rmX2_isMetBy (cPc_ D M sz [.ref a0, .int x1, .int x2]) (va_Qi (fun r M' => K M' r ∧ bz_ r) (cB_ D M sz) (Aw_ M sz)) 0 0 (Aw_ M sz) := by
  refine ofV (by decide) (Nat.le_of_ble_eq_true rfl) ?_
  intro p e s m below meth c g hr hin hsz
  subst hsz
  obtain ⟨hp0, hw⟩ := hw
  refine r_aload_n g dX2_isMetBy_0 rfl 0 rfl ?_
  refine r_gt (C := RX2) (T := TX2) (N := 3) g (ci := 3) rfl tc_X2 hp0 1 (by decide) tw_232 (fun _ h => h) rfl dX2_isMetBy_1 ?_
  by_cases hs1 : (it_ M a0 1) = 0
  · have hw := hw.1 hs1
    refine r_tsi (v := 0) (j := 0) (tgt := 52) g dX2_isMetBy_4 hs1 (by decide) (by decide) (by decide) (by decide) ?_
    refine r_iload_n g dX2_isMetBy_52 rfl 1 rfl ?_
    refine r_if_ne (tgt := 68) g dX2_isMetBy_53 (by decide) (fun hc2 => ?_) (fun hc2 => ?_)
    · have hw := hw.2 hc2
      refine r_iconst (v := 0) g dX2_isMetBy_68 (by decide) ?_
      exact r_zret g hr (Nat.le_of_ble_eq_true rfl) (Nat.le_of_ble_eq_true rfl) rfl (Or.inl rfl) dX2_isMetBy_69 hw
    · have hw := hw.1 hc2
      refine r_iload_n g dX2_isMetBy_56 rfl 2 rfl ?_
      refine r_aload_n g dX2_isMetBy_57 rfl 0 rfl ?_
      refine r_gt (C := RX2) (T := TX2) (N := 3) g (ci := 3) rfl tc_X2 hp0 2 (by decide) tw_233 (fun _ h => h) rfl dX2_isMetBy_58 ?_
      refine r_icmp_ne (tgt := 68) g dX2_isMetBy_61 (by decide) (fun hc3 => ?_) (fun hc3 => ?_)
      · have hw := hw.2 hc3
        refine r_iconst (v := 0) g dX2_isMetBy_68 (by decide) ?_
        exact r_zret g hr (Nat.le_of_ble_eq_true rfl) (Nat.le_of_ble_eq_true rfl) rfl (Or.inl rfl) dX2_isMetBy_69 hw
      · have hw := hw.1 hc3
        refine r_iconst (v := 1) g dX2_isMetBy_64 (by decide) ?_
        refine r_goto (tgt := 69) g dX2_isMetBy_65 (by decide) ?_
        exact r_zret g hr (Nat.le_of_ble_eq_true rfl) (Nat.le_of_ble_eq_true rfl) rfl (Or.inr rfl) dX2_isMetBy_69 hw
  · by_cases hs4 : (it_ M a0 1) = 1
    · have hw := hw.2.1 hs4
      refine r_tsi (v := 1) (j := 1) (tgt := 70) g dX2_isMetBy_4 hs4 (by decide) (by decide) (by decide) (by decide) ?_
      refine r_iload_n g dX2_isMetBy_70 rfl 1 rfl ?_
      refine r_if_ne (tgt := 86) g dX2_isMetBy_71 (by decide) (fun hc5 => ?_) (fun hc5 => ?_)
      · have hw := hw.2 hc5
        refine r_iconst (v := 0) g dX2_isMetBy_86 (by decide) ?_
        exact r_zret g hr (Nat.le_of_ble_eq_true rfl) (Nat.le_of_ble_eq_true rfl) rfl (Or.inl rfl) dX2_isMetBy_87 hw
      · have hw := hw.1 hc5
        refine r_iload_n g dX2_isMetBy_74 rfl 2 rfl ?_
        refine r_aload_n g dX2_isMetBy_75 rfl 0 rfl ?_
        refine r_gt (C := RX2) (T := TX2) (N := 3) g (ci := 3) rfl tc_X2 hp0 2 (by decide) tw_233 (fun _ h => h) rfl dX2_isMetBy_76 ?_
        refine r_icmp_eq (tgt := 86) g dX2_isMetBy_79 (by decide) (fun hc6 => ?_) (fun hc6 => ?_)
        · have hw := hw.1 hc6
          refine r_iconst (v := 0) g dX2_isMetBy_86 (by decide) ?_
          exact r_zret g hr (Nat.le_of_ble_eq_true rfl) (Nat.le_of_ble_eq_true rfl) rfl (Or.inl rfl) dX2_isMetBy_87 hw
        · have hw := hw.2 hc6
          refine r_iconst (v := 1) g dX2_isMetBy_82 (by decide) ?_
          refine r_goto (tgt := 87) g dX2_isMetBy_83 (by decide) ?_
          exact r_zret g hr (Nat.le_of_ble_eq_true rfl) (Nat.le_of_ble_eq_true rfl) rfl (Or.inr rfl) dX2_isMetBy_87 hw
    · by_cases hs7 : (it_ M a0 1) = 2
      · have hw := hw.2.2.1 hs7
        refine r_tsi (v := 2) (j := 2) (tgt := 88) g dX2_isMetBy_4 hs7 (by decide) (by decide) (by decide) (by decide) ?_
        refine r_iload_n g dX2_isMetBy_88 rfl 1 rfl ?_
        refine r_if_ne (tgt := 104) g dX2_isMetBy_89 (by decide) (fun hc8 => ?_) (fun hc8 => ?_)
        · have hw := hw.2 hc8
          refine r_iconst (v := 0) g dX2_isMetBy_104 (by decide) ?_
          exact r_zret g hr (Nat.le_of_ble_eq_true rfl) (Nat.le_of_ble_eq_true rfl) rfl (Or.inl rfl) dX2_isMetBy_105 hw
        · have hw := hw.1 hc8
          refine r_iload_n g dX2_isMetBy_92 rfl 2 rfl ?_
          refine r_aload_n g dX2_isMetBy_93 rfl 0 rfl ?_
          refine r_gt (C := RX2) (T := TX2) (N := 3) g (ci := 3) rfl tc_X2 hp0 2 (by decide) tw_233 (fun _ h => h) rfl dX2_isMetBy_94 ?_
          refine r_icmp_ge (tgt := 104) g dX2_isMetBy_97 (by decide) (fun hc9 => ?_) (fun hc9 => ?_)
          · have hw := hw.1 hc9
            refine r_iconst (v := 0) g dX2_isMetBy_104 (by decide) ?_
            exact r_zret g hr (Nat.le_of_ble_eq_true rfl) (Nat.le_of_ble_eq_true rfl) rfl (Or.inl rfl) dX2_isMetBy_105 hw
          · have hw := hw.2 hc9
            refine r_iconst (v := 1) g dX2_isMetBy_100 (by decide) ?_
            refine r_goto (tgt := 105) g dX2_isMetBy_101 (by decide) ?_
            exact r_zret g hr (Nat.le_of_ble_eq_true rfl) (Nat.le_of_ble_eq_true rfl) rfl (Or.inr rfl) dX2_isMetBy_105 hw
      · by_cases hs10 : (it_ M a0 1) = 3
        · have hw := hw.2.2.2.1 hs10
          refine r_tsi (v := 3) (j := 3) (tgt := 106) g dX2_isMetBy_4 hs10 (by decide) (by decide) (by decide) (by decide) ?_
          refine r_iload_n g dX2_isMetBy_106 rfl 1 rfl ?_
          refine r_if_ne (tgt := 122) g dX2_isMetBy_107 (by decide) (fun hc11 => ?_) (fun hc11 => ?_)
          · have hw := hw.2 hc11
            refine r_iconst (v := 0) g dX2_isMetBy_122 (by decide) ?_
            exact r_zret g hr (Nat.le_of_ble_eq_true rfl) (Nat.le_of_ble_eq_true rfl) rfl (Or.inl rfl) dX2_isMetBy_123 hw
          · have hw := hw.1 hc11
            refine r_iload_n g dX2_isMetBy_110 rfl 2 rfl ?_
            refine r_aload_n g dX2_isMetBy_111 rfl 0 rfl ?_
            refine r_gt (C := RX2) (T := TX2) (N := 3) g (ci := 3) rfl tc_X2 hp0 2 (by decide) tw_233 (fun _ h => h) rfl dX2_isMetBy_112 ?_
            refine r_icmp_gt (tgt := 122) g dX2_isMetBy_115 (by decide) (fun hc12 => ?_) (fun hc12 => ?_)
            · have hw := hw.1 hc12
              refine r_iconst (v := 0) g dX2_isMetBy_122 (by decide) ?_
              exact r_zret g hr (Nat.le_of_ble_eq_true rfl) (Nat.le_of_ble_eq_true rfl) rfl (Or.inl rfl) dX2_isMetBy_123 hw
            · have hw := hw.2 hc12
              refine r_iconst (v := 1) g dX2_isMetBy_118 (by decide) ?_
              refine r_goto (tgt := 123) g dX2_isMetBy_119 (by decide) ?_
              exact r_zret g hr (Nat.le_of_ble_eq_true rfl) (Nat.le_of_ble_eq_true rfl) rfl (Or.inr rfl) dX2_isMetBy_123 hw
        · by_cases hs13 : (it_ M a0 1) = 4
          · have hw := hw.2.2.2.2.1 hs13
            refine r_tsi (v := 4) (j := 4) (tgt := 124) g dX2_isMetBy_4 hs13 (by decide) (by decide) (by decide) (by decide) ?_
            refine r_iload_n g dX2_isMetBy_124 rfl 1 rfl ?_
            refine r_if_ne (tgt := 140) g dX2_isMetBy_125 (by decide) (fun hc14 => ?_) (fun hc14 => ?_)
            · have hw := hw.2 hc14
              refine r_iconst (v := 0) g dX2_isMetBy_140 (by decide) ?_
              exact r_zret g hr (Nat.le_of_ble_eq_true rfl) (Nat.le_of_ble_eq_true rfl) rfl (Or.inl rfl) dX2_isMetBy_141 hw
            · have hw := hw.1 hc14
              refine r_iload_n g dX2_isMetBy_128 rfl 2 rfl ?_
              refine r_aload_n g dX2_isMetBy_129 rfl 0 rfl ?_
              refine r_gt (C := RX2) (T := TX2) (N := 3) g (ci := 3) rfl tc_X2 hp0 2 (by decide) tw_233 (fun _ h => h) rfl dX2_isMetBy_130 ?_
              refine r_icmp_le (tgt := 140) g dX2_isMetBy_133 (by decide) (fun hc15 => ?_) (fun hc15 => ?_)
              · have hw := hw.1 hc15
                refine r_iconst (v := 0) g dX2_isMetBy_140 (by decide) ?_
                exact r_zret g hr (Nat.le_of_ble_eq_true rfl) (Nat.le_of_ble_eq_true rfl) rfl (Or.inl rfl) dX2_isMetBy_141 hw
              · have hw := hw.2 hc15
                refine r_iconst (v := 1) g dX2_isMetBy_136 (by decide) ?_
                refine r_goto (tgt := 141) g dX2_isMetBy_137 (by decide) ?_
                exact r_zret g hr (Nat.le_of_ble_eq_true rfl) (Nat.le_of_ble_eq_true rfl) rfl (Or.inr rfl) dX2_isMetBy_141 hw
          · by_cases hs16 : (it_ M a0 1) = 5
            · have hw := hw.2.2.2.2.2.1 hs16
              refine r_tsi (v := 5) (j := 5) (tgt := 142) g dX2_isMetBy_4 hs16 (by decide) (by decide) (by decide) (by decide) ?_
              refine r_iload_n g dX2_isMetBy_142 rfl 1 rfl ?_
              refine r_if_ne (tgt := 158) g dX2_isMetBy_143 (by decide) (fun hc17 => ?_) (fun hc17 => ?_)
              · have hw := hw.2 hc17
                refine r_iconst (v := 0) g dX2_isMetBy_158 (by decide) ?_
                exact r_zret g hr (Nat.le_of_ble_eq_true rfl) (Nat.le_of_ble_eq_true rfl) rfl (Or.inl rfl) dX2_isMetBy_159 hw
              · have hw := hw.1 hc17
                refine r_iload_n g dX2_isMetBy_146 rfl 2 rfl ?_
                refine r_aload_n g dX2_isMetBy_147 rfl 0 rfl ?_
                refine r_gt (C := RX2) (T := TX2) (N := 3) g (ci := 3) rfl tc_X2 hp0 2 (by decide) tw_233 (fun _ h => h) rfl dX2_isMetBy_148 ?_
                refine r_icmp_lt (tgt := 158) g dX2_isMetBy_151 (by decide) (fun hc18 => ?_) (fun hc18 => ?_)
                · have hw := hw.1 hc18
                  refine r_iconst (v := 0) g dX2_isMetBy_158 (by decide) ?_
                  exact r_zret g hr (Nat.le_of_ble_eq_true rfl) (Nat.le_of_ble_eq_true rfl) rfl (Or.inl rfl) dX2_isMetBy_159 hw
                · have hw := hw.2 hc18
                  refine r_iconst (v := 1) g dX2_isMetBy_154 (by decide) ?_
                  refine r_goto (tgt := 159) g dX2_isMetBy_155 (by decide) ?_
                  exact r_zret g hr (Nat.le_of_ble_eq_true rfl) (Nat.le_of_ble_eq_true rfl) rfl (Or.inr rfl) dX2_isMetBy_159 hw
            · by_cases hs19 : (it_ M a0 1) = 6
              · have hw := hw.2.2.2.2.2.2.1 hs19
                refine r_tsi (v := 6) (j := 6) (tgt := 160) g dX2_isMetBy_4 hs19 (by decide) (by decide) (by decide) (by decide) ?_
                refine r_iload_n g dX2_isMetBy_160 rfl 1 rfl ?_
                obtain ⟨hb20, hw⟩ := hw
                exact r_zret g hr (Nat.le_of_ble_eq_true rfl) (Nat.le_of_ble_eq_true rfl) rfl hb20 dX2_isMetBy_161 hw
              · by_cases hs21 : (it_ M a0 1) = 7
                · have hw := hw.2.2.2.2.2.2.2.1 hs21
                  refine r_tsi (v := 7) (j := 7) (tgt := 162) g dX2_isMetBy_4 hs21 (by decide) (by decide) (by decide) (by decide) ?_
                  refine r_iload_n g dX2_isMetBy_162 rfl 1 rfl ?_
                  refine r_if_ne (tgt := 170) g dX2_isMetBy_163 (by decide) (fun hc22 => ?_) (fun hc22 => ?_)
                  · have hw := hw.2 hc22
                    refine r_iconst (v := 0) g dX2_isMetBy_170 (by decide) ?_
                    exact r_zret g hr (Nat.le_of_ble_eq_true rfl) (Nat.le_of_ble_eq_true rfl) rfl (Or.inl rfl) dX2_isMetBy_171 hw
                  · have hw := hw.1 hc22
                    refine r_iconst (v := 1) g dX2_isMetBy_166 (by decide) ?_
                    refine r_goto (tgt := 171) g dX2_isMetBy_167 (by decide) ?_
                    exact r_zret g hr (Nat.le_of_ble_eq_true rfl) (Nat.le_of_ble_eq_true rfl) rfl (Or.inr rfl) dX2_isMetBy_171 hw
                · have hw := hw.2.2.2.2.2.2.2.2 hs1 hs4 hs7 hs10 hs13 hs16 hs19 hs21
                  refine r_tsd (tgt := 172) g dX2_isMetBy_4 (sw_out8_0 hs1 hs4 hs7 hs10 hs13 hs16 hs19 hs21) (by decide) ?_
                  refine r_iconst (v := 0) g dX2_isMetBy_172 (by decide) ?_
                  exact r_zret g hr (Nat.le_of_ble_eq_true rfl) (Nat.le_of_ble_eq_true rfl) rfl (Or.inl rfl) dX2_isMetBy_173 hw
def rmX9_init : Room := { frames := 1, cells := 1, slots := 16, locals := 12 }
theorem hy_X9_init : yX9_init.cls ≠ "java/lang/invoke/MethodHandle" ∧ yX9_init.cls ≠ "java/lang/invoke/VarHandle" ∧ (parseMethodDescriptor yX9_init.desc).map (fun d => d.parameters.length) = some 0 := by decide +kernel
def wp_X9_init (a0 : Nat) (M : Mm) (K : Mm → Prop) : Prop := kd_ M a0 = 11 ∧ ((∀ q1, q1 ≠ 0 → kd_ M q1 = 0 → ∀ M4, M4 = nw_ M q1 20 (ix_ (16 : Int32)) → (∀ M8, M8 = sR_ M4 a0 7 q1 → K M8)))
set_option maxHeartbeats 4000000 in
set_option maxRecDepth 100000 in
theorem mt_X9_init {l : Launch} {D : Dd_} {M : Mm} {a0 : Nat} {K : Mm → Prop} (hw : wp_X9_init a0 M K) (sz : Nat) : Met l yX9_init (Cond.code yX9_init cX9_init 1 none :: tbG_) rmX9_init (cPc_ D M sz [.ref a0]) (va_Qv (fun M' => K M') (cB_ D M sz) (Aw_ M sz)) 1 16 (Aw_ M sz) := by
  refine ofV (by decide) (Nat.le_of_ble_eq_true rfl) ?_
  intro p e s m below meth c g hr hin hsz
  subst hsz
  have hin := hin rfl
  obtain ⟨hp0, hw⟩ := hw
  refine r_aload_n g dX9_init_0 rfl 0 rfl ?_
  refine r_oinit g tw_95 tw_33 tw_34 dX9_init_1 (Nat.le_of_ble_eq_true rfl) (Nat.le_of_ble_eq_true rfl) ?_
  refine r_aload_n g dX9_init_4 rfl 0 rfl ?_
  refine r_bipush (v := 16) g dX9_init_5 (by decide) ?_
  refine r_newI g tw_81 (by decide) (Nat.le_of_ble_eq_true rfl) (Nat.le_of_ble_eq_true rfl) (Nat.le_of_ble_eq_true rfl) dX9_init_7 (fun q1 h2 hq3 => ?_)
  have hw := hw q1 h2 hq3 _ rfl
  have hk5 := kd_nw_ (c := 20) (n := ix_ (16 : Int32)) hq3 hp0 (by decide)
  have hT6 := Nk_.tr (Nk_.rf _) (Nk_nw_ (c := 20) (n := ix_ (16 : Int32)) hq3)
  have hk7 := kd_nq_ M q1 20 (ix_ (16 : Int32))
  refine r_ptFx (C := RX9) (T := TX9) (N := 9) g (ci := 10) rfl tc_X9 tyX9 tyX9_ok nmX9 hk5 7 (by decide) tw_118 (fun _ h => h) rfl hin rfl rfl (k_ne hk7 (by decide)) rfl rfl dX9_init_9 ?_
  have hw := hw _ rfl
  exact r_vret g hr (Nat.le_of_ble_eq_true rfl) (Nat.le_of_ble_eq_true rfl) rfl dX9_init_12 hw
def rmX9_bytesFor : Room := { frames := 0, cells := 0, slots := 0, locals := 0 }
theorem hy_X9_bytesFor : yX9_bytesFor.cls ≠ "java/lang/invoke/MethodHandle" ∧ yX9_bytesFor.cls ≠ "java/lang/invoke/VarHandle" ∧ (parseMethodDescriptor yX9_bytesFor.desc).map (fun d => d.parameters.length) = some 1 := by decide +kernel
def wp_X9_bytesFor (x0 : Int32) (M : Mm) (K : Mm → Int32 → Prop) : Prop := (K M ((x0 + (7 : Int32)) / (8 : Int32)))
set_option maxHeartbeats 4000000 in
set_option maxRecDepth 100000 in
theorem mt_X9_bytesFor {l : Launch} {D : Dd_} {M : Mm} {x0 : Int32} {K : Mm → Int32 → Prop} (hw : wp_X9_bytesFor x0 M K) (sz : Nat) : Met l yX9_bytesFor (Cond.code yX9_bytesFor cX9_bytesFor 1 (some .int) :: tbG_) rmX9_bytesFor (cPc_ D M sz [.int x0]) (va_Qi (fun r M' => K M' r) (cB_ D M sz) (Aw_ M sz)) 0 0 (Aw_ M sz) := by
  refine ofV (by decide) (Nat.le_of_ble_eq_true rfl) ?_
  intro p e s m below meth c g hr hin hsz
  subst hsz
  refine r_iload_n g dX9_bytesFor_0 rfl 0 rfl ?_
  refine r_bipush (v := 7) g dX9_bytesFor_1 (by decide) ?_
  refine r_iadd g dX9_bytesFor_3 ?_
  refine r_bipush (v := 8) g dX9_bytesFor_4 (by decide) ?_
  refine r_idiv g dX9_bytesFor_6 (by decide) ?_
  exact r_iret g hr (Nat.le_of_ble_eq_true rfl) (Nat.le_of_ble_eq_true rfl) rfl dX9_bytesFor_7 hw
def rmX9_bits : Room := { frames := 0, cells := 0, slots := 0, locals := 0 }
theorem hy_X9_bits : yX9_bits.cls ≠ "java/lang/invoke/MethodHandle" ∧ yX9_bits.cls ≠ "java/lang/invoke/VarHandle" ∧ (parseMethodDescriptor yX9_bits.desc).map (fun d => d.parameters.length) = some 1 := by decide +kernel
def lp_X9_bits_2 (y0 : Int64) (K : Mm → Int32 → Prop) (E : Int32 → Mm → Prop) : Nat → Int32 → Mm → Prop
  | 0, _, _ => False
  | n + 1, x2, M => (((62 : Int32) ≤ x2 → E x2 M) ∧ (¬ (62 : Int32) ≤ x2 → (((y0 >>> (x2.toInt64 &&& 63)) ≤ (0 : Int64) → E x2 M) ∧ (¬ (y0 >>> (x2.toInt64 &&& 63)) ≤ (0 : Int64) → lp_X9_bits_2 y0 K E n (x2 + (1 : Int32)) M))))
def wp_X9_bits (y0 : Int64) (M : Mm) (K : Mm → Int32 → Prop) : Prop := (∃ n5 : Nat, lp_X9_bits_2 y0 K (fun xv3 M4 => Nk_ M M4 → (K M4 xv3)) n5 (0 : Int32) M)
set_option maxHeartbeats 4000000 in
set_option maxRecDepth 100000 in
theorem lo_X9_bits_2 {p : Program} {l : Launch} {e : Env} {s : State} {m : MethodId} {args : Array Value} {below : List Frame} {meth : Method} {c : Code} {D : Dd_} {M0 : Mm} {Q : State → Prop} {K : Mm → Int32 → Prop} (g : G_ p s m args meth c cX9_bits 3 RX9 D M0) (hr : meth.sig.returnType = some .int) (hQ : Q = MQ below (va_Qi (fun r M' => K M' r) (cB_ D M0 s.heap.size) (Aw_ M0 s.heap.size)) args s 0 0 (Aw_ M0 s.heap.size)) {y0 : Int64} : ∀ (n : Nat) (E : Int32 → Mm → Prop) (x2 : Int32) (M : Mm), lp_X9_bits_2 y0 K E n x2 M → (∀ (v2 : Int32) (M' : Mm), E v2 M' → Nk_ M M' → V_ p l e rmX9_bits s m args below meth c 3 D M0 Q 22 [(2, .int v2)] [] M' 0 0) → V_ p l e rmX9_bits s m args below meth c 3 D M0 Q 2 [(0, .long y0), (2, .int x2)] [] M 0 0 := by
  intro n
  induction n with
  | zero =>
    intro E x2 M hw
    exact hw.elim
  | succ n ih =>
    intro E x2 M hw  kE
    refine r_iload_n g dX9_bits_2 rfl 1 rfl ?_
    refine r_bipush (v := 62) g dX9_bits_3 (by decide) ?_
    refine r_icmp_ge (tgt := 22) g dX9_bits_5 (by decide) (fun hc1 => ?_) (fun hc1 => ?_)
    · have hw := hw.1 hc1
      exact V_.sub (kE x2 _ hw (Nk_.rf _)) [1] rfl
    · have hw := hw.2 hc1
      refine r_lload_n g dX9_bits_8 rfl 0 rfl ?_
      refine r_iload_n g dX9_bits_9 rfl 1 rfl ?_
      refine r_lshr g dX9_bits_10 ?_
      refine r_lconst (v := 0) g dX9_bits_11 (by decide) ?_
      refine r_lcmp_le (tgt := 22) g dX9_bits_12 dX9_bits_13 (by decide) (fun hc2 => ?_) (fun hc2 => ?_)
      · have hw := hw.1 hc2
        exact V_.sub (kE x2 _ hw (Nk_.rf _)) [1] rfl
      · have hw := hw.2 hc2
        refine r_iinc (v := x2 + (1 : Int32)) (L' := [(2, .int (x2 + (1 : Int32))), (0, .long y0)]) g dX9_bits_16 1 rfl rfl (by decide) rfl ?_
        refine r_goto (tgt := 2) g dX9_bits_19 (by decide) ?_
        exact V_.sub (ih E (x2 + (1 : Int32)) _ hw  (fun v2 M9 hE9 hN9 => kE v2 M9 hE9 (Nk_.tr (Nk_.rf _) hN9))) [1, 0] rfl
set_option maxHeartbeats 4000000 in
set_option maxRecDepth 100000 in
theorem mt_X9_bits {l : Launch} {D : Dd_} {M : Mm} {y0 : Int64} {K : Mm → Int32 → Prop} (hw : wp_X9_bits y0 M K) (sz : Nat) : Met l yX9_bits (Cond.code yX9_bits cX9_bits 3 (some .int) :: tbG_) rmX9_bits (cPc_ D M sz [.long y0]) (va_Qi (fun r M' => K M' r) (cB_ D M sz) (Aw_ M sz)) 0 0 (Aw_ M sz) := by
  refine ofV (by decide) (Nat.le_of_ble_eq_true rfl) ?_
  intro p e s m below meth c g hr hin hsz
  subst hsz
  refine r_iconst (v := 0) g dX9_bits_0 (by decide) ?_
  refine r_istore_n (L' := [(2, .int (0 : Int32)), (0, .long y0)]) g dX9_bits_1 rfl (by decide) rfl ?_
  obtain ⟨n5, hw⟩ := hw
  refine V_.sub (lo_X9_bits_2 g hr rfl n5 _ (0 : Int32) _ hw  (fun xv3 M4 hE hN6 => ?_)) [1, 0] rfl
  have hw := hE hN6
  have hT7 := Nk_.tr (Nk_.rf _) hN6
  refine r_iload_n g dX9_bits_22 rfl 0 rfl ?_
  exact r_iret g hr (Nat.le_of_ble_eq_true rfl) (Nat.le_of_ble_eq_true rfl) rfl dX9_bits_23 hw
def rmX9_widthFor : Room := { frames := 1, cells := 0, slots := 0, locals := 22 }
theorem hy_X9_widthFor : yX9_widthFor.cls ≠ "java/lang/invoke/MethodHandle" ∧ yX9_widthFor.cls ≠ "java/lang/invoke/VarHandle" ∧ (parseMethodDescriptor yX9_widthFor.desc).map (fun d => d.parameters.length) = some 1 := by decide +kernel
def wp_X9_widthFor (a0 : Nat) (y1 : Int64) (M : Mm) (K : Mm → Int32 → Prop) : Prop := kd_ M a0 = 11 ∧ (((it_ M a0 1) = 0 → (wp_X9_bits y1 M (fun M2 r3 => Nk_ M M2 → (K M2 r3)))) ∧ (¬ (it_ M a0 1) = 0 → (wp_X9_bits (y1 + (1 : Int64)) M (fun M8 r9 => Nk_ M M8 → (K M8 r9)))))
set_option maxHeartbeats 4000000 in
set_option maxRecDepth 100000 in
theorem mt_X9_widthFor {l : Launch} {D : Dd_} {M : Mm} {a0 : Nat} {y1 : Int64} {K : Mm → Int32 → Prop} (hw : wp_X9_widthFor a0 y1 M K) (sz : Nat) : Met l yX9_widthFor (Cond.code yX9_widthFor cX9_widthFor 3 (some .int) :: tbG_) rmX9_widthFor (cPc_ D M sz [.ref a0, .long y1]) (va_Qi (fun r M' => K M' r) (cB_ D M sz) (Aw_ M sz)) 0 0 (Aw_ M sz) := by
  refine ofV (by decide) (Nat.le_of_ble_eq_true rfl) ?_
  intro p e s m below meth c g hr hin hsz
  subst hsz
  obtain ⟨hp0, hw⟩ := hw
  refine r_aload_n g dX9_widthFor_0 rfl 0 rfl ?_
  refine r_gt (C := RX9) (T := TX9) (N := 9) g (ci := 10) rfl tc_X9 hp0 1 (by decide) tw_98 (fun _ h => h) rfl dX9_widthFor_1 ?_
  refine r_if_ne (tgt := 11) g dX9_widthFor_4 (by decide) (fun hc1 => ?_) (fun hc1 => ?_)
  · have hw := hw.2 hc1
    refine r_lload_n g dX9_widthFor_11 rfl 1 rfl ?_
    refine r_lconst (v := 1) g dX9_widthFor_12 (by decide) ?_
    refine r_ladd g dX9_widthFor_13 ?_
    refine r_callSi (As := [.long (y1 + (1 : Int64))]) g (fun sz => mt_X9_bits hw sz) tw_807 tw_809 tw_8 tw_808 hy_X9_bits ⟨rfl, rfl⟩ (Nat.le_of_ble_eq_true rfl) (Nat.le_of_ble_eq_true rfl) (Nat.le_of_ble_eq_true rfl) (Nat.le_of_ble_eq_true rfl) (Nat.le_of_ble_eq_true rfl) rfl dX9_widthFor_14 (fun M8 r9 hK10 hN11 => ?_)
    have hw := hK10 hN11
    have hk12 := Nk_.k hN11 hp0 (by decide)
    have hT13 := Nk_.tr (Nk_.rf _) hN11
    exact r_iret g hr (Nat.le_of_ble_eq_true rfl) (Nat.le_of_ble_eq_true rfl) rfl dX9_widthFor_17 hw
  · have hw := hw.1 hc1
    refine r_lload_n g dX9_widthFor_7 rfl 1 rfl ?_
    refine r_goto (tgt := 14) g dX9_widthFor_8 (by decide) ?_
    refine r_callSi (As := [.long y1]) g (fun sz => mt_X9_bits hw sz) tw_807 tw_809 tw_8 tw_808 hy_X9_bits ⟨rfl, rfl⟩ (Nat.le_of_ble_eq_true rfl) (Nat.le_of_ble_eq_true rfl) (Nat.le_of_ble_eq_true rfl) (Nat.le_of_ble_eq_true rfl) (Nat.le_of_ble_eq_true rfl) rfl dX9_widthFor_14 (fun M2 r3 hK4 hN5 => ?_)
    have hw := hK4 hN5
    have hk6 := Nk_.k hN5 hp0 (by decide)
    have hT7 := Nk_.tr (Nk_.rf _) hN5
    exact r_iret g hr (Nat.le_of_ble_eq_true rfl) (Nat.le_of_ble_eq_true rfl) rfl dX9_widthFor_17 hw
def rmX9_bytesIn : Room := { frames := 2, cells := 0, slots := 0, locals := 44 }
theorem hy_X9_bytesIn : yX9_bytesIn.cls ≠ "java/lang/invoke/MethodHandle" ∧ yX9_bytesIn.cls ≠ "java/lang/invoke/VarHandle" ∧ (parseMethodDescriptor yX9_bytesIn.desc).map (fun d => d.parameters.length) = some 1 := by decide +kernel
def wp_X9_bytesIn (a0 : Nat) (x1 : Int32) (M : Mm) (K : Mm → Int32 → Prop) : Prop := kd_ M a0 = 11 ∧ ((x1 = 0 → (((it_ M a0 1) = 0 → (K M (((4 : Int32) * (it_ M a0 0)) + (0 : Int32)))) ∧ (¬ (it_ M a0 1) = 0 → (wp_X9_bytesFor (it_ M a0 0) M (fun M3 r4 => Nk_ M M3 → (K M3 (((4 : Int32) * (it_ M a0 0)) + r4))))))) ∧ (x1 = 1 → (((it_ M a0 2) = 0 → (K M (-1 : Int32))) ∧ (¬ (it_ M a0 2) = 0 → (wp_X9_widthFor a0 (((it_ M a0 5).toInt64) - ((it_ M a0 4).toInt64)) M (fun M11 r12 => Nk_ M M11 → (wp_X9_bytesFor ((it_ M a0 0) * r12) M11 (fun M17 r18 => Nk_ M11 M17 → (K M17 ((9 : Int32) + r18))))))))) ∧ (x1 = 2 → (K M ((6 : Int32) * (it_ M a0 3)))) ∧ (x1 = 3 → (wp_X9_widthFor a0 (((it_ M a0 2) - (1 : Int32)).toInt64) M (fun M25 r26 => Nk_ M M25 → (wp_X9_bytesFor ((it_ M a0 0) * r26) M25 (fun M31 r32 => Nk_ M25 M31 → (K M31 (((2 : Int32) + ((4 : Int32) * (it_ M a0 2))) + r32))))))) ∧ (x1 = 4 → (((it_ M a0 1) = 0 → (wp_X9_bits (lg_ M a0 8) M (fun M39 r40 => Nk_ M M39 → (wp_X9_bytesFor (((it_ M a0 0) - (1 : Int32)) * r40) M39 (fun M45 r46 => Nk_ M39 M45 → (K M45 ((9 : Int32) + r46))))))) ∧ (¬ (it_ M a0 1) = 0 → (K M (-1 : Int32))))) ∧ (¬ x1 = 0 → ¬ x1 = 1 → ¬ x1 = 2 → ¬ x1 = 3 → ¬ x1 = 4 → (K M (-1 : Int32))))
set_option maxHeartbeats 4000000 in
set_option maxRecDepth 100000 in
theorem mt_X9_bytesIn {l : Launch} {D : Dd_} {M : Mm} {a0 : Nat} {x1 : Int32} {K : Mm → Int32 → Prop} (hw : wp_X9_bytesIn a0 x1 M K) (sz : Nat) : Met l yX9_bytesIn (Cond.code yX9_bytesIn cX9_bytesIn 2 (some .int) :: tbG_) rmX9_bytesIn (cPc_ D M sz [.ref a0, .int x1]) (va_Qi (fun r M' => K M' r) (cB_ D M sz) (Aw_ M sz)) 0 0 (Aw_ M sz) := by
  refine ofV (by decide) (Nat.le_of_ble_eq_true rfl) ?_
  intro p e s m below meth c g hr hin hsz
  subst hsz
  obtain ⟨hp0, hw⟩ := hw
  refine r_iload_n g dX9_bytesIn_0 rfl 1 rfl ?_
  by_cases hs1 : x1 = 0
  · have hw := hw.1 hs1
    refine r_tsi (v := 0) (j := 0) (tgt := 36) g dX9_bytesIn_1 hs1 (by decide) (by decide) (by decide) (by decide) ?_
    refine r_iconst (v := 4) g dX9_bytesIn_36 (by decide) ?_
    refine r_aload_n g dX9_bytesIn_37 rfl 0 rfl ?_
    refine r_gt (C := RX9) (T := TX9) (N := 9) g (ci := 10) rfl tc_X9 hp0 0 (by decide) tw_96 (fun _ h => h) rfl dX9_bytesIn_38 ?_
    refine r_imul g dX9_bytesIn_41 ?_
    refine r_aload_n g dX9_bytesIn_42 rfl 0 rfl ?_
    refine r_gt (C := RX9) (T := TX9) (N := 9) g (ci := 10) rfl tc_X9 hp0 1 (by decide) tw_98 (fun _ h => h) rfl dX9_bytesIn_43 ?_
    refine r_if_ne (tgt := 53) g dX9_bytesIn_46 (by decide) (fun hc2 => ?_) (fun hc2 => ?_)
    · have hw := hw.2 hc2
      refine r_aload_n g dX9_bytesIn_53 rfl 0 rfl ?_
      refine r_gt (C := RX9) (T := TX9) (N := 9) g (ci := 10) rfl tc_X9 hp0 0 (by decide) tw_96 (fun _ h => h) rfl dX9_bytesIn_54 ?_
      refine r_callSi (As := [.int (it_ M a0 0)]) g (fun sz => mt_X9_bytesFor hw sz) tw_644 tw_646 tw_8 tw_645 hy_X9_bytesFor ⟨rfl, rfl⟩ (Nat.le_of_ble_eq_true rfl) (Nat.le_of_ble_eq_true rfl) (Nat.le_of_ble_eq_true rfl) (Nat.le_of_ble_eq_true rfl) (Nat.le_of_ble_eq_true rfl) rfl dX9_bytesIn_57 (fun M3 r4 hK5 hN6 => ?_)
      have hw := hK5 hN6
      have hk7 := Nk_.k hN6 hp0 (by decide)
      have hT8 := Nk_.tr (Nk_.rf _) hN6
      refine r_iadd g dX9_bytesIn_60 ?_
      exact r_iret g hr (Nat.le_of_ble_eq_true rfl) (Nat.le_of_ble_eq_true rfl) rfl dX9_bytesIn_61 hw
    · have hw := hw.1 hc2
      refine r_iconst (v := 0) g dX9_bytesIn_49 (by decide) ?_
      refine r_goto (tgt := 60) g dX9_bytesIn_50 (by decide) ?_
      refine r_iadd g dX9_bytesIn_60 ?_
      exact r_iret g hr (Nat.le_of_ble_eq_true rfl) (Nat.le_of_ble_eq_true rfl) rfl dX9_bytesIn_61 hw
  · by_cases hs9 : x1 = 1
    · have hw := hw.2.1 hs9
      refine r_tsi (v := 1) (j := 1) (tgt := 62) g dX9_bytesIn_1 hs9 (by decide) (by decide) (by decide) (by decide) ?_
      refine r_aload_n g dX9_bytesIn_62 rfl 0 rfl ?_
      refine r_gt (C := RX9) (T := TX9) (N := 9) g (ci := 10) rfl tc_X9 hp0 2 (by decide) tw_101 (fun _ h => h) rfl dX9_bytesIn_63 ?_
      refine r_if_ne (tgt := 73) g dX9_bytesIn_66 (by decide) (fun hc10 => ?_) (fun hc10 => ?_)
      · have hw := hw.2 hc10
        refine r_bipush (v := 9) g dX9_bytesIn_73 (by decide) ?_
        refine r_aload_n g dX9_bytesIn_75 rfl 0 rfl ?_
        refine r_gt (C := RX9) (T := TX9) (N := 9) g (ci := 10) rfl tc_X9 hp0 0 (by decide) tw_96 (fun _ h => h) rfl dX9_bytesIn_76 ?_
        refine r_aload_n g dX9_bytesIn_79 rfl 0 rfl ?_
        refine r_aload_n g dX9_bytesIn_80 rfl 0 rfl ?_
        refine r_gt (C := RX9) (T := TX9) (N := 9) g (ci := 10) rfl tc_X9 hp0 5 (by decide) tw_111 (fun _ h => h) rfl dX9_bytesIn_81 ?_
        refine r_i2l g dX9_bytesIn_84 ?_
        refine r_aload_n g dX9_bytesIn_85 rfl 0 rfl ?_
        refine r_gt (C := RX9) (T := TX9) (N := 9) g (ci := 10) rfl tc_X9 hp0 4 (by decide) tw_108 (fun _ h => h) rfl dX9_bytesIn_86 ?_
        refine r_i2l g dX9_bytesIn_89 ?_
        refine r_lsub g dX9_bytesIn_90 ?_
        refine r_callVi (As := [.long (((it_ M a0 5).toInt64) - ((it_ M a0 4).toInt64))]) g (fun sz => mt_X9_widthFor hw sz) tw_803 tw_806 tw_8 tw_805 tp_23 (ci := 10) (T := TX9) (N := 9) rfl hp0 hy_X9_widthFor ⟨rfl, rfl⟩ (Nat.le_of_ble_eq_true rfl) (Nat.le_of_ble_eq_true rfl) (Nat.le_of_ble_eq_true rfl) (Nat.le_of_ble_eq_true rfl) (Nat.le_of_ble_eq_true rfl) rfl dX9_bytesIn_91 (fun M11 r12 hK13 hN14 => ?_)
        have hw := hK13 hN14
        have hk15 := Nk_.k hN14 hp0 (by decide)
        have hT16 := Nk_.tr (Nk_.rf _) hN14
        refine r_imul g dX9_bytesIn_94 ?_
        refine r_callSi (As := [.int ((it_ M a0 0) * r12)]) g (fun sz => mt_X9_bytesFor hw sz) tw_644 tw_646 tw_8 tw_645 hy_X9_bytesFor ⟨rfl, rfl⟩ (Nat.le_of_ble_eq_true rfl) (Nat.le_of_ble_eq_true rfl) (Nat.le_of_ble_eq_true rfl) (Nat.le_of_ble_eq_true rfl) (Nat.le_of_ble_eq_true rfl) rfl dX9_bytesIn_95 (fun M17 r18 hK19 hN20 => ?_)
        have hw := hK19 hN20
        have hk21 := Nk_.k hN20 hk15 (by decide)
        have hT22 := Nk_.tr hT16 hN20
        refine r_iadd g dX9_bytesIn_98 ?_
        exact r_iret g hr (Nat.le_of_ble_eq_true rfl) (Nat.le_of_ble_eq_true rfl) rfl dX9_bytesIn_99 hw
      · have hw := hw.1 hc10
        refine r_iconst (v := -1) g dX9_bytesIn_69 (by decide) ?_
        refine r_goto (tgt := 99) g dX9_bytesIn_70 (by decide) ?_
        exact r_iret g hr (Nat.le_of_ble_eq_true rfl) (Nat.le_of_ble_eq_true rfl) rfl dX9_bytesIn_99 hw
    · by_cases hs23 : x1 = 2
      · have hw := hw.2.2.1 hs23
        refine r_tsi (v := 2) (j := 2) (tgt := 100) g dX9_bytesIn_1 hs23 (by decide) (by decide) (by decide) (by decide) ?_
        refine r_bipush (v := 6) g dX9_bytesIn_100 (by decide) ?_
        refine r_aload_n g dX9_bytesIn_102 rfl 0 rfl ?_
        refine r_gt (C := RX9) (T := TX9) (N := 9) g (ci := 10) rfl tc_X9 hp0 3 (by decide) tw_105 (fun _ h => h) rfl dX9_bytesIn_103 ?_
        refine r_imul g dX9_bytesIn_106 ?_
        exact r_iret g hr (Nat.le_of_ble_eq_true rfl) (Nat.le_of_ble_eq_true rfl) rfl dX9_bytesIn_107 hw
      · by_cases hs24 : x1 = 3
        · have hw := hw.2.2.2.1 hs24
          refine r_tsi (v := 3) (j := 3) (tgt := 108) g dX9_bytesIn_1 hs24 (by decide) (by decide) (by decide) (by decide) ?_
          refine r_iconst (v := 2) g dX9_bytesIn_108 (by decide) ?_
          refine r_iconst (v := 4) g dX9_bytesIn_109 (by decide) ?_
          refine r_aload_n g dX9_bytesIn_110 rfl 0 rfl ?_
          refine r_gt (C := RX9) (T := TX9) (N := 9) g (ci := 10) rfl tc_X9 hp0 2 (by decide) tw_101 (fun _ h => h) rfl dX9_bytesIn_111 ?_
          refine r_imul g dX9_bytesIn_114 ?_
          refine r_iadd g dX9_bytesIn_115 ?_
          refine r_aload_n g dX9_bytesIn_116 rfl 0 rfl ?_
          refine r_gt (C := RX9) (T := TX9) (N := 9) g (ci := 10) rfl tc_X9 hp0 0 (by decide) tw_96 (fun _ h => h) rfl dX9_bytesIn_117 ?_
          refine r_aload_n g dX9_bytesIn_120 rfl 0 rfl ?_
          refine r_aload_n g dX9_bytesIn_121 rfl 0 rfl ?_
          refine r_gt (C := RX9) (T := TX9) (N := 9) g (ci := 10) rfl tc_X9 hp0 2 (by decide) tw_101 (fun _ h => h) rfl dX9_bytesIn_122 ?_
          refine r_iconst (v := 1) g dX9_bytesIn_125 (by decide) ?_
          refine r_isub g dX9_bytesIn_126 ?_
          refine r_i2l g dX9_bytesIn_127 ?_
          refine r_callVi (As := [.long (((it_ M a0 2) - (1 : Int32)).toInt64)]) g (fun sz => mt_X9_widthFor hw sz) tw_803 tw_806 tw_8 tw_805 tp_23 (ci := 10) (T := TX9) (N := 9) rfl hp0 hy_X9_widthFor ⟨rfl, rfl⟩ (Nat.le_of_ble_eq_true rfl) (Nat.le_of_ble_eq_true rfl) (Nat.le_of_ble_eq_true rfl) (Nat.le_of_ble_eq_true rfl) (Nat.le_of_ble_eq_true rfl) rfl dX9_bytesIn_128 (fun M25 r26 hK27 hN28 => ?_)
          have hw := hK27 hN28
          have hk29 := Nk_.k hN28 hp0 (by decide)
          have hT30 := Nk_.tr (Nk_.rf _) hN28
          refine r_imul g dX9_bytesIn_131 ?_
          refine r_callSi (As := [.int ((it_ M a0 0) * r26)]) g (fun sz => mt_X9_bytesFor hw sz) tw_644 tw_646 tw_8 tw_645 hy_X9_bytesFor ⟨rfl, rfl⟩ (Nat.le_of_ble_eq_true rfl) (Nat.le_of_ble_eq_true rfl) (Nat.le_of_ble_eq_true rfl) (Nat.le_of_ble_eq_true rfl) (Nat.le_of_ble_eq_true rfl) rfl dX9_bytesIn_132 (fun M31 r32 hK33 hN34 => ?_)
          have hw := hK33 hN34
          have hk35 := Nk_.k hN34 hk29 (by decide)
          have hT36 := Nk_.tr hT30 hN34
          refine r_iadd g dX9_bytesIn_135 ?_
          exact r_iret g hr (Nat.le_of_ble_eq_true rfl) (Nat.le_of_ble_eq_true rfl) rfl dX9_bytesIn_136 hw
        · by_cases hs37 : x1 = 4
          · have hw := hw.2.2.2.2.1 hs37
            refine r_tsi (v := 4) (j := 4) (tgt := 137) g dX9_bytesIn_1 hs37 (by decide) (by decide) (by decide) (by decide) ?_
            refine r_aload_n g dX9_bytesIn_137 rfl 0 rfl ?_
            refine r_gt (C := RX9) (T := TX9) (N := 9) g (ci := 10) rfl tc_X9 hp0 1 (by decide) tw_98 (fun _ h => h) rfl dX9_bytesIn_138 ?_
            refine r_if_eq (tgt := 148) g dX9_bytesIn_141 (by decide) (fun hc38 => ?_) (fun hc38 => ?_)
            · have hw := hw.1 hc38
              refine r_bipush (v := 9) g dX9_bytesIn_148 (by decide) ?_
              refine r_aload_n g dX9_bytesIn_150 rfl 0 rfl ?_
              refine r_gt (C := RX9) (T := TX9) (N := 9) g (ci := 10) rfl tc_X9 hp0 0 (by decide) tw_96 (fun _ h => h) rfl dX9_bytesIn_151 ?_
              refine r_iconst (v := 1) g dX9_bytesIn_154 (by decide) ?_
              refine r_isub g dX9_bytesIn_155 ?_
              refine r_aload_n g dX9_bytesIn_156 rfl 0 rfl ?_
              refine r_gt (C := RX9) (T := TX9) (N := 9) g (ci := 10) rfl tc_X9 hp0 8 (by decide) tw_119 (fun _ h => h) rfl dX9_bytesIn_157 ?_
              refine r_callSi (As := [.long (lg_ M a0 8)]) g (fun sz => mt_X9_bits hw sz) tw_807 tw_809 tw_8 tw_808 hy_X9_bits ⟨rfl, rfl⟩ (Nat.le_of_ble_eq_true rfl) (Nat.le_of_ble_eq_true rfl) (Nat.le_of_ble_eq_true rfl) (Nat.le_of_ble_eq_true rfl) (Nat.le_of_ble_eq_true rfl) rfl dX9_bytesIn_160 (fun M39 r40 hK41 hN42 => ?_)
              have hw := hK41 hN42
              have hk43 := Nk_.k hN42 hp0 (by decide)
              have hT44 := Nk_.tr (Nk_.rf _) hN42
              refine r_imul g dX9_bytesIn_163 ?_
              refine r_callSi (As := [.int (((it_ M a0 0) - (1 : Int32)) * r40)]) g (fun sz => mt_X9_bytesFor hw sz) tw_644 tw_646 tw_8 tw_645 hy_X9_bytesFor ⟨rfl, rfl⟩ (Nat.le_of_ble_eq_true rfl) (Nat.le_of_ble_eq_true rfl) (Nat.le_of_ble_eq_true rfl) (Nat.le_of_ble_eq_true rfl) (Nat.le_of_ble_eq_true rfl) rfl dX9_bytesIn_164 (fun M45 r46 hK47 hN48 => ?_)
              have hw := hK47 hN48
              have hk49 := Nk_.k hN48 hk43 (by decide)
              have hT50 := Nk_.tr hT44 hN48
              refine r_iadd g dX9_bytesIn_167 ?_
              exact r_iret g hr (Nat.le_of_ble_eq_true rfl) (Nat.le_of_ble_eq_true rfl) rfl dX9_bytesIn_168 hw
            · have hw := hw.2 hc38
              refine r_iconst (v := -1) g dX9_bytesIn_144 (by decide) ?_
              refine r_goto (tgt := 168) g dX9_bytesIn_145 (by decide) ?_
              exact r_iret g hr (Nat.le_of_ble_eq_true rfl) (Nat.le_of_ble_eq_true rfl) rfl dX9_bytesIn_168 hw
          · have hw := hw.2.2.2.2.2 hs1 hs9 hs23 hs24 hs37
            refine r_tsd (tgt := 169) g dX9_bytesIn_1 (sw_out5_0 hs1 hs9 hs23 hs24 hs37) (by decide) ?_
            refine r_iconst (v := -1) g dX9_bytesIn_169 (by decide) ?_
            exact r_iret g hr (Nat.le_of_ble_eq_true rfl) (Nat.le_of_ble_eq_true rfl) rfl dX9_bytesIn_170 hw
def rmX9_countValues : Room := { frames := 1, cells := 0, slots := 0, locals := 22 }
theorem hy_X9_countValues : yX9_countValues.cls ≠ "java/lang/invoke/MethodHandle" ∧ yX9_countValues.cls ≠ "java/lang/invoke/VarHandle" ∧ (parseMethodDescriptor yX9_countValues.desc).map (fun d => d.parameters.length) = some 2 := by decide +kernel
def lp_X9_countValues_12 (a0 : Nat) (a1 : Nat) (a2 : Nat) (K : Mm → Prop) (E : Mm → Prop) : Nat → Int32 → Mm → Prop
  | 0, _, _ => False
  | n + 1, x3, M => (((it_ M a0 0) ≤ x3 → E  M) ∧ (¬ (it_ M a0 0) ≤ x3 → (kd_ M (rf_ M a1 1) = 21 ∧ (vp_in x3 (ln_ M a2) ∧ (vp_in (it_ M a2 (ix_ x3)) (ln_ M (rf_ M a1 1)) ∧ (bz_ (it_ M (rf_ M a1 1) (ix_ (it_ M a2 (ix_ x3)))) → (((it_ M (rf_ M a1 1) (ix_ (it_ M a2 (ix_ x3)))) = 0 → ((x3 = 0 → (((16 : Int32) ≤ (it_ M a0 2) → (∀ M11, M11 = sI_ M a0 2 ((it_ M a0 2) + (1 : Int32)) → lp_X9_countValues_12 a0 a1 a2 K E n (x3 + (1 : Int32)) M11)) ∧ (¬ (16 : Int32) ≤ (it_ M a0 2) → (kd_ M (rf_ M a0 7) = 20 ∧ (kd_ M (rf_ M a1 0) = 20 ∧ (vp_in x3 (ln_ M a2) ∧ (vp_in (it_ M a2 (ix_ x3)) (ln_ M (rf_ M a1 0)) ∧ (vp_in (it_ M a0 2) (ln_ M (rf_ M a0 7)) ∧ (∀ M17, M17 = sI_ M (rf_ M a0 7) (ix_ (it_ M a0 2)) (it_ M (rf_ M a1 0) (ix_ (it_ M a2 (ix_ x3)))) → (∀ M18, M18 = sI_ M17 a0 2 ((it_ M17 a0 2) + (1 : Int32)) → lp_X9_countValues_12 a0 a1 a2 K E n (x3 + (1 : Int32)) M18)))))))))) ∧ (¬ x3 = 0 → (vp_in (x3 - (1 : Int32)) (ln_ M a2) ∧ (vp_in x3 (ln_ M a2) ∧ (wp_X1_isSame a1 (it_ M a2 (ix_ (x3 - (1 : Int32)))) (it_ M a2 (ix_ x3)) M (fun M21 r22 => Nk_ M M21 → bz_ r22 → ((r22 = 0 → (((16 : Int32) ≤ (it_ M21 a0 2) → (∀ M32, M32 = sI_ M21 a0 2 ((it_ M21 a0 2) + (1 : Int32)) → lp_X9_countValues_12 a0 a1 a2 K E n (x3 + (1 : Int32)) M32)) ∧ (¬ (16 : Int32) ≤ (it_ M21 a0 2) → (kd_ M21 (rf_ M21 a0 7) = 20 ∧ (kd_ M21 (rf_ M21 a1 0) = 20 ∧ (vp_in x3 (ln_ M21 a2) ∧ (vp_in (it_ M21 a2 (ix_ x3)) (ln_ M21 (rf_ M21 a1 0)) ∧ (vp_in (it_ M21 a0 2) (ln_ M21 (rf_ M21 a0 7)) ∧ (∀ M38, M38 = sI_ M21 (rf_ M21 a0 7) (ix_ (it_ M21 a0 2)) (it_ M21 (rf_ M21 a1 0) (ix_ (it_ M21 a2 (ix_ x3)))) → (∀ M39, M39 = sI_ M38 a0 2 ((it_ M38 a0 2) + (1 : Int32)) → lp_X9_countValues_12 a0 a1 a2 K E n (x3 + (1 : Int32)) M39)))))))))) ∧ (¬ r22 = 0 → lp_X9_countValues_12 a0 a1 a2 K E n (x3 + (1 : Int32)) M21))))))))) ∧ (¬ (it_ M (rf_ M a1 1) (ix_ (it_ M a2 (ix_ x3)))) = 0 → (∀ M40, M40 = sI_ M a0 1 ((it_ M a0 1) + (1 : Int32)) → lp_X9_countValues_12 a0 a1 a2 K E n (x3 + (1 : Int32)) M40)))))))))
def wp_X9_countValues (a0 : Nat) (a1 : Nat) (a2 : Nat) (M : Mm) (K : Mm → Prop) : Prop := kd_ M a0 = 11 ∧ kd_ M a1 = 3 ∧ kd_ M a2 = 20 ∧ (∀ M1, M1 = sI_ M a0 1 (0 : Int32) → (∀ M2, M2 = sI_ M1 a0 2 (0 : Int32) → (∃ n42 : Nat, lp_X9_countValues_12 a0 a1 a2 K (fun  M41 => Nk_ M2 M41 → K M41) n42 (0 : Int32) M2)))
set_option maxHeartbeats 4000000 in
set_option maxRecDepth 100000 in
theorem lo_X9_countValues_12 {p : Program} {l : Launch} {e : Env} {s : State} {m : MethodId} {args : Array Value} {below : List Frame} {meth : Method} {c : Code} {D : Dd_} {M0 : Mm} {Q : State → Prop} {K : Mm → Prop} (g : G_ p s m args meth c cX9_countValues 4 RX9 D M0) (hr : meth.sig.returnType = none) (hQ : Q = MQ below (va_Qv (fun M' => K M') (cB_ D M0 s.heap.size) (Aw_ M0 s.heap.size)) args s 0 0 (Aw_ M0 s.heap.size)) {a0 : Nat} {a1 : Nat} {a2 : Nat} : ∀ (n : Nat) (E : Mm → Prop) (x3 : Int32) (M : Mm), lp_X9_countValues_12 a0 a1 a2 K E n x3 M → kd_ M a0 = 11 → kd_ M a1 = 3 → kd_ M a2 = 20 → (∀  (M' : Mm), E  M' → Nk_ M M' → V_ p l e rmX9_countValues s m args below meth c 4 D M0 Q 105 [] [] M' 0 0) → V_ p l e rmX9_countValues s m args below meth c 4 D M0 Q 12 [(0, .ref a0), (1, .ref a1), (2, .ref a2), (3, .int x3)] [] M 0 0 := by
  intro n
  induction n with
  | zero =>
    intro E x3 M hw
    exact hw.elim
  | succ n ih =>
    intro E x3 M hw hp0 hp1 hp2 kE
    refine r_iload_n g dX9_countValues_12 rfl 3 rfl ?_
    refine r_aload_n g dX9_countValues_13 rfl 0 rfl ?_
    refine r_gt (C := RX9) (T := TX9) (N := 9) g (ci := 10) rfl tc_X9 hp0 0 (by decide) tw_96 (fun _ h => h) rfl dX9_countValues_14 ?_
    refine r_icmp_ge (tgt := 105) g dX9_countValues_17 (by decide) (fun hc3 => ?_) (fun hc3 => ?_)
    · have hw := hw.1 hc3
      exact V_.sub (kE  _ hw (Nk_.rf _)) [] rfl
    · have hw := hw.2 hc3
      refine r_aload_n g dX9_countValues_20 rfl 1 rfl ?_
      obtain ⟨hk4, hw⟩ := hw
      refine r_gtR (C := RX1) (T := TX1) (N := 5) g (ci := 2) rfl tc_X1 hp1 1 (by decide) tw_444 (fun _ h => h) rfl (k_ne hk4 (by decide)) dX9_countValues_21 ?_
      refine r_aload_n g dX9_countValues_24 rfl 2 rfl ?_
      refine r_iload_n g dX9_countValues_25 rfl 3 rfl ?_
      obtain ⟨hi5, hw⟩ := hw
      refine r_iald g (Or.inl hp2) hi5 dX9_countValues_26 ?_
      obtain ⟨hi6, hw⟩ := hw
      refine r_zald g hk4 hi6 dX9_countValues_27 (fun hb7 => ?_)
      have hw := hw hb7
      refine r_if_eq (tgt := 44) g dX9_countValues_28 (by decide) (fun hc8 => ?_) (fun hc8 => ?_)
      · have hw := hw.1 hc8
        refine r_iload_n g dX9_countValues_44 rfl 3 rfl ?_
        refine r_if_eq (tgt := 63) g dX9_countValues_45 (by decide) (fun hc9 => ?_) (fun hc9 => ?_)
        · have hw := hw.1 hc9
          refine r_aload_n g dX9_countValues_63 rfl 0 rfl ?_
          refine r_gt (C := RX9) (T := TX9) (N := 9) g (ci := 10) rfl tc_X9 hp0 2 (by decide) tw_101 (fun _ h => h) rfl dX9_countValues_64 ?_
          refine r_bipush (v := 16) g dX9_countValues_67 (by decide) ?_
          refine r_icmp_ge (tgt := 89) g dX9_countValues_69 (by decide) (fun hc10 => ?_) (fun hc10 => ?_)
          · have hw := hw.1 hc10
            refine r_aload_n g dX9_countValues_89 rfl 0 rfl ?_
            refine r_dup g dX9_countValues_90 rfl ?_
            refine r_gt (C := RX9) (T := TX9) (N := 9) g (ci := 10) rfl tc_X9 hp0 2 (by decide) tw_101 (fun _ h => h) rfl dX9_countValues_91 ?_
            refine r_iconst (v := 1) g dX9_countValues_94 (by decide) ?_
            refine r_iadd g dX9_countValues_95 ?_
            refine r_ptI (C := RX9) (T := TX9) (N := 9) g (ci := 10) rfl tc_X9 tyX9 tyX9_ok nmX9 hp0 2 (by decide) tw_101 (fun _ h => h) rfl rfl rfl rfl dX9_countValues_96 ?_
            have hw := hw _ rfl
            refine r_iinc (v := x3 + (1 : Int32)) (L' := [(3, .int (x3 + (1 : Int32))), (0, .ref a0), (1, .ref a1), (2, .ref a2)]) g dX9_countValues_99 3 rfl rfl (by decide) rfl ?_
            refine r_goto (tgt := 12) g dX9_countValues_102 (by decide) ?_
            exact V_.sub (ih E (x3 + (1 : Int32)) _ hw hp0 hp1 hp2 (fun  M9 hE9 hN9 => kE  M9 hE9 (Nk_.tr (Nk_.rf _) hN9))) [1, 2, 3, 0] rfl
          · have hw := hw.2 hc10
            refine r_aload_n g dX9_countValues_72 rfl 0 rfl ?_
            obtain ⟨hk12, hw⟩ := hw
            refine r_gtR (C := RX9) (T := TX9) (N := 9) g (ci := 10) rfl tc_X9 hp0 7 (by decide) tw_118 (fun _ h => h) rfl (k_ne hk12 (by decide)) dX9_countValues_73 ?_
            refine r_aload_n g dX9_countValues_76 rfl 0 rfl ?_
            refine r_gt (C := RX9) (T := TX9) (N := 9) g (ci := 10) rfl tc_X9 hp0 2 (by decide) tw_101 (fun _ h => h) rfl dX9_countValues_77 ?_
            refine r_aload_n g dX9_countValues_80 rfl 1 rfl ?_
            obtain ⟨hk13, hw⟩ := hw
            refine r_gtR (C := RX1) (T := TX1) (N := 5) g (ci := 2) rfl tc_X1 hp1 0 (by decide) tw_438 (fun _ h => h) rfl (k_ne hk13 (by decide)) dX9_countValues_81 ?_
            refine r_aload_n g dX9_countValues_84 rfl 2 rfl ?_
            refine r_iload_n g dX9_countValues_85 rfl 3 rfl ?_
            obtain ⟨hi14, hw⟩ := hw
            refine r_iald g (Or.inl hp2) hi14 dX9_countValues_86 ?_
            obtain ⟨hi15, hw⟩ := hw
            refine r_iald g (Or.inl hk13) hi15 dX9_countValues_87 ?_
            obtain ⟨hi16, hw⟩ := hw
            refine r_iast g hk12 hi16 dX9_countValues_88 ?_
            have hw := hw _ rfl
            refine r_aload_n g dX9_countValues_89 rfl 0 rfl ?_
            refine r_dup g dX9_countValues_90 rfl ?_
            refine r_gt (C := RX9) (T := TX9) (N := 9) g (ci := 10) rfl tc_X9 hp0 2 (by decide) tw_101 (fun _ h => h) rfl dX9_countValues_91 ?_
            refine r_iconst (v := 1) g dX9_countValues_94 (by decide) ?_
            refine r_iadd g dX9_countValues_95 ?_
            refine r_ptI (C := RX9) (T := TX9) (N := 9) g (ci := 10) rfl tc_X9 tyX9 tyX9_ok nmX9 hp0 2 (by decide) tw_101 (fun _ h => h) rfl rfl rfl rfl dX9_countValues_96 ?_
            have hw := hw _ rfl
            refine r_iinc (v := x3 + (1 : Int32)) (L' := [(3, .int (x3 + (1 : Int32))), (0, .ref a0), (1, .ref a1), (2, .ref a2)]) g dX9_countValues_99 3 rfl rfl (by decide) rfl ?_
            refine r_goto (tgt := 12) g dX9_countValues_102 (by decide) ?_
            exact V_.sub (ih E (x3 + (1 : Int32)) _ hw hp0 hp1 hp2 (fun  M9 hE9 hN9 => kE  M9 hE9 (Nk_.tr (Nk_.rf _) hN9))) [1, 2, 3, 0] rfl
        · have hw := hw.2 hc9
          refine r_aload_n g dX9_countValues_48 rfl 1 rfl ?_
          refine r_aload_n g dX9_countValues_49 rfl 2 rfl ?_
          refine r_iload_n g dX9_countValues_50 rfl 3 rfl ?_
          refine r_iconst (v := 1) g dX9_countValues_51 (by decide) ?_
          refine r_isub g dX9_countValues_52 ?_
          obtain ⟨hi19, hw⟩ := hw
          refine r_iald g (Or.inl hp2) hi19 dX9_countValues_53 ?_
          refine r_aload_n g dX9_countValues_54 rfl 2 rfl ?_
          refine r_iload_n g dX9_countValues_55 rfl 3 rfl ?_
          obtain ⟨hi20, hw⟩ := hw
          refine r_iald g (Or.inl hp2) hi20 dX9_countValues_56 ?_
          refine r_callVz (As := [.int (it_ M a2 (ix_ (x3 - (1 : Int32)))), .int (it_ M a2 (ix_ x3))]) g (fun sz => mt_X1_isSame hw sz) tw_786 tw_789 tw_18 tw_787 tw_788 (ci := 2) (T := TX1) (N := 5) rfl hp1 hy_X1_isSame ⟨rfl, rfl⟩ (Nat.le_of_ble_eq_true rfl) (Nat.le_of_ble_eq_true rfl) (Nat.le_of_ble_eq_true rfl) (Nat.le_of_ble_eq_true rfl) (Nat.le_of_ble_eq_true rfl) rfl dX9_countValues_57 (fun M21 r22 hK23 hb29 hN24 => ?_)
          have hw := hK23 hN24 hb29
          have hk25 := Nk_.k hN24 hp0 (by decide)
          have hk26 := Nk_.k hN24 hp1 (by decide)
          have hk27 := Nk_.k hN24 hp2 (by decide)
          have hT28 := Nk_.tr (Nk_.rf _) hN24
          refine r_if_ne (tgt := 99) g dX9_countValues_60 (by decide) (fun hc30 => ?_) (fun hc30 => ?_)
          · have hw := hw.2 hc30
            refine r_iinc (v := x3 + (1 : Int32)) (L' := [(3, .int (x3 + (1 : Int32))), (0, .ref a0), (1, .ref a1), (2, .ref a2)]) g dX9_countValues_99 3 rfl rfl (by decide) rfl ?_
            refine r_goto (tgt := 12) g dX9_countValues_102 (by decide) ?_
            exact V_.sub (ih E (x3 + (1 : Int32)) _ hw hk25 hk26 hk27 (fun  M9 hE9 hN9 => kE  M9 hE9 (Nk_.tr hT28 hN9))) [1, 2, 3, 0] rfl
          · have hw := hw.1 hc30
            refine r_aload_n g dX9_countValues_63 rfl 0 rfl ?_
            refine r_gt (C := RX9) (T := TX9) (N := 9) g (ci := 10) rfl tc_X9 hk25 2 (by decide) tw_101 (fun _ h => h) rfl dX9_countValues_64 ?_
            refine r_bipush (v := 16) g dX9_countValues_67 (by decide) ?_
            refine r_icmp_ge (tgt := 89) g dX9_countValues_69 (by decide) (fun hc31 => ?_) (fun hc31 => ?_)
            · have hw := hw.1 hc31
              refine r_aload_n g dX9_countValues_89 rfl 0 rfl ?_
              refine r_dup g dX9_countValues_90 rfl ?_
              refine r_gt (C := RX9) (T := TX9) (N := 9) g (ci := 10) rfl tc_X9 hk25 2 (by decide) tw_101 (fun _ h => h) rfl dX9_countValues_91 ?_
              refine r_iconst (v := 1) g dX9_countValues_94 (by decide) ?_
              refine r_iadd g dX9_countValues_95 ?_
              refine r_ptI (C := RX9) (T := TX9) (N := 9) g (ci := 10) rfl tc_X9 tyX9 tyX9_ok nmX9 hk25 2 (by decide) tw_101 (fun _ h => h) rfl rfl rfl rfl dX9_countValues_96 ?_
              have hw := hw _ rfl
              refine r_iinc (v := x3 + (1 : Int32)) (L' := [(3, .int (x3 + (1 : Int32))), (0, .ref a0), (1, .ref a1), (2, .ref a2)]) g dX9_countValues_99 3 rfl rfl (by decide) rfl ?_
              refine r_goto (tgt := 12) g dX9_countValues_102 (by decide) ?_
              exact V_.sub (ih E (x3 + (1 : Int32)) _ hw hk25 hk26 hk27 (fun  M9 hE9 hN9 => kE  M9 hE9 (Nk_.tr hT28 hN9))) [1, 2, 3, 0] rfl
            · have hw := hw.2 hc31
              refine r_aload_n g dX9_countValues_72 rfl 0 rfl ?_
              obtain ⟨hk33, hw⟩ := hw
              refine r_gtR (C := RX9) (T := TX9) (N := 9) g (ci := 10) rfl tc_X9 hk25 7 (by decide) tw_118 (fun _ h => h) rfl (k_ne hk33 (by decide)) dX9_countValues_73 ?_
              refine r_aload_n g dX9_countValues_76 rfl 0 rfl ?_
              refine r_gt (C := RX9) (T := TX9) (N := 9) g (ci := 10) rfl tc_X9 hk25 2 (by decide) tw_101 (fun _ h => h) rfl dX9_countValues_77 ?_
              refine r_aload_n g dX9_countValues_80 rfl 1 rfl ?_
              obtain ⟨hk34, hw⟩ := hw
              refine r_gtR (C := RX1) (T := TX1) (N := 5) g (ci := 2) rfl tc_X1 hk26 0 (by decide) tw_438 (fun _ h => h) rfl (k_ne hk34 (by decide)) dX9_countValues_81 ?_
              refine r_aload_n g dX9_countValues_84 rfl 2 rfl ?_
              refine r_iload_n g dX9_countValues_85 rfl 3 rfl ?_
              obtain ⟨hi35, hw⟩ := hw
              refine r_iald g (Or.inl hk27) hi35 dX9_countValues_86 ?_
              obtain ⟨hi36, hw⟩ := hw
              refine r_iald g (Or.inl hk34) hi36 dX9_countValues_87 ?_
              obtain ⟨hi37, hw⟩ := hw
              refine r_iast g hk33 hi37 dX9_countValues_88 ?_
              have hw := hw _ rfl
              refine r_aload_n g dX9_countValues_89 rfl 0 rfl ?_
              refine r_dup g dX9_countValues_90 rfl ?_
              refine r_gt (C := RX9) (T := TX9) (N := 9) g (ci := 10) rfl tc_X9 hk25 2 (by decide) tw_101 (fun _ h => h) rfl dX9_countValues_91 ?_
              refine r_iconst (v := 1) g dX9_countValues_94 (by decide) ?_
              refine r_iadd g dX9_countValues_95 ?_
              refine r_ptI (C := RX9) (T := TX9) (N := 9) g (ci := 10) rfl tc_X9 tyX9 tyX9_ok nmX9 hk25 2 (by decide) tw_101 (fun _ h => h) rfl rfl rfl rfl dX9_countValues_96 ?_
              have hw := hw _ rfl
              refine r_iinc (v := x3 + (1 : Int32)) (L' := [(3, .int (x3 + (1 : Int32))), (0, .ref a0), (1, .ref a1), (2, .ref a2)]) g dX9_countValues_99 3 rfl rfl (by decide) rfl ?_
              refine r_goto (tgt := 12) g dX9_countValues_102 (by decide) ?_
              exact V_.sub (ih E (x3 + (1 : Int32)) _ hw hk25 hk26 hk27 (fun  M9 hE9 hN9 => kE  M9 hE9 (Nk_.tr hT28 hN9))) [1, 2, 3, 0] rfl
      · have hw := hw.2 hc8
        refine r_aload_n g dX9_countValues_31 rfl 0 rfl ?_
        refine r_dup g dX9_countValues_32 rfl ?_
        refine r_gt (C := RX9) (T := TX9) (N := 9) g (ci := 10) rfl tc_X9 hp0 1 (by decide) tw_98 (fun _ h => h) rfl dX9_countValues_33 ?_
        refine r_iconst (v := 1) g dX9_countValues_36 (by decide) ?_
        refine r_iadd g dX9_countValues_37 ?_
        refine r_ptI (C := RX9) (T := TX9) (N := 9) g (ci := 10) rfl tc_X9 tyX9 tyX9_ok nmX9 hp0 1 (by decide) tw_98 (fun _ h => h) rfl rfl rfl rfl dX9_countValues_38 ?_
        have hw := hw _ rfl
        refine r_goto (tgt := 99) g dX9_countValues_41 (by decide) ?_
        refine r_iinc (v := x3 + (1 : Int32)) (L' := [(3, .int (x3 + (1 : Int32))), (0, .ref a0), (1, .ref a1), (2, .ref a2)]) g dX9_countValues_99 3 rfl rfl (by decide) rfl ?_
        refine r_goto (tgt := 12) g dX9_countValues_102 (by decide) ?_
        exact V_.sub (ih E (x3 + (1 : Int32)) _ hw hp0 hp1 hp2 (fun  M9 hE9 hN9 => kE  M9 hE9 (Nk_.tr (Nk_.rf _) hN9))) [1, 2, 3, 0] rfl
set_option maxHeartbeats 4000000 in
set_option maxRecDepth 100000 in
theorem mt_X9_countValues {l : Launch} {D : Dd_} {M : Mm} {a0 : Nat} {a1 : Nat} {a2 : Nat} {K : Mm → Prop} (hw : wp_X9_countValues a0 a1 a2 M K) (sz : Nat) : Met l yX9_countValues (Cond.code yX9_countValues cX9_countValues 4 none :: tbG_) rmX9_countValues (cPc_ D M sz [.ref a0, .ref a1, .ref a2]) (va_Qv (fun M' => K M') (cB_ D M sz) (Aw_ M sz)) 0 0 (Aw_ M sz) := by
  refine ofV (by decide) (Nat.le_of_ble_eq_true rfl) ?_
  intro p e s m below meth c g hr hin hsz
  subst hsz
  obtain ⟨hp0, hp1, hp2, hw⟩ := hw
  refine r_aload_n g dX9_countValues_0 rfl 0 rfl ?_
  refine r_iconst (v := 0) g dX9_countValues_1 (by decide) ?_
  refine r_ptI (C := RX9) (T := TX9) (N := 9) g (ci := 10) rfl tc_X9 tyX9 tyX9_ok nmX9 hp0 1 (by decide) tw_98 (fun _ h => h) rfl rfl rfl rfl dX9_countValues_2 ?_
  have hw := hw _ rfl
  refine r_aload_n g dX9_countValues_5 rfl 0 rfl ?_
  refine r_iconst (v := 0) g dX9_countValues_6 (by decide) ?_
  refine r_ptI (C := RX9) (T := TX9) (N := 9) g (ci := 10) rfl tc_X9 tyX9 tyX9_ok nmX9 hp0 2 (by decide) tw_101 (fun _ h => h) rfl rfl rfl rfl dX9_countValues_7 ?_
  have hw := hw _ rfl
  refine r_iconst (v := 0) g dX9_countValues_10 (by decide) ?_
  refine r_istore_n (L' := [(3, .int (0 : Int32)), (0, .ref a0), (1, .ref a1), (2, .ref a2)]) g dX9_countValues_11 rfl (by decide) rfl ?_
  obtain ⟨n42, hw⟩ := hw
  refine V_.sub (lo_X9_countValues_12 g hr rfl n42 _ (0 : Int32) _ hw hp0 hp1 hp2 (fun  M41 hE hN43 => ?_)) [1, 2, 3, 0] rfl
  have hw := hE hN43
  have hT44 := Nk_.tr (Nk_.rf _) hN43
  exact r_vret g hr (Nat.le_of_ble_eq_true rfl) (Nat.le_of_ble_eq_true rfl) rfl dX9_countValues_105 hw
def rmX9_countRuns : Room := { frames := 1, cells := 0, slots := 0, locals := 22 }
theorem hy_X9_countRuns : yX9_countRuns.cls ≠ "java/lang/invoke/MethodHandle" ∧ yX9_countRuns.cls ≠ "java/lang/invoke/VarHandle" ∧ (parseMethodDescriptor yX9_countRuns.desc).map (fun d => d.parameters.length) = some 2 := by decide +kernel
def lp_X9_countRuns_23 (a0 : Nat) (a1 : Nat) (a2 : Nat) (K : Mm → Prop) (E : Mm → Prop) : Nat → Int32 → Mm → Prop
  | 0, _, _ => False
  | n + 1, x3, M => (((it_ M a0 0) ≤ x3 → E  M) ∧ (¬ (it_ M a0 0) ≤ x3 → (vp_in (x3 - (1 : Int32)) (ln_ M a2) ∧ (vp_in x3 (ln_ M a2) ∧ (wp_X1_isSame a1 (it_ M a2 (ix_ (x3 - (1 : Int32)))) (it_ M a2 (ix_ x3)) M (fun M7 r8 => Nk_ M M7 → bz_ r8 → ((r8 = 0 → (∀ M17, M17 = sI_ M7 a0 3 ((it_ M7 a0 3) + (1 : Int32)) → (kd_ M7 (rf_ M7 a1 0) = 20 ∧ (vp_in x3 (ln_ M7 a2) ∧ (vp_in (it_ M17 a2 (ix_ x3)) (ln_ M7 (rf_ M7 a1 0)) ∧ (vp_in (x3 - (1 : Int32)) (ln_ M7 a2) ∧ (vp_in (it_ M17 a2 (ix_ (x3 - (1 : Int32)))) (ln_ M7 (rf_ M7 a1 0)) ∧ (((((it_ M17 (rf_ M7 a1 0) (ix_ (it_ M17 a2 (ix_ x3)))).toInt64) - ((it_ M17 (rf_ M7 a1 0) (ix_ (it_ M17 a2 (ix_ (x3 - (1 : Int32)))))).toInt64)) ≤ (0 : Int64) → (∀ M24, M24 = sL_ M17 a0 8 (if ((-2 : Int64) * (((it_ M17 (rf_ M7 a1 0) (ix_ (it_ M17 a2 (ix_ x3)))).toInt64) - ((it_ M17 (rf_ M7 a1 0) (ix_ (it_ M17 a2 (ix_ (x3 - (1 : Int32)))))).toInt64))) < (lg_ M17 a0 8) then (lg_ M17 a0 8) else ((-2 : Int64) * (((it_ M17 (rf_ M7 a1 0) (ix_ (it_ M17 a2 (ix_ x3)))).toInt64) - ((it_ M17 (rf_ M7 a1 0) (ix_ (it_ M17 a2 (ix_ (x3 - (1 : Int32)))))).toInt64)))) → lp_X9_countRuns_23 a0 a1 a2 K E n (x3 + (1 : Int32)) M24)) ∧ (¬ (((it_ M17 (rf_ M7 a1 0) (ix_ (it_ M17 a2 (ix_ x3)))).toInt64) - ((it_ M17 (rf_ M7 a1 0) (ix_ (it_ M17 a2 (ix_ (x3 - (1 : Int32)))))).toInt64)) ≤ (0 : Int64) → (∀ M25, M25 = sL_ M17 a0 8 (if (((2 : Int64) * (((it_ M17 (rf_ M7 a1 0) (ix_ (it_ M17 a2 (ix_ x3)))).toInt64) - ((it_ M17 (rf_ M7 a1 0) (ix_ (it_ M17 a2 (ix_ (x3 - (1 : Int32)))))).toInt64))) - (1 : Int64)) < (lg_ M17 a0 8) then (lg_ M17 a0 8) else (((2 : Int64) * (((it_ M17 (rf_ M7 a1 0) (ix_ (it_ M17 a2 (ix_ x3)))).toInt64) - ((it_ M17 (rf_ M7 a1 0) (ix_ (it_ M17 a2 (ix_ (x3 - (1 : Int32)))))).toInt64))) - (1 : Int64))) → lp_X9_countRuns_23 a0 a1 a2 K E n (x3 + (1 : Int32)) M25)))))))))) ∧ (¬ r8 = 0 → (kd_ M7 (rf_ M7 a1 0) = 20 ∧ (vp_in x3 (ln_ M7 a2) ∧ (vp_in (it_ M7 a2 (ix_ x3)) (ln_ M7 (rf_ M7 a1 0)) ∧ (vp_in (x3 - (1 : Int32)) (ln_ M7 a2) ∧ (vp_in (it_ M7 a2 (ix_ (x3 - (1 : Int32)))) (ln_ M7 (rf_ M7 a1 0)) ∧ (((((it_ M7 (rf_ M7 a1 0) (ix_ (it_ M7 a2 (ix_ x3)))).toInt64) - ((it_ M7 (rf_ M7 a1 0) (ix_ (it_ M7 a2 (ix_ (x3 - (1 : Int32)))))).toInt64)) ≤ (0 : Int64) → (∀ M32, M32 = sL_ M7 a0 8 (if ((-2 : Int64) * (((it_ M7 (rf_ M7 a1 0) (ix_ (it_ M7 a2 (ix_ x3)))).toInt64) - ((it_ M7 (rf_ M7 a1 0) (ix_ (it_ M7 a2 (ix_ (x3 - (1 : Int32)))))).toInt64))) < (lg_ M7 a0 8) then (lg_ M7 a0 8) else ((-2 : Int64) * (((it_ M7 (rf_ M7 a1 0) (ix_ (it_ M7 a2 (ix_ x3)))).toInt64) - ((it_ M7 (rf_ M7 a1 0) (ix_ (it_ M7 a2 (ix_ (x3 - (1 : Int32)))))).toInt64)))) → lp_X9_countRuns_23 a0 a1 a2 K E n (x3 + (1 : Int32)) M32)) ∧ (¬ (((it_ M7 (rf_ M7 a1 0) (ix_ (it_ M7 a2 (ix_ x3)))).toInt64) - ((it_ M7 (rf_ M7 a1 0) (ix_ (it_ M7 a2 (ix_ (x3 - (1 : Int32)))))).toInt64)) ≤ (0 : Int64) → (∀ M33, M33 = sL_ M7 a0 8 (if (((2 : Int64) * (((it_ M7 (rf_ M7 a1 0) (ix_ (it_ M7 a2 (ix_ x3)))).toInt64) - ((it_ M7 (rf_ M7 a1 0) (ix_ (it_ M7 a2 (ix_ (x3 - (1 : Int32)))))).toInt64))) - (1 : Int64)) < (lg_ M7 a0 8) then (lg_ M7 a0 8) else (((2 : Int64) * (((it_ M7 (rf_ M7 a1 0) (ix_ (it_ M7 a2 (ix_ x3)))).toInt64) - ((it_ M7 (rf_ M7 a1 0) (ix_ (it_ M7 a2 (ix_ (x3 - (1 : Int32)))))).toInt64))) - (1 : Int64))) → lp_X9_countRuns_23 a0 a1 a2 K E n (x3 + (1 : Int32)) M33))))))))))))))))
def wp_X9_countRuns (a0 : Nat) (a1 : Nat) (a2 : Nat) (M : Mm) (K : Mm → Prop) : Prop := kd_ M a0 = 11 ∧ kd_ M a1 = 3 ∧ kd_ M a2 = 20 ∧ (((it_ M a0 0) = 0 → (∀ M2, M2 = sI_ M a0 3 (0 : Int32) → (∀ M3, M3 = sL_ M2 a0 8 (0 : Int64) → (∃ n35 : Nat, lp_X9_countRuns_23 a0 a1 a2 K (fun  M34 => Nk_ M3 M34 → K M34) n35 (1 : Int32) M3)))) ∧ (¬ (it_ M a0 0) = 0 → (∀ M38, M38 = sI_ M a0 3 (1 : Int32) → (∀ M39, M39 = sL_ M38 a0 8 (0 : Int64) → (∃ n41 : Nat, lp_X9_countRuns_23 a0 a1 a2 K (fun  M40 => Nk_ M39 M40 → K M40) n41 (1 : Int32) M39)))))
set_option maxHeartbeats 4000000 in
set_option maxRecDepth 100000 in
theorem lo_X9_countRuns_23 {p : Program} {l : Launch} {e : Env} {s : State} {m : MethodId} {args : Array Value} {below : List Frame} {meth : Method} {c : Code} {D : Dd_} {M0 : Mm} {Q : State → Prop} {K : Mm → Prop} (g : G_ p s m args meth c cX9_countRuns 6 RX9 D M0) (hr : meth.sig.returnType = none) (hQ : Q = MQ below (va_Qv (fun M' => K M') (cB_ D M0 s.heap.size) (Aw_ M0 s.heap.size)) args s 0 0 (Aw_ M0 s.heap.size)) {a0 : Nat} {a1 : Nat} {a2 : Nat} : ∀ (n : Nat) (E : Mm → Prop) (x3 : Int32) (M : Mm), lp_X9_countRuns_23 a0 a1 a2 K E n x3 M → kd_ M a0 = 11 → kd_ M a1 = 3 → kd_ M a2 = 20 → (∀  (M' : Mm), E  M' → Nk_ M M' → V_ p l e rmX9_countRuns s m args below meth c 6 D M0 Q 120 [] [] M' 0 0) → V_ p l e rmX9_countRuns s m args below meth c 6 D M0 Q 23 [(0, .ref a0), (1, .ref a1), (2, .ref a2), (3, .int x3)] [] M 0 0 := by
  intro n
  induction n with
  | zero =>
    intro E x3 M hw
    exact hw.elim
  | succ n ih =>
    intro E x3 M hw hp0 hp1 hp2 kE
    refine r_iload_n g dX9_countRuns_23 rfl 3 rfl ?_
    refine r_aload_n g dX9_countRuns_24 rfl 0 rfl ?_
    refine r_gt (C := RX9) (T := TX9) (N := 9) g (ci := 10) rfl tc_X9 hp0 0 (by decide) tw_96 (fun _ h => h) rfl dX9_countRuns_25 ?_
    refine r_icmp_ge (tgt := 120) g dX9_countRuns_28 (by decide) (fun hc4 => ?_) (fun hc4 => ?_)
    · have hw := hw.1 hc4
      exact V_.sub (kE  _ hw (Nk_.rf _)) [] rfl
    · have hw := hw.2 hc4
      refine r_aload_n g dX9_countRuns_31 rfl 1 rfl ?_
      refine r_aload_n g dX9_countRuns_32 rfl 2 rfl ?_
      refine r_iload_n g dX9_countRuns_33 rfl 3 rfl ?_
      refine r_iconst (v := 1) g dX9_countRuns_34 (by decide) ?_
      refine r_isub g dX9_countRuns_35 ?_
      obtain ⟨hi5, hw⟩ := hw
      refine r_iald g (Or.inl hp2) hi5 dX9_countRuns_36 ?_
      refine r_aload_n g dX9_countRuns_37 rfl 2 rfl ?_
      refine r_iload_n g dX9_countRuns_38 rfl 3 rfl ?_
      obtain ⟨hi6, hw⟩ := hw
      refine r_iald g (Or.inl hp2) hi6 dX9_countRuns_39 ?_
      refine r_callVz (As := [.int (it_ M a2 (ix_ (x3 - (1 : Int32)))), .int (it_ M a2 (ix_ x3))]) g (fun sz => mt_X1_isSame hw sz) tw_786 tw_789 tw_18 tw_787 tw_788 (ci := 2) (T := TX1) (N := 5) rfl hp1 hy_X1_isSame ⟨rfl, rfl⟩ (Nat.le_of_ble_eq_true rfl) (Nat.le_of_ble_eq_true rfl) (Nat.le_of_ble_eq_true rfl) (Nat.le_of_ble_eq_true rfl) (Nat.le_of_ble_eq_true rfl) rfl dX9_countRuns_40 (fun M7 r8 hK9 hb15 hN10 => ?_)
      have hw := hK9 hN10 hb15
      have hk11 := Nk_.k hN10 hp0 (by decide)
      have hk12 := Nk_.k hN10 hp1 (by decide)
      have hk13 := Nk_.k hN10 hp2 (by decide)
      have hT14 := Nk_.tr (Nk_.rf _) hN10
      refine r_if_ne (tgt := 56) g dX9_countRuns_43 (by decide) (fun hc16 => ?_) (fun hc16 => ?_)
      · have hw := hw.2 hc16
        refine r_aload_n g dX9_countRuns_56 rfl 1 rfl ?_
        obtain ⟨hk26, hw⟩ := hw
        refine r_gtR (C := RX1) (T := TX1) (N := 5) g (ci := 2) rfl tc_X1 hk12 0 (by decide) tw_438 (fun _ h => h) rfl (k_ne hk26 (by decide)) dX9_countRuns_57 ?_
        refine r_aload_n g dX9_countRuns_60 rfl 2 rfl ?_
        refine r_iload_n g dX9_countRuns_61 rfl 3 rfl ?_
        obtain ⟨hi27, hw⟩ := hw
        refine r_iald g (Or.inl hk13) hi27 dX9_countRuns_62 ?_
        obtain ⟨hi28, hw⟩ := hw
        refine r_iald g (Or.inl hk26) hi28 dX9_countRuns_63 ?_
        refine r_i2l g dX9_countRuns_64 ?_
        refine r_aload_n g dX9_countRuns_65 rfl 1 rfl ?_
        refine r_gtR (C := RX1) (T := TX1) (N := 5) g (ci := 2) rfl tc_X1 hk12 0 (by decide) tw_438 (fun _ h => h) rfl (k_ne hk26 (by decide)) dX9_countRuns_66 ?_
        refine r_aload_n g dX9_countRuns_69 rfl 2 rfl ?_
        refine r_iload_n g dX9_countRuns_70 rfl 3 rfl ?_
        refine r_iconst (v := 1) g dX9_countRuns_71 (by decide) ?_
        refine r_isub g dX9_countRuns_72 ?_
        obtain ⟨hi29, hw⟩ := hw
        refine r_iald g (Or.inl hk13) hi29 dX9_countRuns_73 ?_
        obtain ⟨hi30, hw⟩ := hw
        refine r_iald g (Or.inl hk26) hi30 dX9_countRuns_74 ?_
        refine r_i2l g dX9_countRuns_75 ?_
        refine r_lsub g dX9_countRuns_76 ?_
        refine r_lstore (L' := [(4, .long (((it_ M7 (rf_ M7 a1 0) (ix_ (it_ M7 a2 (ix_ x3)))).toInt64) - ((it_ M7 (rf_ M7 a1 0) (ix_ (it_ M7 a2 (ix_ (x3 - (1 : Int32)))))).toInt64))), (0, .ref a0), (1, .ref a1), (2, .ref a2), (3, .int x3)]) g dX9_countRuns_77 (by decide) rfl ?_
        refine r_aload_n g dX9_countRuns_79 rfl 1 rfl ?_
        refine r_aload_n g dX9_countRuns_80 rfl 1 rfl ?_
        refine r_gt (C := RX9) (T := TX9) (N := 9) g (ci := 10) rfl tc_X9 hk11 8 (by decide) tw_119 (fun _ h => h) rfl dX9_countRuns_81 ?_
        refine r_lload g dX9_countRuns_84 0 rfl ?_
        refine r_lconst (v := 0) g dX9_countRuns_86 (by decide) ?_
        refine r_lcmp_le (tgt := 102) g dX9_countRuns_87 dX9_countRuns_88 (by decide) (fun hc31 => ?_) (fun hc31 => ?_)
        · have hw := hw.1 hc31
          refine r_ldc2 (v := -2) g tw_795 dX9_countRuns_102 ?_
          refine r_lload g dX9_countRuns_105 0 rfl ?_
          refine r_lmul g dX9_countRuns_107 ?_
          refine r_mmaxl g tw_796 tw_797 tw_20 tw_798 (Nat.le_of_ble_eq_true rfl) (Nat.le_of_ble_eq_true rfl) (Nat.le_of_ble_eq_true rfl) (Nat.le_of_ble_eq_true rfl) dX9_countRuns_108 ?_
          refine r_ptL (C := RX9) (T := TX9) (N := 9) g (ci := 10) rfl tc_X9 tyX9 tyX9_ok nmX9 hk11 8 (by decide) tw_119 (fun _ h => h) rfl rfl rfl rfl dX9_countRuns_111 ?_
          have hw := hw _ rfl
          refine r_iinc (v := x3 + (1 : Int32)) (L' := [(3, .int (x3 + (1 : Int32))), (4, .long (((it_ M7 (rf_ M7 a1 0) (ix_ (it_ M7 a2 (ix_ x3)))).toInt64) - ((it_ M7 (rf_ M7 a1 0) (ix_ (it_ M7 a2 (ix_ (x3 - (1 : Int32)))))).toInt64))), (0, .ref a0), (1, .ref a1), (2, .ref a2)]) g dX9_countRuns_114 4 rfl rfl (by decide) rfl ?_
          refine r_goto (tgt := 23) g dX9_countRuns_117 (by decide) ?_
          exact V_.sub (ih E (x3 + (1 : Int32)) _ hw hk11 hk12 hk13 (fun  M9 hE9 hN9 => kE  M9 hE9 (Nk_.tr hT14 hN9))) [2, 3, 4, 0] rfl
        · have hw := hw.2 hc31
          refine r_ldc2 (v := 2) g tw_794 dX9_countRuns_91 ?_
          refine r_lload g dX9_countRuns_94 0 rfl ?_
          refine r_lmul g dX9_countRuns_96 ?_
          refine r_lconst (v := 1) g dX9_countRuns_97 (by decide) ?_
          refine r_lsub g dX9_countRuns_98 ?_
          refine r_goto (tgt := 108) g dX9_countRuns_99 (by decide) ?_
          refine r_mmaxl g tw_796 tw_797 tw_20 tw_798 (Nat.le_of_ble_eq_true rfl) (Nat.le_of_ble_eq_true rfl) (Nat.le_of_ble_eq_true rfl) (Nat.le_of_ble_eq_true rfl) dX9_countRuns_108 ?_
          refine r_ptL (C := RX9) (T := TX9) (N := 9) g (ci := 10) rfl tc_X9 tyX9 tyX9_ok nmX9 hk11 8 (by decide) tw_119 (fun _ h => h) rfl rfl rfl rfl dX9_countRuns_111 ?_
          have hw := hw _ rfl
          refine r_iinc (v := x3 + (1 : Int32)) (L' := [(3, .int (x3 + (1 : Int32))), (4, .long (((it_ M7 (rf_ M7 a1 0) (ix_ (it_ M7 a2 (ix_ x3)))).toInt64) - ((it_ M7 (rf_ M7 a1 0) (ix_ (it_ M7 a2 (ix_ (x3 - (1 : Int32)))))).toInt64))), (0, .ref a0), (1, .ref a1), (2, .ref a2)]) g dX9_countRuns_114 4 rfl rfl (by decide) rfl ?_
          refine r_goto (tgt := 23) g dX9_countRuns_117 (by decide) ?_
          exact V_.sub (ih E (x3 + (1 : Int32)) _ hw hk11 hk12 hk13 (fun  M9 hE9 hN9 => kE  M9 hE9 (Nk_.tr hT14 hN9))) [2, 3, 4, 0] rfl
      · have hw := hw.1 hc16
        refine r_aload_n g dX9_countRuns_46 rfl 0 rfl ?_
        refine r_dup g dX9_countRuns_47 rfl ?_
        refine r_gt (C := RX9) (T := TX9) (N := 9) g (ci := 10) rfl tc_X9 hk11 3 (by decide) tw_105 (fun _ h => h) rfl dX9_countRuns_48 ?_
        refine r_iconst (v := 1) g dX9_countRuns_51 (by decide) ?_
        refine r_iadd g dX9_countRuns_52 ?_
        refine r_ptI (C := RX9) (T := TX9) (N := 9) g (ci := 10) rfl tc_X9 tyX9 tyX9_ok nmX9 hk11 3 (by decide) tw_105 (fun _ h => h) rfl rfl rfl rfl dX9_countRuns_53 ?_
        have hw := hw _ rfl
        refine r_aload_n g dX9_countRuns_56 rfl 1 rfl ?_
        obtain ⟨hk18, hw⟩ := hw
        refine r_gtR (C := RX1) (T := TX1) (N := 5) g (ci := 2) rfl tc_X1 hk12 0 (by decide) tw_438 (fun _ h => h) rfl (k_ne hk18 (by decide)) dX9_countRuns_57 ?_
        refine r_aload_n g dX9_countRuns_60 rfl 2 rfl ?_
        refine r_iload_n g dX9_countRuns_61 rfl 3 rfl ?_
        obtain ⟨hi19, hw⟩ := hw
        refine r_iald g (Or.inl hk13) hi19 dX9_countRuns_62 ?_
        obtain ⟨hi20, hw⟩ := hw
        refine r_iald g (Or.inl hk18) hi20 dX9_countRuns_63 ?_
        refine r_i2l g dX9_countRuns_64 ?_
        refine r_aload_n g dX9_countRuns_65 rfl 1 rfl ?_
        refine r_gtR (C := RX1) (T := TX1) (N := 5) g (ci := 2) rfl tc_X1 hk12 0 (by decide) tw_438 (fun _ h => h) rfl (k_ne hk18 (by decide)) dX9_countRuns_66 ?_
        refine r_aload_n g dX9_countRuns_69 rfl 2 rfl ?_
        refine r_iload_n g dX9_countRuns_70 rfl 3 rfl ?_
        refine r_iconst (v := 1) g dX9_countRuns_71 (by decide) ?_
        refine r_isub g dX9_countRuns_72 ?_
        obtain ⟨hi21, hw⟩ := hw
        refine r_iald g (Or.inl hk13) hi21 dX9_countRuns_73 ?_
        obtain ⟨hi22, hw⟩ := hw
        refine r_iald g (Or.inl hk18) hi22 dX9_countRuns_74 ?_
        refine r_i2l g dX9_countRuns_75 ?_
        refine r_lsub g dX9_countRuns_76 ?_
        refine r_lstore (L' := [(4, .long (((it_ (sI_ M7 a0 3 ((it_ M7 a0 3) + (1 : Int32))) (rf_ M7 a1 0) (ix_ (it_ (sI_ M7 a0 3 ((it_ M7 a0 3) + (1 : Int32))) a2 (ix_ x3)))).toInt64) - ((it_ (sI_ M7 a0 3 ((it_ M7 a0 3) + (1 : Int32))) (rf_ M7 a1 0) (ix_ (it_ (sI_ M7 a0 3 ((it_ M7 a0 3) + (1 : Int32))) a2 (ix_ (x3 - (1 : Int32)))))).toInt64))), (0, .ref a0), (1, .ref a1), (2, .ref a2), (3, .int x3)]) g dX9_countRuns_77 (by decide) rfl ?_
        refine r_aload_n g dX9_countRuns_79 rfl 1 rfl ?_
        refine r_aload_n g dX9_countRuns_80 rfl 1 rfl ?_
        refine r_gt (C := RX9) (T := TX9) (N := 9) g (ci := 10) rfl tc_X9 hk11 8 (by decide) tw_119 (fun _ h => h) rfl dX9_countRuns_81 ?_
        refine r_lload g dX9_countRuns_84 0 rfl ?_
        refine r_lconst (v := 0) g dX9_countRuns_86 (by decide) ?_
        refine r_lcmp_le (tgt := 102) g dX9_countRuns_87 dX9_countRuns_88 (by decide) (fun hc23 => ?_) (fun hc23 => ?_)
        · have hw := hw.1 hc23
          refine r_ldc2 (v := -2) g tw_795 dX9_countRuns_102 ?_
          refine r_lload g dX9_countRuns_105 0 rfl ?_
          refine r_lmul g dX9_countRuns_107 ?_
          refine r_mmaxl g tw_796 tw_797 tw_20 tw_798 (Nat.le_of_ble_eq_true rfl) (Nat.le_of_ble_eq_true rfl) (Nat.le_of_ble_eq_true rfl) (Nat.le_of_ble_eq_true rfl) dX9_countRuns_108 ?_
          refine r_ptL (C := RX9) (T := TX9) (N := 9) g (ci := 10) rfl tc_X9 tyX9 tyX9_ok nmX9 hk11 8 (by decide) tw_119 (fun _ h => h) rfl rfl rfl rfl dX9_countRuns_111 ?_
          have hw := hw _ rfl
          refine r_iinc (v := x3 + (1 : Int32)) (L' := [(3, .int (x3 + (1 : Int32))), (4, .long (((it_ (sI_ M7 a0 3 ((it_ M7 a0 3) + (1 : Int32))) (rf_ M7 a1 0) (ix_ (it_ (sI_ M7 a0 3 ((it_ M7 a0 3) + (1 : Int32))) a2 (ix_ x3)))).toInt64) - ((it_ (sI_ M7 a0 3 ((it_ M7 a0 3) + (1 : Int32))) (rf_ M7 a1 0) (ix_ (it_ (sI_ M7 a0 3 ((it_ M7 a0 3) + (1 : Int32))) a2 (ix_ (x3 - (1 : Int32)))))).toInt64))), (0, .ref a0), (1, .ref a1), (2, .ref a2)]) g dX9_countRuns_114 4 rfl rfl (by decide) rfl ?_
          refine r_goto (tgt := 23) g dX9_countRuns_117 (by decide) ?_
          exact V_.sub (ih E (x3 + (1 : Int32)) _ hw hk11 hk12 hk13 (fun  M9 hE9 hN9 => kE  M9 hE9 (Nk_.tr hT14 hN9))) [2, 3, 4, 0] rfl
        · have hw := hw.2 hc23
          refine r_ldc2 (v := 2) g tw_794 dX9_countRuns_91 ?_
          refine r_lload g dX9_countRuns_94 0 rfl ?_
          refine r_lmul g dX9_countRuns_96 ?_
          refine r_lconst (v := 1) g dX9_countRuns_97 (by decide) ?_
          refine r_lsub g dX9_countRuns_98 ?_
          refine r_goto (tgt := 108) g dX9_countRuns_99 (by decide) ?_
          refine r_mmaxl g tw_796 tw_797 tw_20 tw_798 (Nat.le_of_ble_eq_true rfl) (Nat.le_of_ble_eq_true rfl) (Nat.le_of_ble_eq_true rfl) (Nat.le_of_ble_eq_true rfl) dX9_countRuns_108 ?_
          refine r_ptL (C := RX9) (T := TX9) (N := 9) g (ci := 10) rfl tc_X9 tyX9 tyX9_ok nmX9 hk11 8 (by decide) tw_119 (fun _ h => h) rfl rfl rfl rfl dX9_countRuns_111 ?_
          have hw := hw _ rfl
          refine r_iinc (v := x3 + (1 : Int32)) (L' := [(3, .int (x3 + (1 : Int32))), (4, .long (((it_ (sI_ M7 a0 3 ((it_ M7 a0 3) + (1 : Int32))) (rf_ M7 a1 0) (ix_ (it_ (sI_ M7 a0 3 ((it_ M7 a0 3) + (1 : Int32))) a2 (ix_ x3)))).toInt64) - ((it_ (sI_ M7 a0 3 ((it_ M7 a0 3) + (1 : Int32))) (rf_ M7 a1 0) (ix_ (it_ (sI_ M7 a0 3 ((it_ M7 a0 3) + (1 : Int32))) a2 (ix_ (x3 - (1 : Int32)))))).toInt64))), (0, .ref a0), (1, .ref a1), (2, .ref a2)]) g dX9_countRuns_114 4 rfl rfl (by decide) rfl ?_
          refine r_goto (tgt := 23) g dX9_countRuns_117 (by decide) ?_
          exact V_.sub (ih E (x3 + (1 : Int32)) _ hw hk11 hk12 hk13 (fun  M9 hE9 hN9 => kE  M9 hE9 (Nk_.tr hT14 hN9))) [2, 3, 4, 0] rfl
set_option maxHeartbeats 4000000 in
set_option maxRecDepth 100000 in
theorem mt_X9_countRuns {l : Launch} {D : Dd_} {M : Mm} {a0 : Nat} {a1 : Nat} {a2 : Nat} {K : Mm → Prop} (hw : wp_X9_countRuns a0 a1 a2 M K) (sz : Nat) : Met l yX9_countRuns (Cond.code yX9_countRuns cX9_countRuns 6 none :: tbG_) rmX9_countRuns (cPc_ D M sz [.ref a0, .ref a1, .ref a2]) (va_Qv (fun M' => K M') (cB_ D M sz) (Aw_ M sz)) 0 0 (Aw_ M sz) := by
  refine ofV (by decide) (Nat.le_of_ble_eq_true rfl) ?_
  intro p e s m below meth c g hr hin hsz
  subst hsz
  obtain ⟨hp0, hp1, hp2, hw⟩ := hw
  refine r_aload_n g dX9_countRuns_0 rfl 0 rfl ?_
  refine r_aload_n g dX9_countRuns_1 rfl 0 rfl ?_
  refine r_gt (C := RX9) (T := TX9) (N := 9) g (ci := 10) rfl tc_X9 hp0 0 (by decide) tw_96 (fun _ h => h) rfl dX9_countRuns_2 ?_
  refine r_if_ne (tgt := 12) g dX9_countRuns_5 (by decide) (fun hc1 => ?_) (fun hc1 => ?_)
  · have hw := hw.2 hc1
    refine r_iconst (v := 1) g dX9_countRuns_12 (by decide) ?_
    refine r_ptI (C := RX9) (T := TX9) (N := 9) g (ci := 10) rfl tc_X9 tyX9 tyX9_ok nmX9 hp0 3 (by decide) tw_105 (fun _ h => h) rfl rfl rfl rfl dX9_countRuns_13 ?_
    have hw := hw _ rfl
    refine r_aload_n g dX9_countRuns_16 rfl 0 rfl ?_
    refine r_lconst (v := 0) g dX9_countRuns_17 (by decide) ?_
    refine r_ptL (C := RX9) (T := TX9) (N := 9) g (ci := 10) rfl tc_X9 tyX9 tyX9_ok nmX9 hp0 8 (by decide) tw_119 (fun _ h => h) rfl rfl rfl rfl dX9_countRuns_18 ?_
    have hw := hw _ rfl
    refine r_iconst (v := 1) g dX9_countRuns_21 (by decide) ?_
    refine r_istore_n (L' := [(3, .int (1 : Int32)), (0, .ref a0), (1, .ref a1), (2, .ref a2)]) g dX9_countRuns_22 rfl (by decide) rfl ?_
    obtain ⟨n41, hw⟩ := hw
    refine V_.sub (lo_X9_countRuns_23 g hr rfl n41 _ (1 : Int32) _ hw hp0 hp1 hp2 (fun  M40 hE hN42 => ?_)) [1, 2, 3, 0] rfl
    have hw := hE hN42
    have hT43 := Nk_.tr (Nk_.rf _) hN42
    exact r_vret g hr (Nat.le_of_ble_eq_true rfl) (Nat.le_of_ble_eq_true rfl) rfl dX9_countRuns_120 hw
  · have hw := hw.1 hc1
    refine r_iconst (v := 0) g dX9_countRuns_8 (by decide) ?_
    refine r_goto (tgt := 13) g dX9_countRuns_9 (by decide) ?_
    refine r_ptI (C := RX9) (T := TX9) (N := 9) g (ci := 10) rfl tc_X9 tyX9 tyX9_ok nmX9 hp0 3 (by decide) tw_105 (fun _ h => h) rfl rfl rfl rfl dX9_countRuns_13 ?_
    have hw := hw _ rfl
    refine r_aload_n g dX9_countRuns_16 rfl 0 rfl ?_
    refine r_lconst (v := 0) g dX9_countRuns_17 (by decide) ?_
    refine r_ptL (C := RX9) (T := TX9) (N := 9) g (ci := 10) rfl tc_X9 tyX9 tyX9_ok nmX9 hp0 8 (by decide) tw_119 (fun _ h => h) rfl rfl rfl rfl dX9_countRuns_18 ?_
    have hw := hw _ rfl
    refine r_iconst (v := 1) g dX9_countRuns_21 (by decide) ?_
    refine r_istore_n (L' := [(3, .int (1 : Int32)), (0, .ref a0), (1, .ref a1), (2, .ref a2)]) g dX9_countRuns_22 rfl (by decide) rfl ?_
    obtain ⟨n35, hw⟩ := hw
    refine V_.sub (lo_X9_countRuns_23 g hr rfl n35 _ (1 : Int32) _ hw hp0 hp1 hp2 (fun  M34 hE hN36 => ?_)) [1, 2, 3, 0] rfl
    have hw := hE hN36
    have hT37 := Nk_.tr (Nk_.rf _) hN36
    exact r_vret g hr (Nat.le_of_ble_eq_true rfl) (Nat.le_of_ble_eq_true rfl) rfl dX9_countRuns_120 hw
def rmX9_reckon : Room := { frames := 3, cells := 0, slots := 0, locals := 65 }
theorem hy_X9_reckon : yX9_reckon.cls ≠ "java/lang/invoke/MethodHandle" ∧ yX9_reckon.cls ≠ "java/lang/invoke/VarHandle" ∧ (parseMethodDescriptor yX9_reckon.desc).map (fun d => d.parameters.length) = some 4 := by decide +kernel
def lp_X9_reckon_94 (a0 : Nat) (K : Mm → Prop) (E : Mm → Prop) : Nat → Int32 → Mm → Prop
  | 0, _, _ => False
  | n + 1, x6, M => (((5 : Int32) ≤ x6 → E  M) ∧ (¬ (5 : Int32) ≤ x6 → (wp_X9_bytesIn a0 x6 M (fun M23 r24 => Nk_ M M23 → ((r24 < 0 → lp_X9_reckon_94 a0 K E n (x6 + (1 : Int32)) M23) ∧ (¬ r24 < 0 → (wp_X9_bytesIn a0 (it_ M23 a0 6) M23 (fun M30 r31 => Nk_ M23 M30 → ((r31 ≤ r24 → lp_X9_reckon_94 a0 K E n (x6 + (1 : Int32)) M30) ∧ (¬ r31 ≤ r24 → (∀ M37, M37 = sI_ M30 a0 6 x6 → lp_X9_reckon_94 a0 K E n (x6 + (1 : Int32)) M37)))))))))))
def wp_X9_reckon (a0 : Nat) (a1 : Nat) (a2 : Nat) (a3 : Nat) (x4 : Int32) (M : Mm) (K : Mm → Prop) : Prop := kd_ M a0 = 11 ∧ kd_ M a1 = 3 ∧ kd_ M a2 = 20 ∧ kd_ M a3 = 20 ∧ (∀ M1, M1 = sI_ M a0 0 x4 → (wp_X9_countValues a0 a1 a3 M1 (fun M2 => Nk_ M1 M2 → (wp_X9_countRuns a0 a1 a2 M2 (fun M10 => Nk_ M2 M10 → (((it_ M10 a0 0) ≤ (it_ M10 a0 1) → (∀ M19, M19 = sI_ M10 a0 4 (0 : Int32) → (∀ M20, M20 = sI_ M19 a0 5 (0 : Int32) → (∀ M21, M21 = sI_ M20 a0 6 (0 : Int32) → (∃ n39 : Nat, lp_X9_reckon_94 a0 K (fun  M38 => Nk_ M21 M38 → K M38) n39 (1 : Int32) M21))))) ∧ (¬ (it_ M10 a0 0) ≤ (it_ M10 a0 1) → (kd_ M10 (rf_ M10 a1 0) = 20 ∧ (vp_in (it_ M10 a0 1) (ln_ M10 a3) ∧ (vp_in (it_ M10 a3 (ix_ (it_ M10 a0 1))) (ln_ M10 (rf_ M10 a1 0)) ∧ (∀ M45, M45 = sI_ M10 a0 4 (it_ M10 (rf_ M10 a1 0) (ix_ (it_ M10 a3 (ix_ (it_ M10 a0 1))))) → (vp_in ((it_ M45 a0 0) - (1 : Int32)) (ln_ M10 a3) ∧ (vp_in (it_ M45 a3 (ix_ ((it_ M45 a0 0) - (1 : Int32)))) (ln_ M10 (rf_ M10 a1 0)) ∧ (∀ M48, M48 = sI_ M45 a0 5 (it_ M45 (rf_ M10 a1 0) (ix_ (it_ M45 a3 (ix_ ((it_ M45 a0 0) - (1 : Int32)))))) → (∀ M49, M49 = sI_ M48 a0 6 (0 : Int32) → (∃ n51 : Nat, lp_X9_reckon_94 a0 K (fun  M50 => Nk_ M49 M50 → K M50) n51 (1 : Int32) M49))))))))))))))))
set_option maxHeartbeats 4000000 in
set_option maxRecDepth 100000 in
theorem lo_X9_reckon_94 {p : Program} {l : Launch} {e : Env} {s : State} {m : MethodId} {args : Array Value} {below : List Frame} {meth : Method} {c : Code} {D : Dd_} {M0 : Mm} {Q : State → Prop} {K : Mm → Prop} (g : G_ p s m args meth c cX9_reckon 8 RX9 D M0) (hr : meth.sig.returnType = none) (hQ : Q = MQ below (va_Qv (fun M' => K M') (cB_ D M0 s.heap.size) (Aw_ M0 s.heap.size)) args s 0 0 (Aw_ M0 s.heap.size)) {a0 : Nat} : ∀ (n : Nat) (E : Mm → Prop) (x6 : Int32) (M : Mm), lp_X9_reckon_94 a0 K E n x6 M → kd_ M a0 = 11 → (∀  (M' : Mm), E  M' → Nk_ M M' → V_ p l e rmX9_reckon s m args below meth c 8 D M0 Q 138 [] [] M' 0 0) → V_ p l e rmX9_reckon s m args below meth c 8 D M0 Q 94 [(0, .ref a0), (6, .int x6)] [] M 0 0 := by
  intro n
  induction n with
  | zero =>
    intro E x6 M hw
    exact hw.elim
  | succ n ih =>
    intro E x6 M hw hp0 kE
    refine r_iload g dX9_reckon_94 1 rfl ?_
    refine r_iconst (v := 5) g dX9_reckon_96 (by decide) ?_
    refine r_icmp_ge (tgt := 138) g dX9_reckon_97 (by decide) (fun hc22 => ?_) (fun hc22 => ?_)
    · have hw := hw.1 hc22
      exact V_.sub (kE  _ hw (Nk_.rf _)) [] rfl
    · have hw := hw.2 hc22
      refine r_aload_n g dX9_reckon_100 rfl 0 rfl ?_
      refine r_iload g dX9_reckon_101 1 rfl ?_
      refine r_callVi (As := [.int x6]) g (fun sz => mt_X9_bytesIn hw sz) tw_799 tw_802 tw_8 tw_800 tw_801 (ci := 10) (T := TX9) (N := 9) rfl hp0 hy_X9_bytesIn ⟨rfl, rfl⟩ (Nat.le_of_ble_eq_true rfl) (Nat.le_of_ble_eq_true rfl) (Nat.le_of_ble_eq_true rfl) (Nat.le_of_ble_eq_true rfl) (Nat.le_of_ble_eq_true rfl) rfl dX9_reckon_103 (fun M23 r24 hK25 hN26 => ?_)
      have hw := hK25 hN26
      have hk27 := Nk_.k hN26 hp0 (by decide)
      have hT28 := Nk_.tr (Nk_.rf _) hN26
      refine r_istore (L' := [(7, .int r24), (0, .ref a0), (6, .int x6)]) g dX9_reckon_106 (by decide) rfl ?_
      refine r_iload g dX9_reckon_108 0 rfl ?_
      refine r_if_lt (tgt := 132) g dX9_reckon_110 (by decide) (fun hc29 => ?_) (fun hc29 => ?_)
      · have hw := hw.1 hc29
        refine r_iinc (v := x6 + (1 : Int32)) (L' := [(6, .int (x6 + (1 : Int32))), (7, .int r24), (0, .ref a0)]) g dX9_reckon_132 2 rfl rfl (by decide) rfl ?_
        refine r_goto (tgt := 94) g dX9_reckon_135 (by decide) ?_
        exact V_.sub (ih E (x6 + (1 : Int32)) _ hw hk27 (fun  M9 hE9 hN9 => kE  M9 hE9 (Nk_.tr hT28 hN9))) [2, 0] rfl
      · have hw := hw.2 hc29
        refine r_iload g dX9_reckon_113 0 rfl ?_
        refine r_aload_n g dX9_reckon_115 rfl 1 rfl ?_
        refine r_aload_n g dX9_reckon_116 rfl 1 rfl ?_
        refine r_gt (C := RX9) (T := TX9) (N := 9) g (ci := 10) rfl tc_X9 hk27 6 (by decide) tw_114 (fun _ h => h) rfl dX9_reckon_117 ?_
        refine r_callVi (As := [.int (it_ M23 a0 6)]) g (fun sz => mt_X9_bytesIn hw sz) tw_799 tw_802 tw_8 tw_800 tw_801 (ci := 10) (T := TX9) (N := 9) rfl hk27 hy_X9_bytesIn ⟨rfl, rfl⟩ (Nat.le_of_ble_eq_true rfl) (Nat.le_of_ble_eq_true rfl) (Nat.le_of_ble_eq_true rfl) (Nat.le_of_ble_eq_true rfl) (Nat.le_of_ble_eq_true rfl) rfl dX9_reckon_120 (fun M30 r31 hK32 hN33 => ?_)
        have hw := hK32 hN33
        have hk34 := Nk_.k hN33 hk27 (by decide)
        have hT35 := Nk_.tr hT28 hN33
        refine r_icmp_ge (tgt := 132) g dX9_reckon_123 (by decide) (fun hc36 => ?_) (fun hc36 => ?_)
        · have hw := hw.1 hc36
          refine r_iinc (v := x6 + (1 : Int32)) (L' := [(6, .int (x6 + (1 : Int32))), (7, .int r24), (0, .ref a0)]) g dX9_reckon_132 2 rfl rfl (by decide) rfl ?_
          refine r_goto (tgt := 94) g dX9_reckon_135 (by decide) ?_
          exact V_.sub (ih E (x6 + (1 : Int32)) _ hw hk34 (fun  M9 hE9 hN9 => kE  M9 hE9 (Nk_.tr hT35 hN9))) [2, 0] rfl
        · have hw := hw.2 hc36
          refine r_aload_n g dX9_reckon_126 rfl 1 rfl ?_
          refine r_iload g dX9_reckon_127 2 rfl ?_
          refine r_ptI (C := RX9) (T := TX9) (N := 9) g (ci := 10) rfl tc_X9 tyX9 tyX9_ok nmX9 hk34 6 (by decide) tw_114 (fun _ h => h) rfl rfl rfl rfl dX9_reckon_129 ?_
          have hw := hw _ rfl
          refine r_iinc (v := x6 + (1 : Int32)) (L' := [(6, .int (x6 + (1 : Int32))), (7, .int r24), (0, .ref a0)]) g dX9_reckon_132 2 rfl rfl (by decide) rfl ?_
          refine r_goto (tgt := 94) g dX9_reckon_135 (by decide) ?_
          exact V_.sub (ih E (x6 + (1 : Int32)) _ hw hk34 (fun  M9 hE9 hN9 => kE  M9 hE9 (Nk_.tr hT35 hN9))) [2, 0] rfl
set_option maxHeartbeats 4000000 in
set_option maxRecDepth 100000 in
theorem mt_X9_reckon {l : Launch} {D : Dd_} {M : Mm} {a0 : Nat} {a1 : Nat} {a2 : Nat} {a3 : Nat} {x4 : Int32} {K : Mm → Prop} (hw : wp_X9_reckon a0 a1 a2 a3 x4 M K) (sz : Nat) : Met l yX9_reckon (Cond.code yX9_reckon cX9_reckon 8 none :: tbG_) rmX9_reckon (cPc_ D M sz [.ref a0, .ref a1, .ref a2, .ref a3, .int x4]) (va_Qv (fun M' => K M') (cB_ D M sz) (Aw_ M sz)) 0 0 (Aw_ M sz) := by
  refine ofV (by decide) (Nat.le_of_ble_eq_true rfl) ?_
  intro p e s m below meth c g hr hin hsz
  subst hsz
  obtain ⟨hp0, hp1, hp2, hp3, hw⟩ := hw
  refine r_aload_n g dX9_reckon_0 rfl 0 rfl ?_
  refine r_iload g dX9_reckon_1 4 rfl ?_
  refine r_ptI (C := RX9) (T := TX9) (N := 9) g (ci := 10) rfl tc_X9 tyX9 tyX9_ok nmX9 hp0 0 (by decide) tw_96 (fun _ h => h) rfl rfl rfl rfl dX9_reckon_3 ?_
  have hw := hw _ rfl
  refine r_aload_n g dX9_reckon_6 rfl 0 rfl ?_
  refine r_aload_n g dX9_reckon_7 rfl 1 rfl ?_
  refine r_aload_n g dX9_reckon_8 rfl 3 rfl ?_
  refine r_callVv (As := [.ref a1, .ref a3]) g (fun sz => mt_X9_countValues hw sz) tw_782 tw_785 tw_8 tw_784 tp_21 (ci := 10) (T := TX9) (N := 9) rfl hp0 hy_X9_countValues ⟨rfl, rfl⟩ (Nat.le_of_ble_eq_true rfl) (Nat.le_of_ble_eq_true rfl) (Nat.le_of_ble_eq_true rfl) (Nat.le_of_ble_eq_true rfl) (Nat.le_of_ble_eq_true rfl) rfl dX9_reckon_9 (fun M2 hK3 hN4 => ?_)
  have hw := hK3 hN4
  have hk5 := Nk_.k hN4 hp0 (by decide)
  have hk6 := Nk_.k hN4 hp1 (by decide)
  have hk7 := Nk_.k hN4 hp2 (by decide)
  have hk8 := Nk_.k hN4 hp3 (by decide)
  have hT9 := Nk_.tr (Nk_.rf _) hN4
  refine r_aload_n g dX9_reckon_12 rfl 0 rfl ?_
  refine r_aload_n g dX9_reckon_13 rfl 1 rfl ?_
  refine r_aload_n g dX9_reckon_14 rfl 2 rfl ?_
  refine r_callVv (As := [.ref a1, .ref a2]) g (fun sz => mt_X9_countRuns hw sz) tw_790 tw_793 tw_8 tw_792 tp_22 (ci := 10) (T := TX9) (N := 9) rfl hk5 hy_X9_countRuns ⟨rfl, rfl⟩ (Nat.le_of_ble_eq_true rfl) (Nat.le_of_ble_eq_true rfl) (Nat.le_of_ble_eq_true rfl) (Nat.le_of_ble_eq_true rfl) (Nat.le_of_ble_eq_true rfl) rfl dX9_reckon_15 (fun M10 hK11 hN12 => ?_)
  have hw := hK11 hN12
  have hk13 := Nk_.k hN12 hk5 (by decide)
  have hk14 := Nk_.k hN12 hk6 (by decide)
  have hk15 := Nk_.k hN12 hk7 (by decide)
  have hk16 := Nk_.k hN12 hk8 (by decide)
  have hT17 := Nk_.tr hT9 hN12
  refine r_aload_n g dX9_reckon_18 rfl 0 rfl ?_
  refine r_gt (C := RX9) (T := TX9) (N := 9) g (ci := 10) rfl tc_X9 hk13 1 (by decide) tw_98 (fun _ h => h) rfl dX9_reckon_19 ?_
  refine r_aload_n g dX9_reckon_22 rfl 0 rfl ?_
  refine r_gt (C := RX9) (T := TX9) (N := 9) g (ci := 10) rfl tc_X9 hk13 0 (by decide) tw_96 (fun _ h => h) rfl dX9_reckon_23 ?_
  refine r_icmp_ge (tgt := 33) g dX9_reckon_26 (by decide) (fun hc18 => ?_) (fun hc18 => ?_)
  · have hw := hw.1 hc18
    refine r_iconst (v := 0) g dX9_reckon_33 (by decide) ?_
    refine r_istore (L' := [(5, .int (0 : Int32)), (0, .ref a0), (1, .ref a1), (2, .ref a2), (3, .ref a3), (4, .int x4)]) g dX9_reckon_34 (by decide) rfl ?_
    refine r_aload_n g dX9_reckon_36 rfl 1 rfl ?_
    refine r_iload g dX9_reckon_37 0 rfl ?_
    refine r_if_eq (tgt := 56) g dX9_reckon_39 (by decide) (fun _ => ?_) (fun h9 => absurd h9 (by decide))
    refine r_iconst (v := 0) g dX9_reckon_56 (by decide) ?_
    refine r_ptI (C := RX9) (T := TX9) (N := 9) g (ci := 10) rfl tc_X9 tyX9 tyX9_ok nmX9 hk13 4 (by decide) tw_108 (fun _ h => h) rfl rfl rfl rfl dX9_reckon_57 ?_
    have hw := hw _ rfl
    refine r_aload_n g dX9_reckon_60 rfl 1 rfl ?_
    refine r_iload g dX9_reckon_61 0 rfl ?_
    refine r_if_eq (tgt := 82) g dX9_reckon_63 (by decide) (fun _ => ?_) (fun h9 => absurd h9 (by decide))
    refine r_iconst (v := 0) g dX9_reckon_82 (by decide) ?_
    refine r_ptI (C := RX9) (T := TX9) (N := 9) g (ci := 10) rfl tc_X9 tyX9 tyX9_ok nmX9 hk13 5 (by decide) tw_111 (fun _ h => h) rfl rfl rfl rfl dX9_reckon_83 ?_
    have hw := hw _ rfl
    refine r_aload_n g dX9_reckon_86 rfl 1 rfl ?_
    refine r_iconst (v := 0) g dX9_reckon_87 (by decide) ?_
    refine r_ptI (C := RX9) (T := TX9) (N := 9) g (ci := 10) rfl tc_X9 tyX9 tyX9_ok nmX9 hk13 6 (by decide) tw_114 (fun _ h => h) rfl rfl rfl rfl dX9_reckon_88 ?_
    have hw := hw _ rfl
    refine r_iconst (v := 1) g dX9_reckon_91 (by decide) ?_
    refine r_istore (L' := [(6, .int (1 : Int32)), (5, .int (0 : Int32)), (0, .ref a0), (1, .ref a1), (2, .ref a2), (3, .ref a3), (4, .int x4)]) g dX9_reckon_92 (by decide) rfl ?_
    obtain ⟨n39, hw⟩ := hw
    refine V_.sub (lo_X9_reckon_94 g hr rfl n39 _ (1 : Int32) _ hw hk13 (fun  M38 hE hN40 => ?_)) [2, 0] rfl
    have hw := hE hN40
    have hT41 := Nk_.tr hT17 hN40
    exact r_vret g hr (Nat.le_of_ble_eq_true rfl) (Nat.le_of_ble_eq_true rfl) rfl dX9_reckon_138 hw
  · have hw := hw.2 hc18
    refine r_iconst (v := 1) g dX9_reckon_29 (by decide) ?_
    refine r_goto (tgt := 34) g dX9_reckon_30 (by decide) ?_
    refine r_istore (L' := [(5, .int (1 : Int32)), (0, .ref a0), (1, .ref a1), (2, .ref a2), (3, .ref a3), (4, .int x4)]) g dX9_reckon_34 (by decide) rfl ?_
    refine r_aload_n g dX9_reckon_36 rfl 1 rfl ?_
    refine r_iload g dX9_reckon_37 0 rfl ?_
    refine r_if_eq (tgt := 56) g dX9_reckon_39 (by decide) (fun h9 => absurd h9 (by decide)) (fun _ => ?_)
    refine r_aload_n g dX9_reckon_42 rfl 2 rfl ?_
    obtain ⟨hk42, hw⟩ := hw
    refine r_gtR (C := RX1) (T := TX1) (N := 5) g (ci := 2) rfl tc_X1 hk14 0 (by decide) tw_438 (fun _ h => h) rfl (k_ne hk42 (by decide)) dX9_reckon_43 ?_
    refine r_aload_n g dX9_reckon_46 rfl 4 rfl ?_
    refine r_aload_n g dX9_reckon_47 rfl 1 rfl ?_
    refine r_gt (C := RX9) (T := TX9) (N := 9) g (ci := 10) rfl tc_X9 hk13 1 (by decide) tw_98 (fun _ h => h) rfl dX9_reckon_48 ?_
    obtain ⟨hi43, hw⟩ := hw
    refine r_iald g (Or.inl hk16) hi43 dX9_reckon_51 ?_
    obtain ⟨hi44, hw⟩ := hw
    refine r_iald g (Or.inl hk42) hi44 dX9_reckon_52 ?_
    refine r_goto (tgt := 57) g dX9_reckon_53 (by decide) ?_
    refine r_ptI (C := RX9) (T := TX9) (N := 9) g (ci := 10) rfl tc_X9 tyX9 tyX9_ok nmX9 hk13 4 (by decide) tw_108 (fun _ h => h) rfl rfl rfl rfl dX9_reckon_57 ?_
    have hw := hw _ rfl
    refine r_aload_n g dX9_reckon_60 rfl 1 rfl ?_
    refine r_iload g dX9_reckon_61 0 rfl ?_
    refine r_if_eq (tgt := 82) g dX9_reckon_63 (by decide) (fun h9 => absurd h9 (by decide)) (fun _ => ?_)
    refine r_aload_n g dX9_reckon_66 rfl 2 rfl ?_
    refine r_gtR (C := RX1) (T := TX1) (N := 5) g (ci := 2) rfl tc_X1 hk14 0 (by decide) tw_438 (fun _ h => h) rfl (k_ne hk42 (by decide)) dX9_reckon_67 ?_
    refine r_aload_n g dX9_reckon_70 rfl 4 rfl ?_
    refine r_aload_n g dX9_reckon_71 rfl 1 rfl ?_
    refine r_gt (C := RX9) (T := TX9) (N := 9) g (ci := 10) rfl tc_X9 hk13 0 (by decide) tw_96 (fun _ h => h) rfl dX9_reckon_72 ?_
    refine r_iconst (v := 1) g dX9_reckon_75 (by decide) ?_
    refine r_isub g dX9_reckon_76 ?_
    obtain ⟨hi46, hw⟩ := hw
    refine r_iald g (Or.inl hk16) hi46 dX9_reckon_77 ?_
    obtain ⟨hi47, hw⟩ := hw
    refine r_iald g (Or.inl hk42) hi47 dX9_reckon_78 ?_
    refine r_goto (tgt := 83) g dX9_reckon_79 (by decide) ?_
    refine r_ptI (C := RX9) (T := TX9) (N := 9) g (ci := 10) rfl tc_X9 tyX9 tyX9_ok nmX9 hk13 5 (by decide) tw_111 (fun _ h => h) rfl rfl rfl rfl dX9_reckon_83 ?_
    have hw := hw _ rfl
    refine r_aload_n g dX9_reckon_86 rfl 1 rfl ?_
    refine r_iconst (v := 0) g dX9_reckon_87 (by decide) ?_
    refine r_ptI (C := RX9) (T := TX9) (N := 9) g (ci := 10) rfl tc_X9 tyX9 tyX9_ok nmX9 hk13 6 (by decide) tw_114 (fun _ h => h) rfl rfl rfl rfl dX9_reckon_88 ?_
    have hw := hw _ rfl
    refine r_iconst (v := 1) g dX9_reckon_91 (by decide) ?_
    refine r_istore (L' := [(6, .int (1 : Int32)), (5, .int (1 : Int32)), (0, .ref a0), (1, .ref a1), (2, .ref a2), (3, .ref a3), (4, .int x4)]) g dX9_reckon_92 (by decide) rfl ?_
    obtain ⟨n51, hw⟩ := hw
    refine V_.sub (lo_X9_reckon_94 g hr rfl n51 _ (1 : Int32) _ hw hk13 (fun  M50 hE hN52 => ?_)) [2, 0] rfl
    have hw := hE hN52
    have hT53 := Nk_.tr hT17 hN52
    exact r_vret g hr (Nat.le_of_ble_eq_true rfl) (Nat.le_of_ble_eq_true rfl) rfl dX9_reckon_138 hw
def rmX9_hasBitmaps : Room := { frames := 0, cells := 0, slots := 0, locals := 0 }
theorem hy_X9_hasBitmaps : yX9_hasBitmaps.cls ≠ "java/lang/invoke/MethodHandle" ∧ yX9_hasBitmaps.cls ≠ "java/lang/invoke/VarHandle" ∧ (parseMethodDescriptor yX9_hasBitmaps.desc).map (fun d => d.parameters.length) = some 0 := by decide +kernel
def wp_X9_hasBitmaps (a0 : Nat) (M : Mm) (K : Mm → Int32 → Prop) : Prop := kd_ M a0 = 11 ∧ (((it_ M a0 2) < (1 : Int32) → (K M (0 : Int32))) ∧ (¬ (it_ M a0 2) < (1 : Int32) → (((16 : Int32) < (it_ M a0 2) → (K M (0 : Int32))) ∧ (¬ (16 : Int32) < (it_ M a0 2) → (K M (1 : Int32))))))
set_option maxHeartbeats 4000000 in
set_option maxRecDepth 100000 in
theorem mt_X9_hasBitmaps {l : Launch} {D : Dd_} {M : Mm} {a0 : Nat} {K : Mm → Int32 → Prop} (hw : wp_X9_hasBitmaps a0 M K) (sz : Nat) : Met l yX9_hasBitmaps (Cond.code yX9_hasBitmaps cX9_hasBitmaps 1 (some .boolean) :: tbG_) rmX9_hasBitmaps (cPc_ D M sz [.ref a0]) (va_Qi (fun r M' => K M' r ∧ bz_ r) (cB_ D M sz) (Aw_ M sz)) 0 0 (Aw_ M sz) := by
  refine ofV (by decide) (Nat.le_of_ble_eq_true rfl) ?_
  intro p e s m below meth c g hr hin hsz
  subst hsz
  obtain ⟨hp0, hw⟩ := hw
  refine r_aload_n g dX9_hasBitmaps_0 rfl 0 rfl ?_
  refine r_gt (C := RX9) (T := TX9) (N := 9) g (ci := 10) rfl tc_X9 hp0 2 (by decide) tw_101 (fun _ h => h) rfl dX9_hasBitmaps_1 ?_
  refine r_iconst (v := 1) g dX9_hasBitmaps_4 (by decide) ?_
  refine r_icmp_lt (tgt := 21) g dX9_hasBitmaps_5 (by decide) (fun hc1 => ?_) (fun hc1 => ?_)
  · have hw := hw.1 hc1
    refine r_iconst (v := 0) g dX9_hasBitmaps_21 (by decide) ?_
    exact r_zret g hr (Nat.le_of_ble_eq_true rfl) (Nat.le_of_ble_eq_true rfl) rfl (Or.inl rfl) dX9_hasBitmaps_22 hw
  · have hw := hw.2 hc1
    refine r_aload_n g dX9_hasBitmaps_8 rfl 0 rfl ?_
    refine r_gt (C := RX9) (T := TX9) (N := 9) g (ci := 10) rfl tc_X9 hp0 2 (by decide) tw_101 (fun _ h => h) rfl dX9_hasBitmaps_9 ?_
    refine r_bipush (v := 16) g dX9_hasBitmaps_12 (by decide) ?_
    refine r_icmp_gt (tgt := 21) g dX9_hasBitmaps_14 (by decide) (fun hc2 => ?_) (fun hc2 => ?_)
    · have hw := hw.1 hc2
      refine r_iconst (v := 0) g dX9_hasBitmaps_21 (by decide) ?_
      exact r_zret g hr (Nat.le_of_ble_eq_true rfl) (Nat.le_of_ble_eq_true rfl) rfl (Or.inl rfl) dX9_hasBitmaps_22 hw
    · have hw := hw.2 hc2
      refine r_iconst (v := 1) g dX9_hasBitmaps_17 (by decide) ?_
      refine r_goto (tgt := 22) g dX9_hasBitmaps_18 (by decide) ?_
      exact r_zret g hr (Nat.le_of_ble_eq_true rfl) (Nat.le_of_ble_eq_true rfl) rfl (Or.inr rfl) dX9_hasBitmaps_22 hw
def rmX9_bytesOfBitmaps : Room := { frames := 1, cells := 0, slots := 0, locals := 20 }
theorem hy_X9_bytesOfBitmaps : yX9_bytesOfBitmaps.cls ≠ "java/lang/invoke/MethodHandle" ∧ yX9_bytesOfBitmaps.cls ≠ "java/lang/invoke/VarHandle" ∧ (parseMethodDescriptor yX9_bytesOfBitmaps.desc).map (fun d => d.parameters.length) = some 0 := by decide +kernel
def wp_X9_bytesOfBitmaps (a0 : Nat) (M : Mm) (K : Mm → Int32 → Prop) : Prop := kd_ M a0 = 11 ∧ (wp_X9_hasBitmaps a0 M (fun M1 r2 => Nk_ M M1 → bz_ r2 → ((r2 = 0 → (K M1 (0 : Int32))) ∧ (¬ r2 = 0 → (wp_X9_bytesFor (it_ M1 a0 0) M1 (fun M9 r10 => Nk_ M1 M9 → (K M9 ((it_ M1 a0 2) * r10))))))))
set_option maxHeartbeats 4000000 in
set_option maxRecDepth 100000 in
theorem mt_X9_bytesOfBitmaps {l : Launch} {D : Dd_} {M : Mm} {a0 : Nat} {K : Mm → Int32 → Prop} (hw : wp_X9_bytesOfBitmaps a0 M K) (sz : Nat) : Met l yX9_bytesOfBitmaps (Cond.code yX9_bytesOfBitmaps cX9_bytesOfBitmaps 1 (some .int) :: tbG_) rmX9_bytesOfBitmaps (cPc_ D M sz [.ref a0]) (va_Qi (fun r M' => K M' r) (cB_ D M sz) (Aw_ M sz)) 0 0 (Aw_ M sz) := by
  refine ofV (by decide) (Nat.le_of_ble_eq_true rfl) ?_
  intro p e s m below meth c g hr hin hsz
  subst hsz
  obtain ⟨hp0, hw⟩ := hw
  refine r_aload_n g dX9_bytesOfBitmaps_0 rfl 0 rfl ?_
  refine r_callVz (As := []) g (fun sz => mt_X9_hasBitmaps hw sz) tw_643 tw_597 tw_8 tw_595 tw_596 (ci := 10) (T := TX9) (N := 9) rfl hp0 hy_X9_hasBitmaps ⟨rfl, rfl⟩ (Nat.le_of_ble_eq_true rfl) (Nat.le_of_ble_eq_true rfl) (Nat.le_of_ble_eq_true rfl) (Nat.le_of_ble_eq_true rfl) (Nat.le_of_ble_eq_true rfl) rfl dX9_bytesOfBitmaps_1 (fun M1 r2 hK3 hb7 hN4 => ?_)
  have hw := hK3 hN4 hb7
  have hk5 := Nk_.k hN4 hp0 (by decide)
  have hT6 := Nk_.tr (Nk_.rf _) hN4
  refine r_if_eq (tgt := 22) g dX9_bytesOfBitmaps_4 (by decide) (fun hc8 => ?_) (fun hc8 => ?_)
  · have hw := hw.1 hc8
    refine r_iconst (v := 0) g dX9_bytesOfBitmaps_22 (by decide) ?_
    exact r_iret g hr (Nat.le_of_ble_eq_true rfl) (Nat.le_of_ble_eq_true rfl) rfl dX9_bytesOfBitmaps_23 hw
  · have hw := hw.2 hc8
    refine r_aload_n g dX9_bytesOfBitmaps_7 rfl 0 rfl ?_
    refine r_gt (C := RX9) (T := TX9) (N := 9) g (ci := 10) rfl tc_X9 hk5 2 (by decide) tw_101 (fun _ h => h) rfl dX9_bytesOfBitmaps_8 ?_
    refine r_aload_n g dX9_bytesOfBitmaps_11 rfl 0 rfl ?_
    refine r_gt (C := RX9) (T := TX9) (N := 9) g (ci := 10) rfl tc_X9 hk5 0 (by decide) tw_96 (fun _ h => h) rfl dX9_bytesOfBitmaps_12 ?_
    refine r_callSi (As := [.int (it_ M1 a0 0)]) g (fun sz => mt_X9_bytesFor hw sz) tw_644 tw_646 tw_8 tw_645 hy_X9_bytesFor ⟨rfl, rfl⟩ (Nat.le_of_ble_eq_true rfl) (Nat.le_of_ble_eq_true rfl) (Nat.le_of_ble_eq_true rfl) (Nat.le_of_ble_eq_true rfl) (Nat.le_of_ble_eq_true rfl) rfl dX9_bytesOfBitmaps_15 (fun M9 r10 hK11 hN12 => ?_)
    have hw := hK11 hN12
    have hk13 := Nk_.k hN12 hk5 (by decide)
    have hT14 := Nk_.tr hT6 hN12
    refine r_imul g dX9_bytesOfBitmaps_18 ?_
    refine r_goto (tgt := 23) g dX9_bytesOfBitmaps_19 (by decide) ?_
    exact r_iret g hr (Nat.le_of_ble_eq_true rfl) (Nat.le_of_ble_eq_true rfl) rfl dX9_bytesOfBitmaps_23 hw
def rmX9_bitmapsFor : Room := { frames := 1, cells := 0, slots := 0, locals := 22 }
theorem hy_X9_bitmapsFor : yX9_bitmapsFor.cls ≠ "java/lang/invoke/MethodHandle" ∧ yX9_bitmapsFor.cls ≠ "java/lang/invoke/VarHandle" ∧ (parseMethodDescriptor yX9_bitmapsFor.desc).map (fun d => d.parameters.length) = some 1 := by decide +kernel
def lp_X9_bitmapsFor_4 (a0 : Nat) (a1 : Nat) (K : Mm → Int32 → Prop) (E : Int32 → Mm → Prop) : Nat → Int32 → Int32 → Mm → Prop
  | 0, _, _, _ => False
  | n + 1, x2, x3, M => (((it_ M a0 2) ≤ x3 → E x2 M) ∧ (¬ (it_ M a0 2) ≤ x3 → (((16 : Int32) ≤ x3 → E x2 M) ∧ (¬ (16 : Int32) ≤ x3 → (kd_ M (rf_ M a0 7) = 20 ∧ (vp_in x3 (ln_ M (rf_ M a0 7)) ∧ (wp_X2_isMetBy a1 (0 : Int32) (it_ M (rf_ M a0 7) (ix_ x3)) M (fun M5 r6 => Nk_ M M5 → bz_ r6 → ((r6 = 0 → lp_X9_bitmapsFor_4 a0 a1 K E n x2 (x3 + (1 : Int32)) M5) ∧ (¬ r6 = 0 → lp_X9_bitmapsFor_4 a0 a1 K E n (x2 + (1 : Int32)) (x3 + (1 : Int32)) M5))))))))))
def wp_X9_bitmapsFor (a0 : Nat) (a1 : Nat) (M : Mm) (K : Mm → Int32 → Prop) : Prop := kd_ M a0 = 11 ∧ kd_ M a1 = 4 ∧ (∃ n16 : Nat, lp_X9_bitmapsFor_4 a0 a1 K (fun xv14 M15 => Nk_ M M15 → (K M15 xv14)) n16 (0 : Int32) (0 : Int32) M)
set_option maxHeartbeats 4000000 in
set_option maxRecDepth 100000 in
theorem lo_X9_bitmapsFor_4 {p : Program} {l : Launch} {e : Env} {s : State} {m : MethodId} {args : Array Value} {below : List Frame} {meth : Method} {c : Code} {D : Dd_} {M0 : Mm} {Q : State → Prop} {K : Mm → Int32 → Prop} (g : G_ p s m args meth c cX9_bitmapsFor 4 RX9 D M0) (hr : meth.sig.returnType = some .int) (hQ : Q = MQ below (va_Qi (fun r M' => K M' r) (cB_ D M0 s.heap.size) (Aw_ M0 s.heap.size)) args s 0 0 (Aw_ M0 s.heap.size)) {a0 : Nat} {a1 : Nat} : ∀ (n : Nat) (E : Int32 → Mm → Prop) (x2 : Int32) (x3 : Int32) (M : Mm), lp_X9_bitmapsFor_4 a0 a1 K E n x2 x3 M → kd_ M a0 = 11 → kd_ M a1 = 4 → (∀ (v2 : Int32) (M' : Mm), E v2 M' → Nk_ M M' → V_ p l e rmX9_bitmapsFor s m args below meth c 4 D M0 Q 41 [(2, .int v2)] [] M' 0 0) → V_ p l e rmX9_bitmapsFor s m args below meth c 4 D M0 Q 4 [(0, .ref a0), (1, .ref a1), (2, .int x2), (3, .int x3)] [] M 0 0 := by
  intro n
  induction n with
  | zero =>
    intro E x2 x3 M hw
    exact hw.elim
  | succ n ih =>
    intro E x2 x3 M hw hp0 hp1 kE
    refine r_iload_n g dX9_bitmapsFor_4 rfl 3 rfl ?_
    refine r_aload_n g dX9_bitmapsFor_5 rfl 0 rfl ?_
    refine r_gt (C := RX9) (T := TX9) (N := 9) g (ci := 10) rfl tc_X9 hp0 2 (by decide) tw_101 (fun _ h => h) rfl dX9_bitmapsFor_6 ?_
    refine r_icmp_ge (tgt := 41) g dX9_bitmapsFor_9 (by decide) (fun hc1 => ?_) (fun hc1 => ?_)
    · have hw := hw.1 hc1
      exact V_.sub (kE x2 _ hw (Nk_.rf _)) [2] rfl
    · have hw := hw.2 hc1
      refine r_iload_n g dX9_bitmapsFor_12 rfl 3 rfl ?_
      refine r_bipush (v := 16) g dX9_bitmapsFor_13 (by decide) ?_
      refine r_icmp_ge (tgt := 41) g dX9_bitmapsFor_15 (by decide) (fun hc2 => ?_) (fun hc2 => ?_)
      · have hw := hw.1 hc2
        exact V_.sub (kE x2 _ hw (Nk_.rf _)) [2] rfl
      · have hw := hw.2 hc2
        refine r_aload_n g dX9_bitmapsFor_18 rfl 1 rfl ?_
        refine r_iconst (v := 0) g dX9_bitmapsFor_19 (by decide) ?_
        refine r_aload_n g dX9_bitmapsFor_20 rfl 0 rfl ?_
        obtain ⟨hk3, hw⟩ := hw
        refine r_gtR (C := RX9) (T := TX9) (N := 9) g (ci := 10) rfl tc_X9 hp0 7 (by decide) tw_118 (fun _ h => h) rfl (k_ne hk3 (by decide)) dX9_bitmapsFor_21 ?_
        refine r_iload_n g dX9_bitmapsFor_24 rfl 3 rfl ?_
        obtain ⟨hi4, hw⟩ := hw
        refine r_iald g (Or.inl hk3) hi4 dX9_bitmapsFor_25 ?_
        refine r_callVz (As := [.int (0 : Int32), .int (it_ M (rf_ M a0 7) (ix_ x3))]) g (fun sz => mt_X2_isMetBy hw sz) tw_602 tw_605 tw_11 tw_603 tw_604 (ci := 3) (T := TX2) (N := 3) rfl hp1 hy_X2_isMetBy ⟨rfl, rfl⟩ (Nat.le_of_ble_eq_true rfl) (Nat.le_of_ble_eq_true rfl) (Nat.le_of_ble_eq_true rfl) (Nat.le_of_ble_eq_true rfl) (Nat.le_of_ble_eq_true rfl) rfl dX9_bitmapsFor_26 (fun M5 r6 hK7 hb12 hN8 => ?_)
        have hw := hK7 hN8 hb12
        have hk9 := Nk_.k hN8 hp0 (by decide)
        have hk10 := Nk_.k hN8 hp1 (by decide)
        have hT11 := Nk_.tr (Nk_.rf _) hN8
        refine r_if_eq (tgt := 35) g dX9_bitmapsFor_29 (by decide) (fun hc13 => ?_) (fun hc13 => ?_)
        · have hw := hw.1 hc13
          refine r_iinc (v := x3 + (1 : Int32)) (L' := [(3, .int (x3 + (1 : Int32))), (0, .ref a0), (1, .ref a1), (2, .int x2)]) g dX9_bitmapsFor_35 3 rfl rfl (by decide) rfl ?_
          refine r_goto (tgt := 4) g dX9_bitmapsFor_38 (by decide) ?_
          exact V_.sub (ih E x2 (x3 + (1 : Int32)) _ hw hk9 hk10 (fun v2 M9 hE9 hN9 => kE v2 M9 hE9 (Nk_.tr hT11 hN9))) [1, 2, 3, 0] rfl
        · have hw := hw.2 hc13
          refine r_iinc (v := x2 + (1 : Int32)) (L' := [(2, .int (x2 + (1 : Int32))), (0, .ref a0), (1, .ref a1), (3, .int x3)]) g dX9_bitmapsFor_32 2 rfl rfl (by decide) rfl ?_
          refine r_iinc (v := x3 + (1 : Int32)) (L' := [(3, .int (x3 + (1 : Int32))), (2, .int (x2 + (1 : Int32))), (0, .ref a0), (1, .ref a1)]) g dX9_bitmapsFor_35 3 rfl rfl (by decide) rfl ?_
          refine r_goto (tgt := 4) g dX9_bitmapsFor_38 (by decide) ?_
          exact V_.sub (ih E (x2 + (1 : Int32)) (x3 + (1 : Int32)) _ hw hk9 hk10 (fun v2 M9 hE9 hN9 => kE v2 M9 hE9 (Nk_.tr hT11 hN9))) [2, 3, 1, 0] rfl
set_option maxHeartbeats 4000000 in
set_option maxRecDepth 100000 in
theorem mt_X9_bitmapsFor {l : Launch} {D : Dd_} {M : Mm} {a0 : Nat} {a1 : Nat} {K : Mm → Int32 → Prop} (hw : wp_X9_bitmapsFor a0 a1 M K) (sz : Nat) : Met l yX9_bitmapsFor (Cond.code yX9_bitmapsFor cX9_bitmapsFor 4 (some .int) :: tbG_) rmX9_bitmapsFor (cPc_ D M sz [.ref a0, .ref a1]) (va_Qi (fun r M' => K M' r) (cB_ D M sz) (Aw_ M sz)) 0 0 (Aw_ M sz) := by
  refine ofV (by decide) (Nat.le_of_ble_eq_true rfl) ?_
  intro p e s m below meth c g hr hin hsz
  subst hsz
  obtain ⟨hp0, hp1, hw⟩ := hw
  refine r_iconst (v := 0) g dX9_bitmapsFor_0 (by decide) ?_
  refine r_istore_n (L' := [(2, .int (0 : Int32)), (0, .ref a0), (1, .ref a1)]) g dX9_bitmapsFor_1 rfl (by decide) rfl ?_
  refine r_iconst (v := 0) g dX9_bitmapsFor_2 (by decide) ?_
  refine r_istore_n (L' := [(3, .int (0 : Int32)), (2, .int (0 : Int32)), (0, .ref a0), (1, .ref a1)]) g dX9_bitmapsFor_3 rfl (by decide) rfl ?_
  obtain ⟨n16, hw⟩ := hw
  refine V_.sub (lo_X9_bitmapsFor_4 g hr rfl n16 _ (0 : Int32) (0 : Int32) _ hw hp0 hp1 (fun xv14 M15 hE hN17 => ?_)) [2, 3, 1, 0] rfl
  have hw := hE hN17
  have hT18 := Nk_.tr (Nk_.rf _) hN17
  refine r_iload_n g dX9_bitmapsFor_41 rfl 0 rfl ?_
  exact r_iret g hr (Nat.le_of_ble_eq_true rfl) (Nat.le_of_ble_eq_true rfl) rfl dX9_bitmapsFor_42 hw
