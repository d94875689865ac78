/-! walks by program: 13.cond -/
def rmX2_isMetByNone : Room := { frames := 0, cells := 0, slots := 0, locals := 0 }
theorem hy_X2_isMetByNone : yX2_isMetByNone.cls ≠ "java/lang/invoke/MethodHandle" ∧ yX2_isMetByNone.cls ≠ "java/lang/invoke/VarHandle" ∧ (parseMethodDescriptor yX2_isMetByNone.desc).map (fun d => d.parameters.length) = some 1 := by decide +kernel
def wp_X2_isMetByNone (a0 : Nat) (a1 : Nat) (M : Mm) (K : Mm → Int32 → Prop) : Prop := kd_ M a0 = 4 ∧ kd_ M a1 = 11 ∧ (((it_ M a1 1) = (it_ M a1 0) → (((it_ M a0 1) = 0 → (K M (1 : Int32))) ∧ ((it_ M a0 1) = 1 → (K M (1 : Int32))) ∧ ((it_ M a0 1) = 2 → (K M (1 : Int32))) ∧ ((it_ M a0 1) = 3 → (K M (1 : Int32))) ∧ ((it_ M a0 1) = 4 → (K M (1 : Int32))) ∧ ((it_ M a0 1) = 5 → (K M (1 : Int32))) ∧ ((it_ M a0 1) = 6 → (((it_ M a1 1) = 0 → (K M (1 : Int32))) ∧ (¬ (it_ M a1 1) = 0 → (K M (0 : Int32))))) ∧ ((it_ M a0 1) = 7 → (K M (1 : Int32))) ∧ (¬ (it_ M a0 1) = 0 → ¬ (it_ M a0 1) = 1 → ¬ (it_ M a0 1) = 2 → ¬ (it_ M a0 1) = 3 → ¬ (it_ M a0 1) = 4 → ¬ (it_ M a0 1) = 5 → ¬ (it_ M a0 1) = 6 → ¬ (it_ M a0 1) = 7 → (K M (1 : Int32))))) ∧ (¬ (it_ M a1 1) = (it_ M a1 0) → (((it_ M a0 1) = 0 → (((it_ M a0 2) < (it_ M a1 4) → (K M (1 : Int32))) ∧ (¬ (it_ M a0 2) < (it_ M a1 4) → (((it_ M a0 2) ≤ (it_ M a1 5) → (K M (0 : Int32))) ∧ (¬ (it_ M a0 2) ≤ (it_ M a1 5) → (K M (1 : Int32))))))) ∧ ((it_ M a0 1) = 1 → (((it_ M a1 4) = (it_ M a0 2) → (((it_ M a1 5) = (it_ M a0 2) → (K M (1 : Int32))) ∧ (¬ (it_ M a1 5) = (it_ M a0 2) → (K M (0 : Int32))))) ∧ (¬ (it_ M a1 4) = (it_ M a0 2) → (K M (0 : Int32))))) ∧ ((it_ M a0 1) = 2 → (((it_ M a1 4) < (it_ M a0 2) → (K M (0 : Int32))) ∧ (¬ (it_ M a1 4) < (it_ M a0 2) → (K M (1 : Int32))))) ∧ ((it_ M a0 1) = 3 → (((it_ M a1 4) ≤ (it_ M a0 2) → (K M (0 : Int32))) ∧ (¬ (it_ M a1 4) ≤ (it_ M a0 2) → (K M (1 : Int32))))) ∧ ((it_ M a0 1) = 4 → (((it_ M a0 2) < (it_ M a1 5) → (K M (0 : Int32))) ∧ (¬ (it_ M a0 2) < (it_ M a1 5) → (K M (1 : Int32))))) ∧ ((it_ M a0 1) = 5 → (((it_ M a0 2) ≤ (it_ M a1 5) → (K M (0 : Int32))) ∧ (¬ (it_ M a0 2) ≤ (it_ M a1 5) → (K M (1 : Int32))))) ∧ ((it_ M a0 1) = 6 → (((it_ M a1 1) = 0 → (K M (1 : Int32))) ∧ (¬ (it_ M a1 1) = 0 → (K M (0 : Int32))))) ∧ ((it_ M a0 1) = 7 → (K M (0 : Int32))) ∧ (¬ (it_ M a0 1) = 0 → ¬ (it_ M a0 1) = 1 → ¬ (it_ M a0 1) = 2 → ¬ (it_ M a0 1) = 3 → ¬ (it_ M a0 1) = 4 → ¬ (it_ M a0 1) = 5 → ¬ (it_ M a0 1) = 6 → ¬ (it_ M a0 1) = 7 → (K M (1 : Int32))))))
set_option maxHeartbeats 4000000 in
set_option maxRecDepth 100000 in
theorem mt_X2_isMetByNone {l : Launch} {D : Dd_} {M : Mm} {a0 : Nat} {a1 : Nat} {K : Mm → Int32 → Prop} (hw : wp_X2_isMetByNone a0 a1 M K) (sz : Nat) : Met l yX2_isMetByNone (Cond.code yX2_isMetByNone cX2_isMetByNone 3 (some .boolean) :: tbG_) rmX2_isMetByNone (cPc_ D M sz [.ref a0, .ref a1]) (va_Qi (fun r M' => K M' r ∧ bz_ r) (cB_ D M sz) (Aw_ M sz)) 0 0 (Aw_ M sz) := by
  refine ofV (by decide) (Nat.le_of_ble_eq_true rfl) ?_
  intro p e s m below meth c g hr hin hsz
  subst hsz
  obtain ⟨hp0, hp1, hw⟩ := hw
  refine r_aload_n g dX2_isMetByNone_0 rfl 1 rfl ?_
  refine r_gt (C := RX9) (T := TX9) (N := 9) g (ci := 10) rfl tc_X9 hp1 1 (by decide) tw_99 (fun _ h => h) rfl dX2_isMetByNone_1 ?_
  refine r_aload_n g dX2_isMetByNone_4 rfl 1 rfl ?_
  refine r_gt (C := RX9) (T := TX9) (N := 9) g (ci := 10) rfl tc_X9 hp1 0 (by decide) tw_97 (fun _ h => h) rfl dX2_isMetByNone_5 ?_
  refine r_icmp_ne (tgt := 15) g dX2_isMetByNone_8 (by decide) (fun hc1 => ?_) (fun hc1 => ?_)
  · have hw := hw.2 hc1
    refine r_iconst (v := 0) g dX2_isMetByNone_15 (by decide) ?_
    refine r_istore_n (L' := [(2, .int (0 : Int32)), (0, .ref a0), (1, .ref a1)]) g dX2_isMetByNone_16 rfl (by decide) rfl ?_
    refine r_aload_n g dX2_isMetByNone_17 rfl 1 rfl ?_
    refine r_gt (C := RX2) (T := TX2) (N := 3) g (ci := 3) rfl tc_X2 hp0 1 (by decide) tw_232 (fun _ h => h) rfl dX2_isMetByNone_18 ?_
    by_cases hs11 : (it_ M a0 1) = 0
    · have hw := hw.1 hs11
      refine r_tsi (v := 0) (j := 0) (tgt := 68) g dX2_isMetByNone_21 hs11 (by decide) (by decide) (by decide) (by decide) ?_
      refine r_iload_n g dX2_isMetByNone_68 rfl 0 rfl ?_
      refine r_if_ne (tgt := 94) g dX2_isMetByNone_69 (by decide) (fun h9 => absurd h9 (by decide)) (fun _ => ?_)
      refine r_aload_n g dX2_isMetByNone_72 rfl 1 rfl ?_
      refine r_gt (C := RX2) (T := TX2) (N := 3) g (ci := 3) rfl tc_X2 hp0 2 (by decide) tw_233 (fun _ h => h) rfl dX2_isMetByNone_73 ?_
      refine r_aload_n g dX2_isMetByNone_76 rfl 2 rfl ?_
      refine r_gt (C := RX9) (T := TX9) (N := 9) g (ci := 10) rfl tc_X9 hp1 4 (by decide) tw_109 (fun _ h => h) rfl dX2_isMetByNone_77 ?_
      refine r_icmp_lt (tgt := 94) g dX2_isMetByNone_80 (by decide) (fun hc12 => ?_) (fun hc12 => ?_)
      · have hw := hw.1 hc12
        refine r_iconst (v := 1) g dX2_isMetByNone_94 (by decide) ?_
        refine r_goto (tgt := 99) g dX2_isMetByNone_95 (by decide) ?_
        exact r_zret g hr (Nat.le_of_ble_eq_true rfl) (Nat.le_of_ble_eq_true rfl) rfl (Or.inr rfl) dX2_isMetByNone_99 hw
      · have hw := hw.2 hc12
        refine r_aload_n g dX2_isMetByNone_83 rfl 1 rfl ?_
        refine r_gt (C := RX2) (T := TX2) (N := 3) g (ci := 3) rfl tc_X2 hp0 2 (by decide) tw_233 (fun _ h => h) rfl dX2_isMetByNone_84 ?_
        refine r_aload_n g dX2_isMetByNone_87 rfl 2 rfl ?_
        refine r_gt (C := RX9) (T := TX9) (N := 9) g (ci := 10) rfl tc_X9 hp1 5 (by decide) tw_112 (fun _ h => h) rfl dX2_isMetByNone_88 ?_
        refine r_icmp_le (tgt := 98) g dX2_isMetByNone_91 (by decide) (fun hc13 => ?_) (fun hc13 => ?_)
        · have hw := hw.1 hc13
          refine r_iconst (v := 0) g dX2_isMetByNone_98 (by decide) ?_
          exact r_zret g hr (Nat.le_of_ble_eq_true rfl) (Nat.le_of_ble_eq_true rfl) rfl (Or.inl rfl) dX2_isMetByNone_99 hw
        · have hw := hw.2 hc13
          refine r_iconst (v := 1) g dX2_isMetByNone_94 (by decide) ?_
          refine r_goto (tgt := 99) g dX2_isMetByNone_95 (by decide) ?_
          exact r_zret g hr (Nat.le_of_ble_eq_true rfl) (Nat.le_of_ble_eq_true rfl) rfl (Or.inr rfl) dX2_isMetByNone_99 hw
    · by_cases hs14 : (it_ M a0 1) = 1
      · have hw := hw.2.1 hs14
        refine r_tsi (v := 1) (j := 1) (tgt := 100) g dX2_isMetByNone_21 hs14 (by decide) (by decide) (by decide) (by decide) ?_
        refine r_iload_n g dX2_isMetByNone_100 rfl 0 rfl ?_
        refine r_if_ne (tgt := 126) g dX2_isMetByNone_101 (by decide) (fun h9 => absurd h9 (by decide)) (fun _ => ?_)
        refine r_aload_n g dX2_isMetByNone_104 rfl 2 rfl ?_
        refine r_gt (C := RX9) (T := TX9) (N := 9) g (ci := 10) rfl tc_X9 hp1 4 (by decide) tw_109 (fun _ h => h) rfl dX2_isMetByNone_105 ?_
        refine r_aload_n g dX2_isMetByNone_108 rfl 1 rfl ?_
        refine r_gt (C := RX2) (T := TX2) (N := 3) g (ci := 3) rfl tc_X2 hp0 2 (by decide) tw_233 (fun _ h => h) rfl dX2_isMetByNone_109 ?_
        refine r_icmp_ne (tgt := 130) g dX2_isMetByNone_112 (by decide) (fun hc15 => ?_) (fun hc15 => ?_)
        · have hw := hw.2 hc15
          refine r_iconst (v := 0) g dX2_isMetByNone_130 (by decide) ?_
          exact r_zret g hr (Nat.le_of_ble_eq_true rfl) (Nat.le_of_ble_eq_true rfl) rfl (Or.inl rfl) dX2_isMetByNone_131 hw
        · have hw := hw.1 hc15
          refine r_aload_n g dX2_isMetByNone_115 rfl 2 rfl ?_
          refine r_gt (C := RX9) (T := TX9) (N := 9) g (ci := 10) rfl tc_X9 hp1 5 (by decide) tw_112 (fun _ h => h) rfl dX2_isMetByNone_116 ?_
          refine r_aload_n g dX2_isMetByNone_119 rfl 1 rfl ?_
          refine r_gt (C := RX2) (T := TX2) (N := 3) g (ci := 3) rfl tc_X2 hp0 2 (by decide) tw_233 (fun _ h => h) rfl dX2_isMetByNone_120 ?_
          refine r_icmp_ne (tgt := 130) g dX2_isMetByNone_123 (by decide) (fun hc16 => ?_) (fun hc16 => ?_)
          · have hw := hw.2 hc16
            refine r_iconst (v := 0) g dX2_isMetByNone_130 (by decide) ?_
            exact r_zret g hr (Nat.le_of_ble_eq_true rfl) (Nat.le_of_ble_eq_true rfl) rfl (Or.inl rfl) dX2_isMetByNone_131 hw
          · have hw := hw.1 hc16
            refine r_iconst (v := 1) g dX2_isMetByNone_126 (by decide) ?_
            refine r_goto (tgt := 131) g dX2_isMetByNone_127 (by decide) ?_
            exact r_zret g hr (Nat.le_of_ble_eq_true rfl) (Nat.le_of_ble_eq_true rfl) rfl (Or.inr rfl) dX2_isMetByNone_131 hw
      · by_cases hs17 : (it_ M a0 1) = 2
        · have hw := hw.2.2.1 hs17
          refine r_tsi (v := 2) (j := 2) (tgt := 132) g dX2_isMetByNone_21 hs17 (by decide) (by decide) (by decide) (by decide) ?_
          refine r_iload_n g dX2_isMetByNone_132 rfl 0 rfl ?_
          refine r_if_ne (tgt := 147) g dX2_isMetByNone_133 (by decide) (fun h9 => absurd h9 (by decide)) (fun _ => ?_)
          refine r_aload_n g dX2_isMetByNone_136 rfl 2 rfl ?_
          refine r_gt (C := RX9) (T := TX9) (N := 9) g (ci := 10) rfl tc_X9 hp1 4 (by decide) tw_109 (fun _ h => h) rfl dX2_isMetByNone_137 ?_
          refine r_aload_n g dX2_isMetByNone_140 rfl 1 rfl ?_
          refine r_gt (C := RX2) (T := TX2) (N := 3) g (ci := 3) rfl tc_X2 hp0 2 (by decide) tw_233 (fun _ h => h) rfl dX2_isMetByNone_141 ?_
          refine r_icmp_lt (tgt := 151) g dX2_isMetByNone_144 (by decide) (fun hc18 => ?_) (fun hc18 => ?_)
          · have hw := hw.1 hc18
            refine r_iconst (v := 0) g dX2_isMetByNone_151 (by decide) ?_
            exact r_zret g hr (Nat.le_of_ble_eq_true rfl) (Nat.le_of_ble_eq_true rfl) rfl (Or.inl rfl) dX2_isMetByNone_152 hw
          · have hw := hw.2 hc18
            refine r_iconst (v := 1) g dX2_isMetByNone_147 (by decide) ?_
            refine r_goto (tgt := 152) g dX2_isMetByNone_148 (by decide) ?_
            exact r_zret g hr (Nat.le_of_ble_eq_true rfl) (Nat.le_of_ble_eq_true rfl) rfl (Or.inr rfl) dX2_isMetByNone_152 hw
        · by_cases hs19 : (it_ M a0 1) = 3
          · have hw := hw.2.2.2.1 hs19
            refine r_tsi (v := 3) (j := 3) (tgt := 153) g dX2_isMetByNone_21 hs19 (by decide) (by decide) (by decide) (by decide) ?_
            refine r_iload_n g dX2_isMetByNone_153 rfl 0 rfl ?_
            refine r_if_ne (tgt := 168) g dX2_isMetByNone_154 (by decide) (fun h9 => absurd h9 (by decide)) (fun _ => ?_)
            refine r_aload_n g dX2_isMetByNone_157 rfl 2 rfl ?_
            refine r_gt (C := RX9) (T := TX9) (N := 9) g (ci := 10) rfl tc_X9 hp1 4 (by decide) tw_109 (fun _ h => h) rfl dX2_isMetByNone_158 ?_
            refine r_aload_n g dX2_isMetByNone_161 rfl 1 rfl ?_
            refine r_gt (C := RX2) (T := TX2) (N := 3) g (ci := 3) rfl tc_X2 hp0 2 (by decide) tw_233 (fun _ h => h) rfl dX2_isMetByNone_162 ?_
            refine r_icmp_le (tgt := 172) g dX2_isMetByNone_165 (by decide) (fun hc20 => ?_) (fun hc20 => ?_)
            · have hw := hw.1 hc20
              refine r_iconst (v := 0) g dX2_isMetByNone_172 (by decide) ?_
              exact r_zret g hr (Nat.le_of_ble_eq_true rfl) (Nat.le_of_ble_eq_true rfl) rfl (Or.inl rfl) dX2_isMetByNone_173 hw
            · have hw := hw.2 hc20
              refine r_iconst (v := 1) g dX2_isMetByNone_168 (by decide) ?_
              refine r_goto (tgt := 173) g dX2_isMetByNone_169 (by decide) ?_
              exact r_zret g hr (Nat.le_of_ble_eq_true rfl) (Nat.le_of_ble_eq_true rfl) rfl (Or.inr rfl) dX2_isMetByNone_173 hw
          · by_cases hs21 : (it_ M a0 1) = 4
            · have hw := hw.2.2.2.2.1 hs21
              refine r_tsi (v := 4) (j := 4) (tgt := 174) g dX2_isMetByNone_21 hs21 (by decide) (by decide) (by decide) (by decide) ?_
              refine r_iload_n g dX2_isMetByNone_174 rfl 0 rfl ?_
              refine r_if_ne (tgt := 189) g dX2_isMetByNone_175 (by decide) (fun h9 => absurd h9 (by decide)) (fun _ => ?_)
              refine r_aload_n g dX2_isMetByNone_178 rfl 2 rfl ?_
              refine r_gt (C := RX9) (T := TX9) (N := 9) g (ci := 10) rfl tc_X9 hp1 5 (by decide) tw_112 (fun _ h => h) rfl dX2_isMetByNone_179 ?_
              refine r_aload_n g dX2_isMetByNone_182 rfl 1 rfl ?_
              refine r_gt (C := RX2) (T := TX2) (N := 3) g (ci := 3) rfl tc_X2 hp0 2 (by decide) tw_233 (fun _ h => h) rfl dX2_isMetByNone_183 ?_
              refine r_icmp_gt (tgt := 193) g dX2_isMetByNone_186 (by decide) (fun hc22 => ?_) (fun hc22 => ?_)
              · have hw := hw.1 hc22
                refine r_iconst (v := 0) g dX2_isMetByNone_193 (by decide) ?_
                exact r_zret g hr (Nat.le_of_ble_eq_true rfl) (Nat.le_of_ble_eq_true rfl) rfl (Or.inl rfl) dX2_isMetByNone_194 hw
              · have hw := hw.2 hc22
                refine r_iconst (v := 1) g dX2_isMetByNone_189 (by decide) ?_
                refine r_goto (tgt := 194) g dX2_isMetByNone_190 (by decide) ?_
                exact r_zret g hr (Nat.le_of_ble_eq_true rfl) (Nat.le_of_ble_eq_true rfl) rfl (Or.inr rfl) dX2_isMetByNone_194 hw
            · by_cases hs23 : (it_ M a0 1) = 5
              · have hw := hw.2.2.2.2.2.1 hs23
                refine r_tsi (v := 5) (j := 5) (tgt := 195) g dX2_isMetByNone_21 hs23 (by decide) (by decide) (by decide) (by decide) ?_
                refine r_iload_n g dX2_isMetByNone_195 rfl 0 rfl ?_
                refine r_if_ne (tgt := 210) g dX2_isMetByNone_196 (by decide) (fun h9 => absurd h9 (by decide)) (fun _ => ?_)
                refine r_aload_n g dX2_isMetByNone_199 rfl 2 rfl ?_
                refine r_gt (C := RX9) (T := TX9) (N := 9) g (ci := 10) rfl tc_X9 hp1 5 (by decide) tw_112 (fun _ h => h) rfl dX2_isMetByNone_200 ?_
                refine r_aload_n g dX2_isMetByNone_203 rfl 1 rfl ?_
                refine r_gt (C := RX2) (T := TX2) (N := 3) g (ci := 3) rfl tc_X2 hp0 2 (by decide) tw_233 (fun _ h => h) rfl dX2_isMetByNone_204 ?_
                refine r_icmp_ge (tgt := 214) g dX2_isMetByNone_207 (by decide) (fun hc24 => ?_) (fun hc24 => ?_)
                · have hw := hw.1 hc24
                  refine r_iconst (v := 0) g dX2_isMetByNone_214 (by decide) ?_
                  exact r_zret g hr (Nat.le_of_ble_eq_true rfl) (Nat.le_of_ble_eq_true rfl) rfl (Or.inl rfl) dX2_isMetByNone_215 hw
                · have hw := hw.2 hc24
                  refine r_iconst (v := 1) g dX2_isMetByNone_210 (by decide) ?_
                  refine r_goto (tgt := 215) g dX2_isMetByNone_211 (by decide) ?_
                  exact r_zret g hr (Nat.le_of_ble_eq_true rfl) (Nat.le_of_ble_eq_true rfl) rfl (Or.inr rfl) dX2_isMetByNone_215 hw
              · by_cases hs25 : (it_ M a0 1) = 6
                · have hw := hw.2.2.2.2.2.2.1 hs25
                  refine r_tsi (v := 6) (j := 6) (tgt := 216) g dX2_isMetByNone_21 hs25 (by decide) (by decide) (by decide) (by decide) ?_
                  refine r_aload_n g dX2_isMetByNone_216 rfl 2 rfl ?_
                  refine r_gt (C := RX9) (T := TX9) (N := 9) g (ci := 10) rfl tc_X9 hp1 1 (by decide) tw_99 (fun _ h => h) rfl dX2_isMetByNone_217 ?_
                  refine r_if_ne (tgt := 227) g dX2_isMetByNone_220 (by decide) (fun hc26 => ?_) (fun hc26 => ?_)
                  · have hw := hw.2 hc26
                    refine r_iconst (v := 0) g dX2_isMetByNone_227 (by decide) ?_
                    exact r_zret g hr (Nat.le_of_ble_eq_true rfl) (Nat.le_of_ble_eq_true rfl) rfl (Or.inl rfl) dX2_isMetByNone_228 hw
                  · have hw := hw.1 hc26
                    refine r_iconst (v := 1) g dX2_isMetByNone_223 (by decide) ?_
                    refine r_goto (tgt := 228) g dX2_isMetByNone_224 (by decide) ?_
                    exact r_zret g hr (Nat.le_of_ble_eq_true rfl) (Nat.le_of_ble_eq_true rfl) rfl (Or.inr rfl) dX2_isMetByNone_228 hw
                · by_cases hs27 : (it_ M a0 1) = 7
                  · have hw := hw.2.2.2.2.2.2.2.1 hs27
                    refine r_tsi (v := 7) (j := 7) (tgt := 229) g dX2_isMetByNone_21 hs27 (by decide) (by decide) (by decide) (by decide) ?_
                    refine r_iload_n g dX2_isMetByNone_229 rfl 0 rfl ?_
                    exact r_zret g hr (Nat.le_of_ble_eq_true rfl) (Nat.le_of_ble_eq_true rfl) rfl (Or.inl rfl) dX2_isMetByNone_230 hw
                  · have hw := hw.2.2.2.2.2.2.2.2 hs11 hs14 hs17 hs19 hs21 hs23 hs25 hs27
                    refine r_tsd (tgt := 231) g dX2_isMetByNone_21 (sw_out8_0 hs11 hs14 hs17 hs19 hs21 hs23 hs25 hs27) (by decide) ?_
                    refine r_iconst (v := 1) g dX2_isMetByNone_231 (by decide) ?_
                    exact r_zret g hr (Nat.le_of_ble_eq_true rfl) (Nat.le_of_ble_eq_true rfl) rfl (Or.inr rfl) dX2_isMetByNone_232 hw
  · have hw := hw.1 hc1
    refine r_iconst (v := 1) g dX2_isMetByNone_11 (by decide) ?_
    refine r_goto (tgt := 16) g dX2_isMetByNone_12 (by decide) ?_
    refine r_istore_n (L' := [(2, .int (1 : Int32)), (0, .ref a0), (1, .ref a1)]) g dX2_isMetByNone_16 rfl (by decide) rfl ?_
    refine r_aload_n g dX2_isMetByNone_17 rfl 1 rfl ?_
    refine r_gt (C := RX2) (T := TX2) (N := 3) g (ci := 3) rfl tc_X2 hp0 1 (by decide) tw_232 (fun _ h => h) rfl dX2_isMetByNone_18 ?_
    by_cases hs2 : (it_ M a0 1) = 0
    · have hw := hw.1 hs2
      refine r_tsi (v := 0) (j := 0) (tgt := 68) g dX2_isMetByNone_21 hs2 (by decide) (by decide) (by decide) (by decide) ?_
      refine r_iload_n g dX2_isMetByNone_68 rfl 0 rfl ?_
      refine r_if_ne (tgt := 94) g dX2_isMetByNone_69 (by decide) (fun _ => ?_) (fun h9 => absurd h9 (by decide))
      refine r_iconst (v := 1) g dX2_isMetByNone_94 (by decide) ?_
      refine r_goto (tgt := 99) g dX2_isMetByNone_95 (by decide) ?_
      exact r_zret g hr (Nat.le_of_ble_eq_true rfl) (Nat.le_of_ble_eq_true rfl) rfl (Or.inr rfl) dX2_isMetByNone_99 hw
    · by_cases hs3 : (it_ M a0 1) = 1
      · have hw := hw.2.1 hs3
        refine r_tsi (v := 1) (j := 1) (tgt := 100) g dX2_isMetByNone_21 hs3 (by decide) (by decide) (by decide) (by decide) ?_
        refine r_iload_n g dX2_isMetByNone_100 rfl 0 rfl ?_
        refine r_if_ne (tgt := 126) g dX2_isMetByNone_101 (by decide) (fun _ => ?_) (fun h9 => absurd h9 (by decide))
        refine r_iconst (v := 1) g dX2_isMetByNone_126 (by decide) ?_
        refine r_goto (tgt := 131) g dX2_isMetByNone_127 (by decide) ?_
        exact r_zret g hr (Nat.le_of_ble_eq_true rfl) (Nat.le_of_ble_eq_true rfl) rfl (Or.inr rfl) dX2_isMetByNone_131 hw
      · by_cases hs4 : (it_ M a0 1) = 2
        · have hw := hw.2.2.1 hs4
          refine r_tsi (v := 2) (j := 2) (tgt := 132) g dX2_isMetByNone_21 hs4 (by decide) (by decide) (by decide) (by decide) ?_
          refine r_iload_n g dX2_isMetByNone_132 rfl 0 rfl ?_
          refine r_if_ne (tgt := 147) g dX2_isMetByNone_133 (by decide) (fun _ => ?_) (fun h9 => absurd h9 (by decide))
          refine r_iconst (v := 1) g dX2_isMetByNone_147 (by decide) ?_
          refine r_goto (tgt := 152) g dX2_isMetByNone_148 (by decide) ?_
          exact r_zret g hr (Nat.le_of_ble_eq_true rfl) (Nat.le_of_ble_eq_true rfl) rfl (Or.inr rfl) dX2_isMetByNone_152 hw
        · by_cases hs5 : (it_ M a0 1) = 3
          · have hw := hw.2.2.2.1 hs5
            refine r_tsi (v := 3) (j := 3) (tgt := 153) g dX2_isMetByNone_21 hs5 (by decide) (by decide) (by decide) (by decide) ?_
            refine r_iload_n g dX2_isMetByNone_153 rfl 0 rfl ?_
            refine r_if_ne (tgt := 168) g dX2_isMetByNone_154 (by decide) (fun _ => ?_) (fun h9 => absurd h9 (by decide))
            refine r_iconst (v := 1) g dX2_isMetByNone_168 (by decide) ?_
            refine r_goto (tgt := 173) g dX2_isMetByNone_169 (by decide) ?_
            exact r_zret g hr (Nat.le_of_ble_eq_true rfl) (Nat.le_of_ble_eq_true rfl) rfl (Or.inr rfl) dX2_isMetByNone_173 hw
          · by_cases hs6 : (it_ M a0 1) = 4
            · have hw := hw.2.2.2.2.1 hs6
              refine r_tsi (v := 4) (j := 4) (tgt := 174) g dX2_isMetByNone_21 hs6 (by decide) (by decide) (by decide) (by decide) ?_
              refine r_iload_n g dX2_isMetByNone_174 rfl 0 rfl ?_
              refine r_if_ne (tgt := 189) g dX2_isMetByNone_175 (by decide) (fun _ => ?_) (fun h9 => absurd h9 (by decide))
              refine r_iconst (v := 1) g dX2_isMetByNone_189 (by decide) ?_
              refine r_goto (tgt := 194) g dX2_isMetByNone_190 (by decide) ?_
              exact r_zret g hr (Nat.le_of_ble_eq_true rfl) (Nat.le_of_ble_eq_true rfl) rfl (Or.inr rfl) dX2_isMetByNone_194 hw
            · by_cases hs7 : (it_ M a0 1) = 5
              · have hw := hw.2.2.2.2.2.1 hs7
                refine r_tsi (v := 5) (j := 5) (tgt := 195) g dX2_isMetByNone_21 hs7 (by decide) (by decide) (by decide) (by decide) ?_
                refine r_iload_n g dX2_isMetByNone_195 rfl 0 rfl ?_
                refine r_if_ne (tgt := 210) g dX2_isMetByNone_196 (by decide) (fun _ => ?_) (fun h9 => absurd h9 (by decide))
                refine r_iconst (v := 1) g dX2_isMetByNone_210 (by decide) ?_
                refine r_goto (tgt := 215) g dX2_isMetByNone_211 (by decide) ?_
                exact r_zret g hr (Nat.le_of_ble_eq_true rfl) (Nat.le_of_ble_eq_true rfl) rfl (Or.inr rfl) dX2_isMetByNone_215 hw
              · by_cases hs8 : (it_ M a0 1) = 6
                · have hw := hw.2.2.2.2.2.2.1 hs8
                  refine r_tsi (v := 6) (j := 6) (tgt := 216) g dX2_isMetByNone_21 hs8 (by decide) (by decide) (by decide) (by decide) ?_
                  refine r_aload_n g dX2_isMetByNone_216 rfl 2 rfl ?_
                  refine r_gt (C := RX9) (T := TX9) (N := 9) g (ci := 10) rfl tc_X9 hp1 1 (by decide) tw_99 (fun _ h => h) rfl dX2_isMetByNone_217 ?_
                  refine r_if_ne (tgt := 227) g dX2_isMetByNone_220 (by decide) (fun hc9 => ?_) (fun hc9 => ?_)
                  · have hw := hw.2 hc9
                    refine r_iconst (v := 0) g dX2_isMetByNone_227 (by decide) ?_
                    exact r_zret g hr (Nat.le_of_ble_eq_true rfl) (Nat.le_of_ble_eq_true rfl) rfl (Or.inl rfl) dX2_isMetByNone_228 hw
                  · have hw := hw.1 hc9
                    refine r_iconst (v := 1) g dX2_isMetByNone_223 (by decide) ?_
                    refine r_goto (tgt := 228) g dX2_isMetByNone_224 (by decide) ?_
                    exact r_zret g hr (Nat.le_of_ble_eq_true rfl) (Nat.le_of_ble_eq_true rfl) rfl (Or.inr rfl) dX2_isMetByNone_228 hw
                · by_cases hs10 : (it_ M a0 1) = 7
                  · have hw := hw.2.2.2.2.2.2.2.1 hs10
                    refine r_tsi (v := 7) (j := 7) (tgt := 229) g dX2_isMetByNone_21 hs10 (by decide) (by decide) (by decide) (by decide) ?_
                    refine r_iload_n g dX2_isMetByNone_229 rfl 0 rfl ?_
                    exact r_zret g hr (Nat.le_of_ble_eq_true rfl) (Nat.le_of_ble_eq_true rfl) rfl (Or.inr rfl) dX2_isMetByNone_230 hw
                  · have hw := hw.2.2.2.2.2.2.2.2 hs2 hs3 hs4 hs5 hs6 hs7 hs8 hs10
                    refine r_tsd (tgt := 231) g dX2_isMetByNone_21 (sw_out8_0 hs2 hs3 hs4 hs5 hs6 hs7 hs8 hs10) (by decide) ?_
                    refine r_iconst (v := 1) g dX2_isMetByNone_231 (by decide) ?_
                    exact r_zret g hr (Nat.le_of_ble_eq_true rfl) (Nat.le_of_ble_eq_true rfl) rfl (Or.inr rfl) dX2_isMetByNone_232 hw
def rmX2_isMetByAll : Room := { frames := 0, cells := 0, slots := 0, locals := 0 }
theorem hy_X2_isMetByAll : yX2_isMetByAll.cls ≠ "java/lang/invoke/MethodHandle" ∧ yX2_isMetByAll.cls ≠ "java/lang/invoke/VarHandle" ∧ (parseMethodDescriptor yX2_isMetByAll.desc).map (fun d => d.parameters.length) = some 1 := by decide +kernel
def wp_X2_isMetByAll (a0 : Nat) (a1 : Nat) (M : Mm) (K : Mm → Int32 → Prop) : Prop := kd_ M a0 = 4 ∧ kd_ M a1 = 11 ∧ (((it_ M a1 1) = 0 → (((it_ M a0 1) = 0 → (((it_ M a1 4) = (it_ M a0 2) → (((it_ M a1 5) = (it_ M a0 2) → (K M (1 : Int32))) ∧ (¬ (it_ M a1 5) = (it_ M a0 2) → (K M (0 : Int32))))) ∧ (¬ (it_ M a1 4) = (it_ M a0 2) → (K M (0 : Int32))))) ∧ ((it_ M a0 1) = 1 → (((it_ M a0 2) < (it_ M a1 4) → (K M (1 : Int32))) ∧ (¬ (it_ M a0 2) < (it_ M a1 4) → (((it_ M a0 2) ≤ (it_ M a1 5) → (K M (0 : Int32))) ∧ (¬ (it_ M a0 2) ≤ (it_ M a1 5) → (K M (1 : Int32))))))) ∧ ((it_ M a0 1) = 2 → (((it_ M a0 2) ≤ (it_ M a1 5) → (K M (0 : Int32))) ∧ (¬ (it_ M a0 2) ≤ (it_ M a1 5) → (K M (1 : Int32))))) ∧ ((it_ M a0 1) = 3 → (((it_ M a0 2) < (it_ M a1 5) → (K M (0 : Int32))) ∧ (¬ (it_ M a0 2) < (it_ M a1 5) → (K M (1 : Int32))))) ∧ ((it_ M a0 1) = 4 → (((it_ M a1 4) ≤ (it_ M a0 2) → (K M (0 : Int32))) ∧ (¬ (it_ M a1 4) ≤ (it_ M a0 2) → (K M (1 : Int32))))) ∧ ((it_ M a0 1) = 5 → (((it_ M a1 4) < (it_ M a0 2) → (K M (0 : Int32))) ∧ (¬ (it_ M a1 4) < (it_ M a0 2) → (K M (1 : Int32))))) ∧ ((it_ M a0 1) = 6 → (((it_ M a1 1) = (it_ M a1 0) → (K M (1 : Int32))) ∧ (¬ (it_ M a1 1) = (it_ M a1 0) → (K M (0 : Int32))))) ∧ ((it_ M a0 1) = 7 → (K M (1 : Int32))) ∧ (¬ (it_ M a0 1) = 0 → ¬ (it_ M a0 1) = 1 → ¬ (it_ M a0 1) = 2 → ¬ (it_ M a0 1) = 3 → ¬ (it_ M a0 1) = 4 → ¬ (it_ M a0 1) = 5 → ¬ (it_ M a0 1) = 6 → ¬ (it_ M a0 1) = 7 → (K M (0 : Int32))))) ∧ (¬ (it_ M a1 1) = 0 → (((it_ M a0 1) = 0 → (K M (0 : Int32))) ∧ ((it_ M a0 1) = 1 → (K M (0 : Int32))) ∧ ((it_ M a0 1) = 2 → (K M (0 : Int32))) ∧ ((it_ M a0 1) = 3 → (K M (0 : Int32))) ∧ ((it_ M a0 1) = 4 → (K M (0 : Int32))) ∧ ((it_ M a0 1) = 5 → (K M (0 : Int32))) ∧ ((it_ M a0 1) = 6 → (((it_ M a1 1) = (it_ M a1 0) → (K M (1 : Int32))) ∧ (¬ (it_ M a1 1) = (it_ M a1 0) → (K M (0 : Int32))))) ∧ ((it_ M a0 1) = 7 → (K M (0 : Int32))) ∧ (¬ (it_ M a0 1) = 0 → ¬ (it_ M a0 1) = 1 → ¬ (it_ M a0 1) = 2 → ¬ (it_ M a0 1) = 3 → ¬ (it_ M a0 1) = 4 → ¬ (it_ M a0 1) = 5 → ¬ (it_ M a0 1) = 6 → ¬ (it_ M a0 1) = 7 → (K M (0 : Int32))))))
set_option maxHeartbeats 4000000 in
set_option maxRecDepth 100000 in
theorem mt_X2_isMetByAll {l : Launch} {D : Dd_} {M : Mm} {a0 : Nat} {a1 : Nat} {K : Mm → Int32 → Prop} (hw : wp_X2_isMetByAll a0 a1 M K) (sz : Nat) : Met l yX2_isMetByAll (Cond.code yX2_isMetByAll cX2_isMetByAll 3 (some .boolean) :: tbG_) rmX2_isMetByAll (cPc_ D M sz [.ref a0, .ref a1]) (va_Qi (fun r M' => K M' r ∧ bz_ r) (cB_ D M sz) (Aw_ M sz)) 0 0 (Aw_ M sz) := by
  refine ofV (by decide) (Nat.le_of_ble_eq_true rfl) ?_
  intro p e s m below meth c g hr hin hsz
  subst hsz
  obtain ⟨hp0, hp1, hw⟩ := hw
  refine r_aload_n g dX2_isMetByAll_0 rfl 1 rfl ?_
  refine r_gt (C := RX9) (T := TX9) (N := 9) g (ci := 10) rfl tc_X9 hp1 1 (by decide) tw_99 (fun _ h => h) rfl dX2_isMetByAll_1 ?_
  refine r_if_ne (tgt := 11) g dX2_isMetByAll_4 (by decide) (fun hc1 => ?_) (fun hc1 => ?_)
  · have hw := hw.2 hc1
    refine r_iconst (v := 0) g dX2_isMetByAll_11 (by decide) ?_
    refine r_istore_n (L' := [(2, .int (0 : Int32)), (0, .ref a0), (1, .ref a1)]) g dX2_isMetByAll_12 rfl (by decide) rfl ?_
    refine r_aload_n g dX2_isMetByAll_13 rfl 1 rfl ?_
    refine r_gt (C := RX2) (T := TX2) (N := 3) g (ci := 3) rfl tc_X2 hp0 1 (by decide) tw_232 (fun _ h => h) rfl dX2_isMetByAll_14 ?_
    by_cases hs19 : (it_ M a0 1) = 0
    · have hw := hw.1 hs19
      refine r_tsi (v := 0) (j := 0) (tgt := 64) g dX2_isMetByAll_17 hs19 (by decide) (by decide) (by decide) (by decide) ?_
      refine r_iload_n g dX2_isMetByAll_64 rfl 0 rfl ?_
      refine r_if_eq (tgt := 94) g dX2_isMetByAll_65 (by decide) (fun _ => ?_) (fun h9 => absurd h9 (by decide))
      refine r_iconst (v := 0) g dX2_isMetByAll_94 (by decide) ?_
      exact r_zret g hr (Nat.le_of_ble_eq_true rfl) (Nat.le_of_ble_eq_true rfl) rfl (Or.inl rfl) dX2_isMetByAll_95 hw
    · by_cases hs20 : (it_ M a0 1) = 1
      · have hw := hw.2.1 hs20
        refine r_tsi (v := 1) (j := 1) (tgt := 96) g dX2_isMetByAll_17 hs20 (by decide) (by decide) (by decide) (by decide) ?_
        refine r_iload_n g dX2_isMetByAll_96 rfl 0 rfl ?_
        refine r_if_eq (tgt := 126) g dX2_isMetByAll_97 (by decide) (fun _ => ?_) (fun h9 => absurd h9 (by decide))
        refine r_iconst (v := 0) g dX2_isMetByAll_126 (by decide) ?_
        exact r_zret g hr (Nat.le_of_ble_eq_true rfl) (Nat.le_of_ble_eq_true rfl) rfl (Or.inl rfl) dX2_isMetByAll_127 hw
      · by_cases hs21 : (it_ M a0 1) = 2
        · have hw := hw.2.2.1 hs21
          refine r_tsi (v := 2) (j := 2) (tgt := 128) g dX2_isMetByAll_17 hs21 (by decide) (by decide) (by decide) (by decide) ?_
          refine r_iload_n g dX2_isMetByAll_128 rfl 0 rfl ?_
          refine r_if_eq (tgt := 147) g dX2_isMetByAll_129 (by decide) (fun _ => ?_) (fun h9 => absurd h9 (by decide))
          refine r_iconst (v := 0) g dX2_isMetByAll_147 (by decide) ?_
          exact r_zret g hr (Nat.le_of_ble_eq_true rfl) (Nat.le_of_ble_eq_true rfl) rfl (Or.inl rfl) dX2_isMetByAll_148 hw
        · by_cases hs22 : (it_ M a0 1) = 3
          · have hw := hw.2.2.2.1 hs22
            refine r_tsi (v := 3) (j := 3) (tgt := 149) g dX2_isMetByAll_17 hs22 (by decide) (by decide) (by decide) (by decide) ?_
            refine r_iload_n g dX2_isMetByAll_149 rfl 0 rfl ?_
            refine r_if_eq (tgt := 168) g dX2_isMetByAll_150 (by decide) (fun _ => ?_) (fun h9 => absurd h9 (by decide))
            refine r_iconst (v := 0) g dX2_isMetByAll_168 (by decide) ?_
            exact r_zret g hr (Nat.le_of_ble_eq_true rfl) (Nat.le_of_ble_eq_true rfl) rfl (Or.inl rfl) dX2_isMetByAll_169 hw
          · by_cases hs23 : (it_ M a0 1) = 4
            · have hw := hw.2.2.2.2.1 hs23
              refine r_tsi (v := 4) (j := 4) (tgt := 170) g dX2_isMetByAll_17 hs23 (by decide) (by decide) (by decide) (by decide) ?_
              refine r_iload_n g dX2_isMetByAll_170 rfl 0 rfl ?_
              refine r_if_eq (tgt := 189) g dX2_isMetByAll_171 (by decide) (fun _ => ?_) (fun h9 => absurd h9 (by decide))
              refine r_iconst (v := 0) g dX2_isMetByAll_189 (by decide) ?_
              exact r_zret g hr (Nat.le_of_ble_eq_true rfl) (Nat.le_of_ble_eq_true rfl) rfl (Or.inl rfl) dX2_isMetByAll_190 hw
            · by_cases hs24 : (it_ M a0 1) = 5
              · have hw := hw.2.2.2.2.2.1 hs24
                refine r_tsi (v := 5) (j := 5) (tgt := 191) g dX2_isMetByAll_17 hs24 (by decide) (by decide) (by decide) (by decide) ?_
                refine r_iload_n g dX2_isMetByAll_191 rfl 0 rfl ?_
                refine r_if_eq (tgt := 210) g dX2_isMetByAll_192 (by decide) (fun _ => ?_) (fun h9 => absurd h9 (by decide))
                refine r_iconst (v := 0) g dX2_isMetByAll_210 (by decide) ?_
                exact r_zret g hr (Nat.le_of_ble_eq_true rfl) (Nat.le_of_ble_eq_true rfl) rfl (Or.inl rfl) dX2_isMetByAll_211 hw
              · by_cases hs25 : (it_ M a0 1) = 6
                · have hw := hw.2.2.2.2.2.2.1 hs25
                  refine r_tsi (v := 6) (j := 6) (tgt := 212) g dX2_isMetByAll_17 hs25 (by decide) (by decide) (by decide) (by decide) ?_
                  refine r_aload_n g dX2_isMetByAll_212 rfl 2 rfl ?_
                  refine r_gt (C := RX9) (T := TX9) (N := 9) g (ci := 10) rfl tc_X9 hp1 1 (by decide) tw_99 (fun _ h => h) rfl dX2_isMetByAll_213 ?_
                  refine r_aload_n g dX2_isMetByAll_216 rfl 2 rfl ?_
                  refine r_gt (C := RX9) (T := TX9) (N := 9) g (ci := 10) rfl tc_X9 hp1 0 (by decide) tw_97 (fun _ h => h) rfl dX2_isMetByAll_217 ?_
                  refine r_icmp_ne (tgt := 227) g dX2_isMetByAll_220 (by decide) (fun hc26 => ?_) (fun hc26 => ?_)
                  · have hw := hw.2 hc26
                    refine r_iconst (v := 0) g dX2_isMetByAll_227 (by decide) ?_
                    exact r_zret g hr (Nat.le_of_ble_eq_true rfl) (Nat.le_of_ble_eq_true rfl) rfl (Or.inl rfl) dX2_isMetByAll_228 hw
                  · have hw := hw.1 hc26
                    refine r_iconst (v := 1) g dX2_isMetByAll_223 (by decide) ?_
                    refine r_goto (tgt := 228) g dX2_isMetByAll_224 (by decide) ?_
                    exact r_zret g hr (Nat.le_of_ble_eq_true rfl) (Nat.le_of_ble_eq_true rfl) rfl (Or.inr rfl) dX2_isMetByAll_228 hw
                · by_cases hs27 : (it_ M a0 1) = 7
                  · have hw := hw.2.2.2.2.2.2.2.1 hs27
                    refine r_tsi (v := 7) (j := 7) (tgt := 229) g dX2_isMetByAll_17 hs27 (by decide) (by decide) (by decide) (by decide) ?_
                    refine r_iload_n g dX2_isMetByAll_229 rfl 0 rfl ?_
                    exact r_zret g hr (Nat.le_of_ble_eq_true rfl) (Nat.le_of_ble_eq_true rfl) rfl (Or.inl rfl) dX2_isMetByAll_230 hw
                  · have hw := hw.2.2.2.2.2.2.2.2 hs19 hs20 hs21 hs22 hs23 hs24 hs25 hs27
                    refine r_tsd (tgt := 231) g dX2_isMetByAll_17 (sw_out8_0 hs19 hs20 hs21 hs22 hs23 hs24 hs25 hs27) (by decide) ?_
                    refine r_iconst (v := 0) g dX2_isMetByAll_231 (by decide) ?_
                    exact r_zret g hr (Nat.le_of_ble_eq_true rfl) (Nat.le_of_ble_eq_true rfl) rfl (Or.inl rfl) dX2_isMetByAll_232 hw
  · have hw := hw.1 hc1
    refine r_iconst (v := 1) g dX2_isMetByAll_7 (by decide) ?_
    refine r_goto (tgt := 12) g dX2_isMetByAll_8 (by decide) ?_
    refine r_istore_n (L' := [(2, .int (1 : Int32)), (0, .ref a0), (1, .ref a1)]) g dX2_isMetByAll_12 rfl (by decide) rfl ?_
    refine r_aload_n g dX2_isMetByAll_13 rfl 1 rfl ?_
    refine r_gt (C := RX2) (T := TX2) (N := 3) g (ci := 3) rfl tc_X2 hp0 1 (by decide) tw_232 (fun _ h => h) rfl dX2_isMetByAll_14 ?_
    by_cases hs2 : (it_ M a0 1) = 0
    · have hw := hw.1 hs2
      refine r_tsi (v := 0) (j := 0) (tgt := 64) g dX2_isMetByAll_17 hs2 (by decide) (by decide) (by decide) (by decide) ?_
      refine r_iload_n g dX2_isMetByAll_64 rfl 0 rfl ?_
      refine r_if_eq (tgt := 94) g dX2_isMetByAll_65 (by decide) (fun h9 => absurd h9 (by decide)) (fun _ => ?_)
      refine r_aload_n g dX2_isMetByAll_68 rfl 2 rfl ?_
      refine r_gt (C := RX9) (T := TX9) (N := 9) g (ci := 10) rfl tc_X9 hp1 4 (by decide) tw_109 (fun _ h => h) rfl dX2_isMetByAll_69 ?_
      refine r_aload_n g dX2_isMetByAll_72 rfl 1 rfl ?_
      refine r_gt (C := RX2) (T := TX2) (N := 3) g (ci := 3) rfl tc_X2 hp0 2 (by decide) tw_233 (fun _ h => h) rfl dX2_isMetByAll_73 ?_
      refine r_icmp_ne (tgt := 94) g dX2_isMetByAll_76 (by decide) (fun hc3 => ?_) (fun hc3 => ?_)
      · have hw := hw.2 hc3
        refine r_iconst (v := 0) g dX2_isMetByAll_94 (by decide) ?_
        exact r_zret g hr (Nat.le_of_ble_eq_true rfl) (Nat.le_of_ble_eq_true rfl) rfl (Or.inl rfl) dX2_isMetByAll_95 hw
      · have hw := hw.1 hc3
        refine r_aload_n g dX2_isMetByAll_79 rfl 2 rfl ?_
        refine r_gt (C := RX9) (T := TX9) (N := 9) g (ci := 10) rfl tc_X9 hp1 5 (by decide) tw_112 (fun _ h => h) rfl dX2_isMetByAll_80 ?_
        refine r_aload_n g dX2_isMetByAll_83 rfl 1 rfl ?_
        refine r_gt (C := RX2) (T := TX2) (N := 3) g (ci := 3) rfl tc_X2 hp0 2 (by decide) tw_233 (fun _ h => h) rfl dX2_isMetByAll_84 ?_
        refine r_icmp_ne (tgt := 94) g dX2_isMetByAll_87 (by decide) (fun hc4 => ?_) (fun hc4 => ?_)
        · have hw := hw.2 hc4
          refine r_iconst (v := 0) g dX2_isMetByAll_94 (by decide) ?_
          exact r_zret g hr (Nat.le_of_ble_eq_true rfl) (Nat.le_of_ble_eq_true rfl) rfl (Or.inl rfl) dX2_isMetByAll_95 hw
        · have hw := hw.1 hc4
          refine r_iconst (v := 1) g dX2_isMetByAll_90 (by decide) ?_
          refine r_goto (tgt := 95) g dX2_isMetByAll_91 (by decide) ?_
          exact r_zret g hr (Nat.le_of_ble_eq_true rfl) (Nat.le_of_ble_eq_true rfl) rfl (Or.inr rfl) dX2_isMetByAll_95 hw
    · by_cases hs5 : (it_ M a0 1) = 1
      · have hw := hw.2.1 hs5
        refine r_tsi (v := 1) (j := 1) (tgt := 96) g dX2_isMetByAll_17 hs5 (by decide) (by decide) (by decide) (by decide) ?_
        refine r_iload_n g dX2_isMetByAll_96 rfl 0 rfl ?_
        refine r_if_eq (tgt := 126) g dX2_isMetByAll_97 (by decide) (fun h9 => absurd h9 (by decide)) (fun _ => ?_)
        refine r_aload_n g dX2_isMetByAll_100 rfl 1 rfl ?_
        refine r_gt (C := RX2) (T := TX2) (N := 3) g (ci := 3) rfl tc_X2 hp0 2 (by decide) tw_233 (fun _ h => h) rfl dX2_isMetByAll_101 ?_
        refine r_aload_n g dX2_isMetByAll_104 rfl 2 rfl ?_
        refine r_gt (C := RX9) (T := TX9) (N := 9) g (ci := 10) rfl tc_X9 hp1 4 (by decide) tw_109 (fun _ h => h) rfl dX2_isMetByAll_105 ?_
        refine r_icmp_lt (tgt := 122) g dX2_isMetByAll_108 (by decide) (fun hc6 => ?_) (fun hc6 => ?_)
        · have hw := hw.1 hc6
          refine r_iconst (v := 1) g dX2_isMetByAll_122 (by decide) ?_
          refine r_goto (tgt := 127) g dX2_isMetByAll_123 (by decide) ?_
          exact r_zret g hr (Nat.le_of_ble_eq_true rfl) (Nat.le_of_ble_eq_true rfl) rfl (Or.inr rfl) dX2_isMetByAll_127 hw
        · have hw := hw.2 hc6
          refine r_aload_n g dX2_isMetByAll_111 rfl 1 rfl ?_
          refine r_gt (C := RX2) (T := TX2) (N := 3) g (ci := 3) rfl tc_X2 hp0 2 (by decide) tw_233 (fun _ h => h) rfl dX2_isMetByAll_112 ?_
          refine r_aload_n g dX2_isMetByAll_115 rfl 2 rfl ?_
          refine r_gt (C := RX9) (T := TX9) (N := 9) g (ci := 10) rfl tc_X9 hp1 5 (by decide) tw_112 (fun _ h => h) rfl dX2_isMetByAll_116 ?_
          refine r_icmp_le (tgt := 126) g dX2_isMetByAll_119 (by decide) (fun hc7 => ?_) (fun hc7 => ?_)
          · have hw := hw.1 hc7
            refine r_iconst (v := 0) g dX2_isMetByAll_126 (by decide) ?_
            exact r_zret g hr (Nat.le_of_ble_eq_true rfl) (Nat.le_of_ble_eq_true rfl) rfl (Or.inl rfl) dX2_isMetByAll_127 hw
          · have hw := hw.2 hc7
            refine r_iconst (v := 1) g dX2_isMetByAll_122 (by decide) ?_
            refine r_goto (tgt := 127) g dX2_isMetByAll_123 (by decide) ?_
            exact r_zret g hr (Nat.le_of_ble_eq_true rfl) (Nat.le_of_ble_eq_true rfl) rfl (Or.inr rfl) dX2_isMetByAll_127 hw
      · by_cases hs8 : (it_ M a0 1) = 2
        · have hw := hw.2.2.1 hs8
          refine r_tsi (v := 2) (j := 2) (tgt := 128) g dX2_isMetByAll_17 hs8 (by decide) (by decide) (by decide) (by decide) ?_
          refine r_iload_n g dX2_isMetByAll_128 rfl 0 rfl ?_
          refine r_if_eq (tgt := 147) g dX2_isMetByAll_129 (by decide) (fun h9 => absurd h9 (by decide)) (fun _ => ?_)
          refine r_aload_n g dX2_isMetByAll_132 rfl 2 rfl ?_
          refine r_gt (C := RX9) (T := TX9) (N := 9) g (ci := 10) rfl tc_X9 hp1 5 (by decide) tw_112 (fun _ h => h) rfl dX2_isMetByAll_133 ?_
          refine r_aload_n g dX2_isMetByAll_136 rfl 1 rfl ?_
          refine r_gt (C := RX2) (T := TX2) (N := 3) g (ci := 3) rfl tc_X2 hp0 2 (by decide) tw_233 (fun _ h => h) rfl dX2_isMetByAll_137 ?_
          refine r_icmp_ge (tgt := 147) g dX2_isMetByAll_140 (by decide) (fun hc9 => ?_) (fun hc9 => ?_)
          · have hw := hw.1 hc9
            refine r_iconst (v := 0) g dX2_isMetByAll_147 (by decide) ?_
            exact r_zret g hr (Nat.le_of_ble_eq_true rfl) (Nat.le_of_ble_eq_true rfl) rfl (Or.inl rfl) dX2_isMetByAll_148 hw
          · have hw := hw.2 hc9
            refine r_iconst (v := 1) g dX2_isMetByAll_143 (by decide) ?_
            refine r_goto (tgt := 148) g dX2_isMetByAll_144 (by decide) ?_
            exact r_zret g hr (Nat.le_of_ble_eq_true rfl) (Nat.le_of_ble_eq_true rfl) rfl (Or.inr rfl) dX2_isMetByAll_148 hw
        · by_cases hs10 : (it_ M a0 1) = 3
          · have hw := hw.2.2.2.1 hs10
            refine r_tsi (v := 3) (j := 3) (tgt := 149) g dX2_isMetByAll_17 hs10 (by decide) (by decide) (by decide) (by decide) ?_
            refine r_iload_n g dX2_isMetByAll_149 rfl 0 rfl ?_
            refine r_if_eq (tgt := 168) g dX2_isMetByAll_150 (by decide) (fun h9 => absurd h9 (by decide)) (fun _ => ?_)
            refine r_aload_n g dX2_isMetByAll_153 rfl 2 rfl ?_
            refine r_gt (C := RX9) (T := TX9) (N := 9) g (ci := 10) rfl tc_X9 hp1 5 (by decide) tw_112 (fun _ h => h) rfl dX2_isMetByAll_154 ?_
            refine r_aload_n g dX2_isMetByAll_157 rfl 1 rfl ?_
            refine r_gt (C := RX2) (T := TX2) (N := 3) g (ci := 3) rfl tc_X2 hp0 2 (by decide) tw_233 (fun _ h => h) rfl dX2_isMetByAll_158 ?_
            refine r_icmp_gt (tgt := 168) g dX2_isMetByAll_161 (by decide) (fun hc11 => ?_) (fun hc11 => ?_)
            · have hw := hw.1 hc11
              refine r_iconst (v := 0) g dX2_isMetByAll_168 (by decide) ?_
              exact r_zret g hr (Nat.le_of_ble_eq_true rfl) (Nat.le_of_ble_eq_true rfl) rfl (Or.inl rfl) dX2_isMetByAll_169 hw
            · have hw := hw.2 hc11
              refine r_iconst (v := 1) g dX2_isMetByAll_164 (by decide) ?_
              refine r_goto (tgt := 169) g dX2_isMetByAll_165 (by decide) ?_
              exact r_zret g hr (Nat.le_of_ble_eq_true rfl) (Nat.le_of_ble_eq_true rfl) rfl (Or.inr rfl) dX2_isMetByAll_169 hw
          · by_cases hs12 : (it_ M a0 1) = 4
            · have hw := hw.2.2.2.2.1 hs12
              refine r_tsi (v := 4) (j := 4) (tgt := 170) g dX2_isMetByAll_17 hs12 (by decide) (by decide) (by decide) (by decide) ?_
              refine r_iload_n g dX2_isMetByAll_170 rfl 0 rfl ?_
              refine r_if_eq (tgt := 189) g dX2_isMetByAll_171 (by decide) (fun h9 => absurd h9 (by decide)) (fun _ => ?_)
              refine r_aload_n g dX2_isMetByAll_174 rfl 2 rfl ?_
              refine r_gt (C := RX9) (T := TX9) (N := 9) g (ci := 10) rfl tc_X9 hp1 4 (by decide) tw_109 (fun _ h => h) rfl dX2_isMetByAll_175 ?_
              refine r_aload_n g dX2_isMetByAll_178 rfl 1 rfl ?_
              refine r_gt (C := RX2) (T := TX2) (N := 3) g (ci := 3) rfl tc_X2 hp0 2 (by decide) tw_233 (fun _ h => h) rfl dX2_isMetByAll_179 ?_
              refine r_icmp_le (tgt := 189) g dX2_isMetByAll_182 (by decide) (fun hc13 => ?_) (fun hc13 => ?_)
              · have hw := hw.1 hc13
                refine r_iconst (v := 0) g dX2_isMetByAll_189 (by decide) ?_
                exact r_zret g hr (Nat.le_of_ble_eq_true rfl) (Nat.le_of_ble_eq_true rfl) rfl (Or.inl rfl) dX2_isMetByAll_190 hw
              · have hw := hw.2 hc13
                refine r_iconst (v := 1) g dX2_isMetByAll_185 (by decide) ?_
                refine r_goto (tgt := 190) g dX2_isMetByAll_186 (by decide) ?_
                exact r_zret g hr (Nat.le_of_ble_eq_true rfl) (Nat.le_of_ble_eq_true rfl) rfl (Or.inr rfl) dX2_isMetByAll_190 hw
            · by_cases hs14 : (it_ M a0 1) = 5
              · have hw := hw.2.2.2.2.2.1 hs14
                refine r_tsi (v := 5) (j := 5) (tgt := 191) g dX2_isMetByAll_17 hs14 (by decide) (by decide) (by decide) (by decide) ?_
                refine r_iload_n g dX2_isMetByAll_191 rfl 0 rfl ?_
                refine r_if_eq (tgt := 210) g dX2_isMetByAll_192 (by decide) (fun h9 => absurd h9 (by decide)) (fun _ => ?_)
                refine r_aload_n g dX2_isMetByAll_195 rfl 2 rfl ?_
                refine r_gt (C := RX9) (T := TX9) (N := 9) g (ci := 10) rfl tc_X9 hp1 4 (by decide) tw_109 (fun _ h => h) rfl dX2_isMetByAll_196 ?_
                refine r_aload_n g dX2_isMetByAll_199 rfl 1 rfl ?_
                refine r_gt (C := RX2) (T := TX2) (N := 3) g (ci := 3) rfl tc_X2 hp0 2 (by decide) tw_233 (fun _ h => h) rfl dX2_isMetByAll_200 ?_
                refine r_icmp_lt (tgt := 210) g dX2_isMetByAll_203 (by decide) (fun hc15 => ?_) (fun hc15 => ?_)
                · have hw := hw.1 hc15
                  refine r_iconst (v := 0) g dX2_isMetByAll_210 (by decide) ?_
                  exact r_zret g hr (Nat.le_of_ble_eq_true rfl) (Nat.le_of_ble_eq_true rfl) rfl (Or.inl rfl) dX2_isMetByAll_211 hw
                · have hw := hw.2 hc15
                  refine r_iconst (v := 1) g dX2_isMetByAll_206 (by decide) ?_
                  refine r_goto (tgt := 211) g dX2_isMetByAll_207 (by decide) ?_
                  exact r_zret g hr (Nat.le_of_ble_eq_true rfl) (Nat.le_of_ble_eq_true rfl) rfl (Or.inr rfl) dX2_isMetByAll_211 hw
              · by_cases hs16 : (it_ M a0 1) = 6
                · have hw := hw.2.2.2.2.2.2.1 hs16
                  refine r_tsi (v := 6) (j := 6) (tgt := 212) g dX2_isMetByAll_17 hs16 (by decide) (by decide) (by decide) (by decide) ?_
                  refine r_aload_n g dX2_isMetByAll_212 rfl 2 rfl ?_
                  refine r_gt (C := RX9) (T := TX9) (N := 9) g (ci := 10) rfl tc_X9 hp1 1 (by decide) tw_99 (fun _ h => h) rfl dX2_isMetByAll_213 ?_
                  refine r_aload_n g dX2_isMetByAll_216 rfl 2 rfl ?_
                  refine r_gt (C := RX9) (T := TX9) (N := 9) g (ci := 10) rfl tc_X9 hp1 0 (by decide) tw_97 (fun _ h => h) rfl dX2_isMetByAll_217 ?_
                  refine r_icmp_ne (tgt := 227) g dX2_isMetByAll_220 (by decide) (fun hc17 => ?_) (fun hc17 => ?_)
                  · have hw := hw.2 hc17
                    refine r_iconst (v := 0) g dX2_isMetByAll_227 (by decide) ?_
                    exact r_zret g hr (Nat.le_of_ble_eq_true rfl) (Nat.le_of_ble_eq_true rfl) rfl (Or.inl rfl) dX2_isMetByAll_228 hw
                  · have hw := hw.1 hc17
                    refine r_iconst (v := 1) g dX2_isMetByAll_223 (by decide) ?_
                    refine r_goto (tgt := 228) g dX2_isMetByAll_224 (by decide) ?_
                    exact r_zret g hr (Nat.le_of_ble_eq_true rfl) (Nat.le_of_ble_eq_true rfl) rfl (Or.inr rfl) dX2_isMetByAll_228 hw
                · by_cases hs18 : (it_ M a0 1) = 7
                  · have hw := hw.2.2.2.2.2.2.2.1 hs18
                    refine r_tsi (v := 7) (j := 7) (tgt := 229) g dX2_isMetByAll_17 hs18 (by decide) (by decide) (by decide) (by decide) ?_
                    refine r_iload_n g dX2_isMetByAll_229 rfl 0 rfl ?_
                    exact r_zret g hr (Nat.le_of_ble_eq_true rfl) (Nat.le_of_ble_eq_true rfl) rfl (Or.inr rfl) dX2_isMetByAll_230 hw
                  · have hw := hw.2.2.2.2.2.2.2.2 hs2 hs5 hs8 hs10 hs12 hs14 hs16 hs18
                    refine r_tsd (tgt := 231) g dX2_isMetByAll_17 (sw_out8_0 hs2 hs5 hs8 hs10 hs12 hs14 hs16 hs18) (by decide) ?_
                    refine r_iconst (v := 0) g dX2_isMetByAll_231 (by decide) ?_
                    exact r_zret g hr (Nat.le_of_ble_eq_true rfl) (Nat.le_of_ble_eq_true rfl) rfl (Or.inl rfl) dX2_isMetByAll_232 hw
def rmX2_methodIn : Room := { frames := 1, cells := 0, slots := 0, locals := 22 }
theorem hy_X2_methodIn : yX2_methodIn.cls ≠ "java/lang/invoke/MethodHandle" ∧ yX2_methodIn.cls ≠ "java/lang/invoke/VarHandle" ∧ (parseMethodDescriptor yX2_methodIn.desc).map (fun d => d.parameters.length) = some 2 := by decide +kernel
def wp_X2_methodIn (a0 : Nat) (a1 : Nat) (x2 : Int32) (M : Mm) (K : Mm → Int32 → Prop) : Prop := kd_ M a0 = 4 ∧ kd_ M a1 = 11 ∧ (wp_X2_isMetByNone a0 a1 M (fun M1 r2 => Nk_ M M1 → bz_ r2 → ((r2 = 0 → (wp_X2_isMetByAll a0 a1 M1 (fun M10 r11 => Nk_ M1 M10 → bz_ r11 → ((r11 = 0 → ((x2 = 0 → (((it_ M10 a1 6) = (2 : Int32) → (K M10 (3 : Int32))) ∧ (¬ (it_ M10 a1 6) = (2 : Int32) → (((it_ M10 a1 6) = (3 : Int32) → (K M10 (4 : Int32))) ∧ (¬ (it_ M10 a1 6) = (3 : Int32) → (K M10 (5 : Int32))))))) ∧ (¬ x2 = 0 → (wp_X9_hasBitmaps a1 M10 (fun M22 r23 => Nk_ M10 M22 → bz_ r23 → ((r23 = 0 → (((it_ M22 a1 6) = (2 : Int32) → (K M22 (3 : Int32))) ∧ (¬ (it_ M22 a1 6) = (2 : Int32) → (((it_ M22 a1 6) = (3 : Int32) → (K M22 (4 : Int32))) ∧ (¬ (it_ M22 a1 6) = (3 : Int32) → (K M22 (5 : Int32))))))) ∧ (¬ r23 = 0 → (((6 : Int32) ≤ (it_ M22 a0 1) → (((it_ M22 a1 6) = (2 : Int32) → (K M22 (3 : Int32))) ∧ (¬ (it_ M22 a1 6) = (2 : Int32) → (((it_ M22 a1 6) = (3 : Int32) → (K M22 (4 : Int32))) ∧ (¬ (it_ M22 a1 6) = (3 : Int32) → (K M22 (5 : Int32))))))) ∧ (¬ (6 : Int32) ≤ (it_ M22 a0 1) → (K M22 (2 : Int32))))))))))) ∧ (¬ r11 = 0 → (K M10 (1 : Int32))))))) ∧ (¬ r2 = 0 → (K M1 (0 : Int32))))))
set_option maxHeartbeats 4000000 in
set_option maxRecDepth 100000 in
theorem mt_X2_methodIn {l : Launch} {D : Dd_} {M : Mm} {a0 : Nat} {a1 : Nat} {x2 : Int32} {K : Mm → Int32 → Prop} (hw : wp_X2_methodIn a0 a1 x2 M K) (sz : Nat) : Met l yX2_methodIn (Cond.code yX2_methodIn cX2_methodIn 3 (some .int) :: tbG_) rmX2_methodIn (cPc_ D M sz [.ref a0, .ref a1, .int x2]) (va_Qi (fun r M' => K M' r) (cB_ D M sz) (Aw_ M sz)) 0 0 (Aw_ M sz) := by
  refine ofV (by decide) (Nat.le_of_ble_eq_true rfl) ?_
  intro p e s m below meth c g hr hin hsz
  subst hsz
  obtain ⟨hp0, hp1, hw⟩ := hw
  refine r_aload_n g dX2_methodIn_0 rfl 0 rfl ?_
  refine r_aload_n g dX2_methodIn_1 rfl 1 rfl ?_
  refine r_callVz (As := [.ref a1]) g (fun sz => mt_X2_isMetByNone hw sz) tw_571 tw_574 tw_11 tw_573 tp_7 (ci := 3) (T := TX2) (N := 3) rfl hp0 hy_X2_isMetByNone ⟨rfl, rfl⟩ (Nat.le_of_ble_eq_true rfl) (Nat.le_of_ble_eq_true rfl) (Nat.le_of_ble_eq_true rfl) (Nat.le_of_ble_eq_true rfl) (Nat.le_of_ble_eq_true rfl) rfl dX2_methodIn_2 (fun M1 r2 hK3 hb8 hN4 => ?_)
  have hw := hK3 hN4 hb8
  have hk5 := Nk_.k hN4 hp0 (by decide)
  have hk6 := Nk_.k hN4 hp1 (by decide)
  have hT7 := Nk_.tr (Nk_.rf _) hN4
  refine r_if_eq (tgt := 10) g dX2_methodIn_5 (by decide) (fun hc9 => ?_) (fun hc9 => ?_)
  · have hw := hw.1 hc9
    refine r_aload_n g dX2_methodIn_10 rfl 0 rfl ?_
    refine r_aload_n g dX2_methodIn_11 rfl 1 rfl ?_
    refine r_callVz (As := [.ref a1]) g (fun sz => mt_X2_isMetByAll hw sz) tw_575 tw_578 tw_11 tw_577 tp_8 (ci := 3) (T := TX2) (N := 3) rfl hk5 hy_X2_isMetByAll ⟨rfl, rfl⟩ (Nat.le_of_ble_eq_true rfl) (Nat.le_of_ble_eq_true rfl) (Nat.le_of_ble_eq_true rfl) (Nat.le_of_ble_eq_true rfl) (Nat.le_of_ble_eq_true rfl) rfl dX2_methodIn_12 (fun M10 r11 hK12 hb17 hN13 => ?_)
    have hw := hK12 hN13 hb17
    have hk14 := Nk_.k hN13 hk5 (by decide)
    have hk15 := Nk_.k hN13 hk6 (by decide)
    have hT16 := Nk_.tr hT7 hN13
    refine r_if_eq (tgt := 20) g dX2_methodIn_15 (by decide) (fun hc18 => ?_) (fun hc18 => ?_)
    · have hw := hw.1 hc18
      refine r_iload_n g dX2_methodIn_20 rfl 2 rfl ?_
      refine r_if_eq (tgt := 42) g dX2_methodIn_21 (by decide) (fun hc19 => ?_) (fun hc19 => ?_)
      · have hw := hw.1 hc19
        refine r_aload_n g dX2_methodIn_42 rfl 1 rfl ?_
        refine r_gt (C := RX9) (T := TX9) (N := 9) g (ci := 10) rfl tc_X9 hk15 6 (by decide) tw_116 (fun _ h => h) rfl dX2_methodIn_43 ?_
        refine r_iconst (v := 2) g dX2_methodIn_46 (by decide) ?_
        refine r_icmp_ne (tgt := 52) g dX2_methodIn_47 (by decide) (fun hc20 => ?_) (fun hc20 => ?_)
        · have hw := hw.2 hc20
          refine r_aload_n g dX2_methodIn_52 rfl 1 rfl ?_
          refine r_gt (C := RX9) (T := TX9) (N := 9) g (ci := 10) rfl tc_X9 hk15 6 (by decide) tw_116 (fun _ h => h) rfl dX2_methodIn_53 ?_
          refine r_iconst (v := 3) g dX2_methodIn_56 (by decide) ?_
          refine r_icmp_ne (tgt := 64) g dX2_methodIn_57 (by decide) (fun hc21 => ?_) (fun hc21 => ?_)
          · have hw := hw.2 hc21
            refine r_iconst (v := 5) g dX2_methodIn_64 (by decide) ?_
            exact r_iret g hr (Nat.le_of_ble_eq_true rfl) (Nat.le_of_ble_eq_true rfl) rfl dX2_methodIn_65 hw
          · have hw := hw.1 hc21
            refine r_iconst (v := 4) g dX2_methodIn_60 (by decide) ?_
            refine r_goto (tgt := 65) g dX2_methodIn_61 (by decide) ?_
            exact r_iret g hr (Nat.le_of_ble_eq_true rfl) (Nat.le_of_ble_eq_true rfl) rfl dX2_methodIn_65 hw
        · have hw := hw.1 hc20
          refine r_iconst (v := 3) g dX2_methodIn_50 (by decide) ?_
          exact r_iret g hr (Nat.le_of_ble_eq_true rfl) (Nat.le_of_ble_eq_true rfl) rfl dX2_methodIn_51 hw
      · have hw := hw.2 hc19
        refine r_aload_n g dX2_methodIn_24 rfl 1 rfl ?_
        refine r_callVz (As := []) g (fun sz => mt_X9_hasBitmaps hw sz) tw_594 tw_597 tw_8 tw_595 tw_596 (ci := 10) (T := TX9) (N := 9) rfl hk15 hy_X9_hasBitmaps ⟨rfl, rfl⟩ (Nat.le_of_ble_eq_true rfl) (Nat.le_of_ble_eq_true rfl) (Nat.le_of_ble_eq_true rfl) (Nat.le_of_ble_eq_true rfl) (Nat.le_of_ble_eq_true rfl) rfl dX2_methodIn_25 (fun M22 r23 hK24 hb29 hN25 => ?_)
        have hw := hK24 hN25 hb29
        have hk26 := Nk_.k hN25 hk14 (by decide)
        have hk27 := Nk_.k hN25 hk15 (by decide)
        have hT28 := Nk_.tr hT16 hN25
        refine r_if_eq (tgt := 42) g dX2_methodIn_28 (by decide) (fun hc30 => ?_) (fun hc30 => ?_)
        · have hw := hw.1 hc30
          refine r_aload_n g dX2_methodIn_42 rfl 1 rfl ?_
          refine r_gt (C := RX9) (T := TX9) (N := 9) g (ci := 10) rfl tc_X9 hk27 6 (by decide) tw_116 (fun _ h => h) rfl dX2_methodIn_43 ?_
          refine r_iconst (v := 2) g dX2_methodIn_46 (by decide) ?_
          refine r_icmp_ne (tgt := 52) g dX2_methodIn_47 (by decide) (fun hc31 => ?_) (fun hc31 => ?_)
          · have hw := hw.2 hc31
            refine r_aload_n g dX2_methodIn_52 rfl 1 rfl ?_
            refine r_gt (C := RX9) (T := TX9) (N := 9) g (ci := 10) rfl tc_X9 hk27 6 (by decide) tw_116 (fun _ h => h) rfl dX2_methodIn_53 ?_
            refine r_iconst (v := 3) g dX2_methodIn_56 (by decide) ?_
            refine r_icmp_ne (tgt := 64) g dX2_methodIn_57 (by decide) (fun hc32 => ?_) (fun hc32 => ?_)
            · have hw := hw.2 hc32
              refine r_iconst (v := 5) g dX2_methodIn_64 (by decide) ?_
              exact r_iret g hr (Nat.le_of_ble_eq_true rfl) (Nat.le_of_ble_eq_true rfl) rfl dX2_methodIn_65 hw
            · have hw := hw.1 hc32
              refine r_iconst (v := 4) g dX2_methodIn_60 (by decide) ?_
              refine r_goto (tgt := 65) g dX2_methodIn_61 (by decide) ?_
              exact r_iret g hr (Nat.le_of_ble_eq_true rfl) (Nat.le_of_ble_eq_true rfl) rfl dX2_methodIn_65 hw
          · have hw := hw.1 hc31
            refine r_iconst (v := 3) g dX2_methodIn_50 (by decide) ?_
            exact r_iret g hr (Nat.le_of_ble_eq_true rfl) (Nat.le_of_ble_eq_true rfl) rfl dX2_methodIn_51 hw
        · have hw := hw.2 hc30
          refine r_aload_n g dX2_methodIn_31 rfl 0 rfl ?_
          refine r_gt (C := RX2) (T := TX2) (N := 3) g (ci := 3) rfl tc_X2 hk26 1 (by decide) tw_232 (fun _ h => h) rfl dX2_methodIn_32 ?_
          refine r_bipush (v := 6) g dX2_methodIn_35 (by decide) ?_
          refine r_icmp_ge (tgt := 42) g dX2_methodIn_37 (by decide) (fun hc33 => ?_) (fun hc33 => ?_)
          · have hw := hw.1 hc33
            refine r_aload_n g dX2_methodIn_42 rfl 1 rfl ?_
            refine r_gt (C := RX9) (T := TX9) (N := 9) g (ci := 10) rfl tc_X9 hk27 6 (by decide) tw_116 (fun _ h => h) rfl dX2_methodIn_43 ?_
            refine r_iconst (v := 2) g dX2_methodIn_46 (by decide) ?_
            refine r_icmp_ne (tgt := 52) g dX2_methodIn_47 (by decide) (fun hc34 => ?_) (fun hc34 => ?_)
            · have hw := hw.2 hc34
              refine r_aload_n g dX2_methodIn_52 rfl 1 rfl ?_
              refine r_gt (C := RX9) (T := TX9) (N := 9) g (ci := 10) rfl tc_X9 hk27 6 (by decide) tw_116 (fun _ h => h) rfl dX2_methodIn_53 ?_
              refine r_iconst (v := 3) g dX2_methodIn_56 (by decide) ?_
              refine r_icmp_ne (tgt := 64) g dX2_methodIn_57 (by decide) (fun hc35 => ?_) (fun hc35 => ?_)
              · have hw := hw.2 hc35
                refine r_iconst (v := 5) g dX2_methodIn_64 (by decide) ?_
                exact r_iret g hr (Nat.le_of_ble_eq_true rfl) (Nat.le_of_ble_eq_true rfl) rfl dX2_methodIn_65 hw
              · have hw := hw.1 hc35
                refine r_iconst (v := 4) g dX2_methodIn_60 (by decide) ?_
                refine r_goto (tgt := 65) g dX2_methodIn_61 (by decide) ?_
                exact r_iret g hr (Nat.le_of_ble_eq_true rfl) (Nat.le_of_ble_eq_true rfl) rfl dX2_methodIn_65 hw
            · have hw := hw.1 hc34
              refine r_iconst (v := 3) g dX2_methodIn_50 (by decide) ?_
              exact r_iret g hr (Nat.le_of_ble_eq_true rfl) (Nat.le_of_ble_eq_true rfl) rfl dX2_methodIn_51 hw
          · have hw := hw.2 hc33
            refine r_iconst (v := 2) g dX2_methodIn_40 (by decide) ?_
            exact r_iret g hr (Nat.le_of_ble_eq_true rfl) (Nat.le_of_ble_eq_true rfl) rfl dX2_methodIn_41 hw
    · have hw := hw.2 hc18
      refine r_iconst (v := 1) g dX2_methodIn_18 (by decide) ?_
      exact r_iret g hr (Nat.le_of_ble_eq_true rfl) (Nat.le_of_ble_eq_true rfl) rfl dX2_methodIn_19 hw
  · have hw := hw.2 hc9
    refine r_iconst (v := 0) g dX2_methodIn_8 (by decide) ?_
    exact r_iret g hr (Nat.le_of_ble_eq_true rfl) (Nat.le_of_ble_eq_true rfl) rfl dX2_methodIn_9 hw
def rmX2_shareOf : Room := { frames := 1, cells := 0, slots := 0, locals := 15 }
theorem hy_X2_shareOf : yX2_shareOf.cls ≠ "java/lang/invoke/MethodHandle" ∧ yX2_shareOf.cls ≠ "java/lang/invoke/VarHandle" ∧ (parseMethodDescriptor yX2_shareOf.desc).map (fun d => d.parameters.length) = some 3 := by decide +kernel
def wp_X2_shareOf (x0 : Int32) (y1 : Int64) (a3 : Nat) (M : Mm) (K : Mm → Int32 → Prop) : Prop := kd_ M a3 = 11 ∧ (((1 : Int64) ≤ ((((it_ M a3 5).toInt64) - ((it_ M a3 4).toInt64)) + (1 : Int64)) → (¬ ((((it_ M a3 5).toInt64) - ((it_ M a3 4).toInt64)) + (1 : Int64)) = 0 ∧ (K M ((if (((x0.toInt64) * y1) / ((((it_ M a3 5).toInt64) - ((it_ M a3 4).toInt64)) + (1 : Int64))) < (x0.toInt64) then (((x0.toInt64) * y1) / ((((it_ M a3 5).toInt64) - ((it_ M a3 4).toInt64)) + (1 : Int64))) else (x0.toInt64)).toInt32)))) ∧ (¬ (1 : Int64) ≤ ((((it_ M a3 5).toInt64) - ((it_ M a3 4).toInt64)) + (1 : Int64)) → (K M (0 : Int32))))
set_option maxHeartbeats 4000000 in
set_option maxRecDepth 100000 in
theorem mt_X2_shareOf {l : Launch} {D : Dd_} {M : Mm} {x0 : Int32} {y1 : Int64} {a3 : Nat} {K : Mm → Int32 → Prop} (hw : wp_X2_shareOf x0 y1 a3 M K) (sz : Nat) : Met l yX2_shareOf (Cond.code yX2_shareOf cX2_shareOf 6 (some .int) :: tbG_) rmX2_shareOf (cPc_ D M sz [.int x0, .long y1, .ref a3]) (va_Qi (fun r M' => K M' r) (cB_ D M sz) (Aw_ M sz)) 0 0 (Aw_ M sz) := by
  refine ofV (by decide) (Nat.le_of_ble_eq_true rfl) ?_
  intro p e s m below meth c g hr hin hsz
  subst hsz
  obtain ⟨hp3, hw⟩ := hw
  refine r_aload_n g dX2_shareOf_0 rfl 2 rfl ?_
  refine r_gt (C := RX9) (T := TX9) (N := 9) g (ci := 10) rfl tc_X9 hp3 5 (by decide) tw_112 (fun _ h => h) rfl dX2_shareOf_1 ?_
  refine r_i2l g dX2_shareOf_4 ?_
  refine r_aload_n g dX2_shareOf_5 rfl 2 rfl ?_
  refine r_gt (C := RX9) (T := TX9) (N := 9) g (ci := 10) rfl tc_X9 hp3 4 (by decide) tw_109 (fun _ h => h) rfl dX2_shareOf_6 ?_
  refine r_i2l g dX2_shareOf_9 ?_
  refine r_lsub g dX2_shareOf_10 ?_
  refine r_lconst (v := 1) g dX2_shareOf_11 (by decide) ?_
  refine r_ladd g dX2_shareOf_12 ?_
  refine r_lstore (L' := [(4, .long ((((it_ M a3 5).toInt64) - ((it_ M a3 4).toInt64)) + (1 : Int64))), (0, .int x0), (1, .long y1), (3, .ref a3)]) g dX2_shareOf_13 (by decide) rfl ?_
  refine r_lload g dX2_shareOf_15 0 rfl ?_
  refine r_lconst (v := 1) g dX2_shareOf_17 (by decide) ?_
  refine r_lcmp_ge (tgt := 26) g dX2_shareOf_18 dX2_shareOf_19 (by decide) (fun hc1 => ?_) (fun hc1 => ?_)
  · have hw := hw.1 hc1
    refine r_iload_n g dX2_shareOf_26 rfl 1 rfl ?_
    refine r_i2l g dX2_shareOf_27 ?_
    refine r_iload_n g dX2_shareOf_28 rfl 1 rfl ?_
    refine r_i2l g dX2_shareOf_29 ?_
    refine r_lload_n g dX2_shareOf_30 rfl 2 rfl ?_
    refine r_lmul g dX2_shareOf_31 ?_
    refine r_lload g dX2_shareOf_32 0 rfl ?_
    obtain ⟨h2, hw⟩ := hw
    refine r_ldiv g dX2_shareOf_34 h2 ?_
    refine r_mminl g tw_582 tw_583 tw_20 tw_584 (Nat.le_of_ble_eq_true rfl) (Nat.le_of_ble_eq_true rfl) (Nat.le_of_ble_eq_true rfl) (Nat.le_of_ble_eq_true rfl) dX2_shareOf_35 ?_
    refine r_l2i g dX2_shareOf_38 ?_
    exact r_iret g hr (Nat.le_of_ble_eq_true rfl) (Nat.le_of_ble_eq_true rfl) rfl dX2_shareOf_39 hw
  · have hw := hw.2 hc1
    refine r_iconst (v := 0) g dX2_shareOf_22 (by decide) ?_
    refine r_goto (tgt := 39) g dX2_shareOf_23 (by decide) ?_
    exact r_iret g hr (Nat.le_of_ble_eq_true rfl) (Nat.le_of_ble_eq_true rfl) rfl dX2_shareOf_39 hw
def rmX2_guessIn : Room := { frames := 2, cells := 0, slots := 0, locals := 40 }
theorem hy_X2_guessIn : yX2_guessIn.cls ≠ "java/lang/invoke/MethodHandle" ∧ yX2_guessIn.cls ≠ "java/lang/invoke/VarHandle" ∧ (parseMethodDescriptor yX2_guessIn.desc).map (fun d => d.parameters.length) = some 1 := by decide +kernel
def wp_X2_guessIn (a0 : Nat) (a1 : Nat) (M : Mm) (K : Mm → Int32 → Prop) : Prop := kd_ M a0 = 4 ∧ kd_ M a1 = 11 ∧ (wp_X2_isMetByNone a0 a1 M (fun M1 r2 => Nk_ M M1 → bz_ r2 → ((r2 = 0 → (wp_X2_isMetByAll a0 a1 M1 (fun M10 r11 => Nk_ M1 M10 → bz_ r11 → ((r11 = 0 → (((it_ M10 a1 2) = 0 → (((it_ M10 a0 1) = 0 → (K M10 (0 : Int32))) ∧ ((it_ M10 a0 1) = 1 → (K M10 (((it_ M10 a1 0) - (it_ M10 a1 1)) - (0 : Int32)))) ∧ ((it_ M10 a0 1) = 2 → (wp_X2_shareOf ((it_ M10 a1 0) - (it_ M10 a1 1)) (((it_ M10 a0 2).toInt64) - ((it_ M10 a1 4).toInt64)) a1 M10 (fun M23 r24 => Nk_ M10 M23 → (K M23 r24)))) ∧ ((it_ M10 a0 1) = 3 → (wp_X2_shareOf ((it_ M10 a1 0) - (it_ M10 a1 1)) (((it_ M10 a0 2).toInt64) - ((it_ M10 a1 4).toInt64)) a1 M10 (fun M31 r32 => Nk_ M10 M31 → (K M31 r32)))) ∧ ((it_ M10 a0 1) = 4 → (wp_X2_shareOf ((it_ M10 a1 0) - (it_ M10 a1 1)) (((it_ M10 a1 5).toInt64) - ((it_ M10 a0 2).toInt64)) a1 M10 (fun M39 r40 => Nk_ M10 M39 → (K M39 r40)))) ∧ ((it_ M10 a0 1) = 5 → (wp_X2_shareOf ((it_ M10 a1 0) - (it_ M10 a1 1)) (((it_ M10 a1 5).toInt64) - ((it_ M10 a0 2).toInt64)) a1 M10 (fun M47 r48 => Nk_ M10 M47 → (K M47 r48)))) ∧ ((it_ M10 a0 1) = 6 → (K M10 (it_ M10 a1 1))) ∧ ((it_ M10 a0 1) = 7 → (K M10 ((it_ M10 a1 0) - (it_ M10 a1 1)))) ∧ (¬ (it_ M10 a0 1) = 0 → ¬ (it_ M10 a0 1) = 1 → ¬ (it_ M10 a0 1) = 2 → ¬ (it_ M10 a0 1) = 3 → ¬ (it_ M10 a0 1) = 4 → ¬ (it_ M10 a0 1) = 5 → ¬ (it_ M10 a0 1) = 6 → ¬ (it_ M10 a0 1) = 7 → (K M10 (0 : Int32))))) ∧ (¬ (it_ M10 a1 2) = 0 → (¬ (it_ M10 a1 2) = 0 ∧ (((it_ M10 a0 1) = 0 → (K M10 (((it_ M10 a1 0) - (it_ M10 a1 1)) / (it_ M10 a1 2)))) ∧ ((it_ M10 a0 1) = 1 → (K M10 (((it_ M10 a1 0) - (it_ M10 a1 1)) - (((it_ M10 a1 0) - (it_ M10 a1 1)) / (it_ M10 a1 2))))) ∧ ((it_ M10 a0 1) = 2 → (wp_X2_shareOf ((it_ M10 a1 0) - (it_ M10 a1 1)) (((it_ M10 a0 2).toInt64) - ((it_ M10 a1 4).toInt64)) a1 M10 (fun M60 r61 => Nk_ M10 M60 → (K M60 r61)))) ∧ ((it_ M10 a0 1) = 3 → (wp_X2_shareOf ((it_ M10 a1 0) - (it_ M10 a1 1)) (((it_ M10 a0 2).toInt64) - ((it_ M10 a1 4).toInt64)) a1 M10 (fun M68 r69 => Nk_ M10 M68 → (K M68 r69)))) ∧ ((it_ M10 a0 1) = 4 → (wp_X2_shareOf ((it_ M10 a1 0) - (it_ M10 a1 1)) (((it_ M10 a1 5).toInt64) - ((it_ M10 a0 2).toInt64)) a1 M10 (fun M76 r77 => Nk_ M10 M76 → (K M76 r77)))) ∧ ((it_ M10 a0 1) = 5 → (wp_X2_shareOf ((it_ M10 a1 0) - (it_ M10 a1 1)) (((it_ M10 a1 5).toInt64) - ((it_ M10 a0 2).toInt64)) a1 M10 (fun M84 r85 => Nk_ M10 M84 → (K M84 r85)))) ∧ ((it_ M10 a0 1) = 6 → (K M10 (it_ M10 a1 1))) ∧ ((it_ M10 a0 1) = 7 → (K M10 ((it_ M10 a1 0) - (it_ M10 a1 1)))) ∧ (¬ (it_ M10 a0 1) = 0 → ¬ (it_ M10 a0 1) = 1 → ¬ (it_ M10 a0 1) = 2 → ¬ (it_ M10 a0 1) = 3 → ¬ (it_ M10 a0 1) = 4 → ¬ (it_ M10 a0 1) = 5 → ¬ (it_ M10 a0 1) = 6 → ¬ (it_ M10 a0 1) = 7 → (K M10 (0 : Int32)))))))) ∧ (¬ r11 = 0 → (K M10 (it_ M10 a1 0))))))) ∧ (¬ r2 = 0 → (K M1 (0 : Int32))))))
set_option maxHeartbeats 4000000 in
set_option maxRecDepth 100000 in
theorem mt_X2_guessIn {l : Launch} {D : Dd_} {M : Mm} {a0 : Nat} {a1 : Nat} {K : Mm → Int32 → Prop} (hw : wp_X2_guessIn a0 a1 M K) (sz : Nat) : Met l yX2_guessIn (Cond.code yX2_guessIn cX2_guessIn 4 (some .int) :: tbG_) rmX2_guessIn (cPc_ D M sz [.ref a0, .ref a1]) (va_Qi (fun r M' => K M' r) (cB_ D M sz) (Aw_ M sz)) 0 0 (Aw_ M sz) := by
  refine ofV (by decide) (Nat.le_of_ble_eq_true rfl) ?_
  intro p e s m below meth c g hr hin hsz
  subst hsz
  obtain ⟨hp0, hp1, hw⟩ := hw
  refine r_aload_n g dX2_guessIn_0 rfl 0 rfl ?_
  refine r_aload_n g dX2_guessIn_1 rfl 1 rfl ?_
  refine r_callVz (As := [.ref a1]) g (fun sz => mt_X2_isMetByNone hw sz) tw_571 tw_574 tw_11 tw_573 tp_7 (ci := 3) (T := TX2) (N := 3) rfl hp0 hy_X2_isMetByNone ⟨rfl, rfl⟩ (Nat.le_of_ble_eq_true rfl) (Nat.le_of_ble_eq_true rfl) (Nat.le_of_ble_eq_true rfl) (Nat.le_of_ble_eq_true rfl) (Nat.le_of_ble_eq_true rfl) rfl dX2_guessIn_2 (fun M1 r2 hK3 hb8 hN4 => ?_)
  have hw := hK3 hN4 hb8
  have hk5 := Nk_.k hN4 hp0 (by decide)
  have hk6 := Nk_.k hN4 hp1 (by decide)
  have hT7 := Nk_.tr (Nk_.rf _) hN4
  refine r_if_eq (tgt := 10) g dX2_guessIn_5 (by decide) (fun hc9 => ?_) (fun hc9 => ?_)
  · have hw := hw.1 hc9
    refine r_aload_n g dX2_guessIn_10 rfl 0 rfl ?_
    refine r_aload_n g dX2_guessIn_11 rfl 1 rfl ?_
    refine r_callVz (As := [.ref a1]) g (fun sz => mt_X2_isMetByAll hw sz) tw_575 tw_578 tw_11 tw_577 tp_8 (ci := 3) (T := TX2) (N := 3) rfl hk5 hy_X2_isMetByAll ⟨rfl, rfl⟩ (Nat.le_of_ble_eq_true rfl) (Nat.le_of_ble_eq_true rfl) (Nat.le_of_ble_eq_true rfl) (Nat.le_of_ble_eq_true rfl) (Nat.le_of_ble_eq_true rfl) rfl dX2_guessIn_12 (fun M10 r11 hK12 hb17 hN13 => ?_)
    have hw := hK12 hN13 hb17
    have hk14 := Nk_.k hN13 hk5 (by decide)
    have hk15 := Nk_.k hN13 hk6 (by decide)
    have hT16 := Nk_.tr hT7 hN13
    refine r_if_eq (tgt := 23) g dX2_guessIn_15 (by decide) (fun hc18 => ?_) (fun hc18 => ?_)
    · have hw := hw.1 hc18
      refine r_aload_n g dX2_guessIn_23 rfl 1 rfl ?_
      refine r_gt (C := RX9) (T := TX9) (N := 9) g (ci := 10) rfl tc_X9 hk15 0 (by decide) tw_97 (fun _ h => h) rfl dX2_guessIn_24 ?_
      refine r_aload_n g dX2_guessIn_27 rfl 1 rfl ?_
      refine r_gt (C := RX9) (T := TX9) (N := 9) g (ci := 10) rfl tc_X9 hk15 1 (by decide) tw_99 (fun _ h => h) rfl dX2_guessIn_28 ?_
      refine r_isub g dX2_guessIn_31 ?_
      refine r_istore_n (L' := [(2, .int ((it_ M10 a1 0) - (it_ M10 a1 1))), (0, .ref a0), (1, .ref a1)]) g dX2_guessIn_32 rfl (by decide) rfl ?_
      refine r_aload_n g dX2_guessIn_33 rfl 2 rfl ?_
      refine r_gt (C := RX9) (T := TX9) (N := 9) g (ci := 10) rfl tc_X9 hk15 2 (by decide) tw_103 (fun _ h => h) rfl dX2_guessIn_34 ?_
      refine r_if_ne (tgt := 44) g dX2_guessIn_37 (by decide) (fun hc19 => ?_) (fun hc19 => ?_)
      · have hw := hw.2 hc19
        refine r_iload_n g dX2_guessIn_44 rfl 0 rfl ?_
        refine r_aload_n g dX2_guessIn_45 rfl 2 rfl ?_
        refine r_gt (C := RX9) (T := TX9) (N := 9) g (ci := 10) rfl tc_X9 hk15 2 (by decide) tw_103 (fun _ h => h) rfl dX2_guessIn_46 ?_
        obtain ⟨h56, hw⟩ := hw
        refine r_idiv g dX2_guessIn_49 h56 ?_
        refine r_istore_n (L' := [(3, .int (((it_ M10 a1 0) - (it_ M10 a1 1)) / (it_ M10 a1 2))), (2, .int ((it_ M10 a1 0) - (it_ M10 a1 1))), (0, .ref a0), (1, .ref a1)]) g dX2_guessIn_50 rfl (by decide) rfl ?_
        refine r_aload_n g dX2_guessIn_51 rfl 2 rfl ?_
        refine r_gt (C := RX2) (T := TX2) (N := 3) g (ci := 3) rfl tc_X2 hk14 1 (by decide) tw_232 (fun _ h => h) rfl dX2_guessIn_52 ?_
        by_cases hs57 : (it_ M10 a0 1) = 0
        · have hw := hw.1 hs57
          refine r_tsi (v := 0) (j := 0) (tgt := 100) g dX2_guessIn_55 hs57 (by decide) (by decide) (by decide) (by decide) ?_
          refine r_iload_n g dX2_guessIn_100 rfl 0 rfl ?_
          exact r_iret g hr (Nat.le_of_ble_eq_true rfl) (Nat.le_of_ble_eq_true rfl) rfl dX2_guessIn_101 hw
        · by_cases hs58 : (it_ M10 a0 1) = 1
          · have hw := hw.2.1 hs58
            refine r_tsi (v := 1) (j := 1) (tgt := 102) g dX2_guessIn_55 hs58 (by decide) (by decide) (by decide) (by decide) ?_
            refine r_iload_n g dX2_guessIn_102 rfl 1 rfl ?_
            refine r_iload_n g dX2_guessIn_103 rfl 0 rfl ?_
            refine r_isub g dX2_guessIn_104 ?_
            exact r_iret g hr (Nat.le_of_ble_eq_true rfl) (Nat.le_of_ble_eq_true rfl) rfl dX2_guessIn_105 hw
          · by_cases hs59 : (it_ M10 a0 1) = 2
            · have hw := hw.2.2.1 hs59
              refine r_tsi (v := 2) (j := 2) (tgt := 106) g dX2_guessIn_55 hs59 (by decide) (by decide) (by decide) (by decide) ?_
              refine r_iload_n g dX2_guessIn_106 rfl 1 rfl ?_
              refine r_aload_n g dX2_guessIn_107 rfl 2 rfl ?_
              refine r_gt (C := RX2) (T := TX2) (N := 3) g (ci := 3) rfl tc_X2 hk14 2 (by decide) tw_233 (fun _ h => h) rfl dX2_guessIn_108 ?_
              refine r_i2l g dX2_guessIn_111 ?_
              refine r_aload_n g dX2_guessIn_112 rfl 3 rfl ?_
              refine r_gt (C := RX9) (T := TX9) (N := 9) g (ci := 10) rfl tc_X9 hk15 4 (by decide) tw_109 (fun _ h => h) rfl dX2_guessIn_113 ?_
              refine r_i2l g dX2_guessIn_116 ?_
              refine r_lsub g dX2_guessIn_117 ?_
              refine r_aload_n g dX2_guessIn_118 rfl 3 rfl ?_
              refine r_callSi (As := [.int ((it_ M10 a1 0) - (it_ M10 a1 1)), .long (((it_ M10 a0 2).toInt64) - ((it_ M10 a1 4).toInt64)), .ref a1]) g (fun sz => mt_X2_shareOf hw sz) tw_579 tw_581 tw_11 tw_580 hy_X2_shareOf ⟨rfl, rfl⟩ (Nat.le_of_ble_eq_true rfl) (Nat.le_of_ble_eq_true rfl) (Nat.le_of_ble_eq_true rfl) (Nat.le_of_ble_eq_true rfl) (Nat.le_of_ble_eq_true rfl) rfl dX2_guessIn_119 (fun M60 r61 hK62 hN63 => ?_)
              have hw := hK62 hN63
              have hk64 := Nk_.k hN63 hk14 (by decide)
              have hk65 := Nk_.k hN63 hk15 (by decide)
              have hT66 := Nk_.tr hT16 hN63
              exact r_iret g hr (Nat.le_of_ble_eq_true rfl) (Nat.le_of_ble_eq_true rfl) rfl dX2_guessIn_122 hw
            · by_cases hs67 : (it_ M10 a0 1) = 3
              · have hw := hw.2.2.2.1 hs67
                refine r_tsi (v := 3) (j := 3) (tgt := 106) g dX2_guessIn_55 hs67 (by decide) (by decide) (by decide) (by decide) ?_
                refine r_iload_n g dX2_guessIn_106 rfl 1 rfl ?_
                refine r_aload_n g dX2_guessIn_107 rfl 2 rfl ?_
                refine r_gt (C := RX2) (T := TX2) (N := 3) g (ci := 3) rfl tc_X2 hk14 2 (by decide) tw_233 (fun _ h => h) rfl dX2_guessIn_108 ?_
                refine r_i2l g dX2_guessIn_111 ?_
                refine r_aload_n g dX2_guessIn_112 rfl 3 rfl ?_
                refine r_gt (C := RX9) (T := TX9) (N := 9) g (ci := 10) rfl tc_X9 hk15 4 (by decide) tw_109 (fun _ h => h) rfl dX2_guessIn_113 ?_
                refine r_i2l g dX2_guessIn_116 ?_
                refine r_lsub g dX2_guessIn_117 ?_
                refine r_aload_n g dX2_guessIn_118 rfl 3 rfl ?_
                refine r_callSi (As := [.int ((it_ M10 a1 0) - (it_ M10 a1 1)), .long (((it_ M10 a0 2).toInt64) - ((it_ M10 a1 4).toInt64)), .ref a1]) g (fun sz => mt_X2_shareOf hw sz) tw_579 tw_581 tw_11 tw_580 hy_X2_shareOf ⟨rfl, rfl⟩ (Nat.le_of_ble_eq_true rfl) (Nat.le_of_ble_eq_true rfl) (Nat.le_of_ble_eq_true rfl) (Nat.le_of_ble_eq_true rfl) (Nat.le_of_ble_eq_true rfl) rfl dX2_guessIn_119 (fun M68 r69 hK70 hN71 => ?_)
                have hw := hK70 hN71
                have hk72 := Nk_.k hN71 hk14 (by decide)
                have hk73 := Nk_.k hN71 hk15 (by decide)
                have hT74 := Nk_.tr hT16 hN71
                exact r_iret g hr (Nat.le_of_ble_eq_true rfl) (Nat.le_of_ble_eq_true rfl) rfl dX2_guessIn_122 hw
              · by_cases hs75 : (it_ M10 a0 1) = 4
                · have hw := hw.2.2.2.2.1 hs75
                  refine r_tsi (v := 4) (j := 4) (tgt := 123) g dX2_guessIn_55 hs75 (by decide) (by decide) (by decide) (by decide) ?_
                  refine r_iload_n g dX2_guessIn_123 rfl 1 rfl ?_
                  refine r_aload_n g dX2_guessIn_124 rfl 3 rfl ?_
                  refine r_gt (C := RX9) (T := TX9) (N := 9) g (ci := 10) rfl tc_X9 hk15 5 (by decide) tw_112 (fun _ h => h) rfl dX2_guessIn_125 ?_
                  refine r_i2l g dX2_guessIn_128 ?_
                  refine r_aload_n g dX2_guessIn_129 rfl 2 rfl ?_
                  refine r_gt (C := RX2) (T := TX2) (N := 3) g (ci := 3) rfl tc_X2 hk14 2 (by decide) tw_233 (fun _ h => h) rfl dX2_guessIn_130 ?_
                  refine r_i2l g dX2_guessIn_133 ?_
                  refine r_lsub g dX2_guessIn_134 ?_
                  refine r_aload_n g dX2_guessIn_135 rfl 3 rfl ?_
                  refine r_callSi (As := [.int ((it_ M10 a1 0) - (it_ M10 a1 1)), .long (((it_ M10 a1 5).toInt64) - ((it_ M10 a0 2).toInt64)), .ref a1]) g (fun sz => mt_X2_shareOf hw sz) tw_579 tw_581 tw_11 tw_580 hy_X2_shareOf ⟨rfl, rfl⟩ (Nat.le_of_ble_eq_true rfl) (Nat.le_of_ble_eq_true rfl) (Nat.le_of_ble_eq_true rfl) (Nat.le_of_ble_eq_true rfl) (Nat.le_of_ble_eq_true rfl) rfl dX2_guessIn_136 (fun M76 r77 hK78 hN79 => ?_)
                  have hw := hK78 hN79
                  have hk80 := Nk_.k hN79 hk14 (by decide)
                  have hk81 := Nk_.k hN79 hk15 (by decide)
                  have hT82 := Nk_.tr hT16 hN79
                  exact r_iret g hr (Nat.le_of_ble_eq_true rfl) (Nat.le_of_ble_eq_true rfl) rfl dX2_guessIn_139 hw
                · by_cases hs83 : (it_ M10 a0 1) = 5
                  · have hw := hw.2.2.2.2.2.1 hs83
                    refine r_tsi (v := 5) (j := 5) (tgt := 123) g dX2_guessIn_55 hs83 (by decide) (by decide) (by decide) (by decide) ?_
                    refine r_iload_n g dX2_guessIn_123 rfl 1 rfl ?_
                    refine r_aload_n g dX2_guessIn_124 rfl 3 rfl ?_
                    refine r_gt (C := RX9) (T := TX9) (N := 9) g (ci := 10) rfl tc_X9 hk15 5 (by decide) tw_112 (fun _ h => h) rfl dX2_guessIn_125 ?_
                    refine r_i2l g dX2_guessIn_128 ?_
                    refine r_aload_n g dX2_guessIn_129 rfl 2 rfl ?_
                    refine r_gt (C := RX2) (T := TX2) (N := 3) g (ci := 3) rfl tc_X2 hk14 2 (by decide) tw_233 (fun _ h => h) rfl dX2_guessIn_130 ?_
                    refine r_i2l g dX2_guessIn_133 ?_
                    refine r_lsub g dX2_guessIn_134 ?_
                    refine r_aload_n g dX2_guessIn_135 rfl 3 rfl ?_
                    refine r_callSi (As := [.int ((it_ M10 a1 0) - (it_ M10 a1 1)), .long (((it_ M10 a1 5).toInt64) - ((it_ M10 a0 2).toInt64)), .ref a1]) g (fun sz => mt_X2_shareOf hw sz) tw_579 tw_581 tw_11 tw_580 hy_X2_shareOf ⟨rfl, rfl⟩ (Nat.le_of_ble_eq_true rfl) (Nat.le_of_ble_eq_true rfl) (Nat.le_of_ble_eq_true rfl) (Nat.le_of_ble_eq_true rfl) (Nat.le_of_ble_eq_true rfl) rfl dX2_guessIn_136 (fun M84 r85 hK86 hN87 => ?_)
                    have hw := hK86 hN87
                    have hk88 := Nk_.k hN87 hk14 (by decide)
                    have hk89 := Nk_.k hN87 hk15 (by decide)
                    have hT90 := Nk_.tr hT16 hN87
                    exact r_iret g hr (Nat.le_of_ble_eq_true rfl) (Nat.le_of_ble_eq_true rfl) rfl dX2_guessIn_139 hw
                  · by_cases hs91 : (it_ M10 a0 1) = 6
                    · have hw := hw.2.2.2.2.2.2.1 hs91
                      refine r_tsi (v := 6) (j := 6) (tgt := 140) g dX2_guessIn_55 hs91 (by decide) (by decide) (by decide) (by decide) ?_
                      refine r_aload_n g dX2_guessIn_140 rfl 3 rfl ?_
                      refine r_gt (C := RX9) (T := TX9) (N := 9) g (ci := 10) rfl tc_X9 hk15 1 (by decide) tw_99 (fun _ h => h) rfl dX2_guessIn_141 ?_
                      exact r_iret g hr (Nat.le_of_ble_eq_true rfl) (Nat.le_of_ble_eq_true rfl) rfl dX2_guessIn_144 hw
                    · by_cases hs92 : (it_ M10 a0 1) = 7
                      · have hw := hw.2.2.2.2.2.2.2.1 hs92
                        refine r_tsi (v := 7) (j := 7) (tgt := 145) g dX2_guessIn_55 hs92 (by decide) (by decide) (by decide) (by decide) ?_
                        refine r_iload_n g dX2_guessIn_145 rfl 1 rfl ?_
                        exact r_iret g hr (Nat.le_of_ble_eq_true rfl) (Nat.le_of_ble_eq_true rfl) rfl dX2_guessIn_146 hw
                      · have hw := hw.2.2.2.2.2.2.2.2 hs57 hs58 hs59 hs67 hs75 hs83 hs91 hs92
                        refine r_tsd (tgt := 147) g dX2_guessIn_55 (sw_out8_0 hs57 hs58 hs59 hs67 hs75 hs83 hs91 hs92) (by decide) ?_
                        refine r_iconst (v := 0) g dX2_guessIn_147 (by decide) ?_
                        exact r_iret g hr (Nat.le_of_ble_eq_true rfl) (Nat.le_of_ble_eq_true rfl) rfl dX2_guessIn_148 hw
      · have hw := hw.1 hc19
        refine r_iconst (v := 0) g dX2_guessIn_40 (by decide) ?_
        refine r_goto (tgt := 50) g dX2_guessIn_41 (by decide) ?_
        refine r_istore_n (L' := [(3, .int (0 : Int32)), (2, .int ((it_ M10 a1 0) - (it_ M10 a1 1))), (0, .ref a0), (1, .ref a1)]) g dX2_guessIn_50 rfl (by decide) rfl ?_
        refine r_aload_n g dX2_guessIn_51 rfl 2 rfl ?_
        refine r_gt (C := RX2) (T := TX2) (N := 3) g (ci := 3) rfl tc_X2 hk14 1 (by decide) tw_232 (fun _ h => h) rfl dX2_guessIn_52 ?_
        by_cases hs20 : (it_ M10 a0 1) = 0
        · have hw := hw.1 hs20
          refine r_tsi (v := 0) (j := 0) (tgt := 100) g dX2_guessIn_55 hs20 (by decide) (by decide) (by decide) (by decide) ?_
          refine r_iload_n g dX2_guessIn_100 rfl 0 rfl ?_
          exact r_iret g hr (Nat.le_of_ble_eq_true rfl) (Nat.le_of_ble_eq_true rfl) rfl dX2_guessIn_101 hw
        · by_cases hs21 : (it_ M10 a0 1) = 1
          · have hw := hw.2.1 hs21
            refine r_tsi (v := 1) (j := 1) (tgt := 102) g dX2_guessIn_55 hs21 (by decide) (by decide) (by decide) (by decide) ?_
            refine r_iload_n g dX2_guessIn_102 rfl 1 rfl ?_
            refine r_iload_n g dX2_guessIn_103 rfl 0 rfl ?_
            refine r_isub g dX2_guessIn_104 ?_
            exact r_iret g hr (Nat.le_of_ble_eq_true rfl) (Nat.le_of_ble_eq_true rfl) rfl dX2_guessIn_105 hw
          · by_cases hs22 : (it_ M10 a0 1) = 2
            · have hw := hw.2.2.1 hs22
              refine r_tsi (v := 2) (j := 2) (tgt := 106) g dX2_guessIn_55 hs22 (by decide) (by decide) (by decide) (by decide) ?_
              refine r_iload_n g dX2_guessIn_106 rfl 1 rfl ?_
              refine r_aload_n g dX2_guessIn_107 rfl 2 rfl ?_
              refine r_gt (C := RX2) (T := TX2) (N := 3) g (ci := 3) rfl tc_X2 hk14 2 (by decide) tw_233 (fun _ h => h) rfl dX2_guessIn_108 ?_
              refine r_i2l g dX2_guessIn_111 ?_
              refine r_aload_n g dX2_guessIn_112 rfl 3 rfl ?_
              refine r_gt (C := RX9) (T := TX9) (N := 9) g (ci := 10) rfl tc_X9 hk15 4 (by decide) tw_109 (fun _ h => h) rfl dX2_guessIn_113 ?_
              refine r_i2l g dX2_guessIn_116 ?_
              refine r_lsub g dX2_guessIn_117 ?_
              refine r_aload_n g dX2_guessIn_118 rfl 3 rfl ?_
              refine r_callSi (As := [.int ((it_ M10 a1 0) - (it_ M10 a1 1)), .long (((it_ M10 a0 2).toInt64) - ((it_ M10 a1 4).toInt64)), .ref a1]) g (fun sz => mt_X2_shareOf hw sz) tw_579 tw_581 tw_11 tw_580 hy_X2_shareOf ⟨rfl, rfl⟩ (Nat.le_of_ble_eq_true rfl) (Nat.le_of_ble_eq_true rfl) (Nat.le_of_ble_eq_true rfl) (Nat.le_of_ble_eq_true rfl) (Nat.le_of_ble_eq_true rfl) rfl dX2_guessIn_119 (fun M23 r24 hK25 hN26 => ?_)
              have hw := hK25 hN26
              have hk27 := Nk_.k hN26 hk14 (by decide)
              have hk28 := Nk_.k hN26 hk15 (by decide)
              have hT29 := Nk_.tr hT16 hN26
              exact r_iret g hr (Nat.le_of_ble_eq_true rfl) (Nat.le_of_ble_eq_true rfl) rfl dX2_guessIn_122 hw
            · by_cases hs30 : (it_ M10 a0 1) = 3
              · have hw := hw.2.2.2.1 hs30
                refine r_tsi (v := 3) (j := 3) (tgt := 106) g dX2_guessIn_55 hs30 (by decide) (by decide) (by decide) (by decide) ?_
                refine r_iload_n g dX2_guessIn_106 rfl 1 rfl ?_
                refine r_aload_n g dX2_guessIn_107 rfl 2 rfl ?_
                refine r_gt (C := RX2) (T := TX2) (N := 3) g (ci := 3) rfl tc_X2 hk14 2 (by decide) tw_233 (fun _ h => h) rfl dX2_guessIn_108 ?_
                refine r_i2l g dX2_guessIn_111 ?_
                refine r_aload_n g dX2_guessIn_112 rfl 3 rfl ?_
                refine r_gt (C := RX9) (T := TX9) (N := 9) g (ci := 10) rfl tc_X9 hk15 4 (by decide) tw_109 (fun _ h => h) rfl dX2_guessIn_113 ?_
                refine r_i2l g dX2_guessIn_116 ?_
                refine r_lsub g dX2_guessIn_117 ?_
                refine r_aload_n g dX2_guessIn_118 rfl 3 rfl ?_
                refine r_callSi (As := [.int ((it_ M10 a1 0) - (it_ M10 a1 1)), .long (((it_ M10 a0 2).toInt64) - ((it_ M10 a1 4).toInt64)), .ref a1]) g (fun sz => mt_X2_shareOf hw sz) tw_579 tw_581 tw_11 tw_580 hy_X2_shareOf ⟨rfl, rfl⟩ (Nat.le_of_ble_eq_true rfl) (Nat.le_of_ble_eq_true rfl) (Nat.le_of_ble_eq_true rfl) (Nat.le_of_ble_eq_true rfl) (Nat.le_of_ble_eq_true rfl) rfl dX2_guessIn_119 (fun M31 r32 hK33 hN34 => ?_)
                have hw := hK33 hN34
                have hk35 := Nk_.k hN34 hk14 (by decide)
                have hk36 := Nk_.k hN34 hk15 (by decide)
                have hT37 := Nk_.tr hT16 hN34
                exact r_iret g hr (Nat.le_of_ble_eq_true rfl) (Nat.le_of_ble_eq_true rfl) rfl dX2_guessIn_122 hw
              · by_cases hs38 : (it_ M10 a0 1) = 4
                · have hw := hw.2.2.2.2.1 hs38
                  refine r_tsi (v := 4) (j := 4) (tgt := 123) g dX2_guessIn_55 hs38 (by decide) (by decide) (by decide) (by decide) ?_
                  refine r_iload_n g dX2_guessIn_123 rfl 1 rfl ?_
                  refine r_aload_n g dX2_guessIn_124 rfl 3 rfl ?_
                  refine r_gt (C := RX9) (T := TX9) (N := 9) g (ci := 10) rfl tc_X9 hk15 5 (by decide) tw_112 (fun _ h => h) rfl dX2_guessIn_125 ?_
                  refine r_i2l g dX2_guessIn_128 ?_
                  refine r_aload_n g dX2_guessIn_129 rfl 2 rfl ?_
                  refine r_gt (C := RX2) (T := TX2) (N := 3) g (ci := 3) rfl tc_X2 hk14 2 (by decide) tw_233 (fun _ h => h) rfl dX2_guessIn_130 ?_
                  refine r_i2l g dX2_guessIn_133 ?_
                  refine r_lsub g dX2_guessIn_134 ?_
                  refine r_aload_n g dX2_guessIn_135 rfl 3 rfl ?_
                  refine r_callSi (As := [.int ((it_ M10 a1 0) - (it_ M10 a1 1)), .long (((it_ M10 a1 5).toInt64) - ((it_ M10 a0 2).toInt64)), .ref a1]) g (fun sz => mt_X2_shareOf hw sz) tw_579 tw_581 tw_11 tw_580 hy_X2_shareOf ⟨rfl, rfl⟩ (Nat.le_of_ble_eq_true rfl) (Nat.le_of_ble_eq_true rfl) (Nat.le_of_ble_eq_true rfl) (Nat.le_of_ble_eq_true rfl) (Nat.le_of_ble_eq_true rfl) rfl dX2_guessIn_136 (fun M39 r40 hK41 hN42 => ?_)
                  have hw := hK41 hN42
                  have hk43 := Nk_.k hN42 hk14 (by decide)
                  have hk44 := Nk_.k hN42 hk15 (by decide)
                  have hT45 := Nk_.tr hT16 hN42
                  exact r_iret g hr (Nat.le_of_ble_eq_true rfl) (Nat.le_of_ble_eq_true rfl) rfl dX2_guessIn_139 hw
                · by_cases hs46 : (it_ M10 a0 1) = 5
                  · have hw := hw.2.2.2.2.2.1 hs46
                    refine r_tsi (v := 5) (j := 5) (tgt := 123) g dX2_guessIn_55 hs46 (by decide) (by decide) (by decide) (by decide) ?_
                    refine r_iload_n g dX2_guessIn_123 rfl 1 rfl ?_
                    refine r_aload_n g dX2_guessIn_124 rfl 3 rfl ?_
                    refine r_gt (C := RX9) (T := TX9) (N := 9) g (ci := 10) rfl tc_X9 hk15 5 (by decide) tw_112 (fun _ h => h) rfl dX2_guessIn_125 ?_
                    refine r_i2l g dX2_guessIn_128 ?_
                    refine r_aload_n g dX2_guessIn_129 rfl 2 rfl ?_
                    refine r_gt (C := RX2) (T := TX2) (N := 3) g (ci := 3) rfl tc_X2 hk14 2 (by decide) tw_233 (fun _ h => h) rfl dX2_guessIn_130 ?_
                    refine r_i2l g dX2_guessIn_133 ?_
                    refine r_lsub g dX2_guessIn_134 ?_
                    refine r_aload_n g dX2_guessIn_135 rfl 3 rfl ?_
                    refine r_callSi (As := [.int ((it_ M10 a1 0) - (it_ M10 a1 1)), .long (((it_ M10 a1 5).toInt64) - ((it_ M10 a0 2).toInt64)), .ref a1]) g (fun sz => mt_X2_shareOf hw sz) tw_579 tw_581 tw_11 tw_580 hy_X2_shareOf ⟨rfl, rfl⟩ (Nat.le_of_ble_eq_true rfl) (Nat.le_of_ble_eq_true rfl) (Nat.le_of_ble_eq_true rfl) (Nat.le_of_ble_eq_true rfl) (Nat.le_of_ble_eq_true rfl) rfl dX2_guessIn_136 (fun M47 r48 hK49 hN50 => ?_)
                    have hw := hK49 hN50
                    have hk51 := Nk_.k hN50 hk14 (by decide)
                    have hk52 := Nk_.k hN50 hk15 (by decide)
                    have hT53 := Nk_.tr hT16 hN50
                    exact r_iret g hr (Nat.le_of_ble_eq_true rfl) (Nat.le_of_ble_eq_true rfl) rfl dX2_guessIn_139 hw
                  · by_cases hs54 : (it_ M10 a0 1) = 6
                    · have hw := hw.2.2.2.2.2.2.1 hs54
                      refine r_tsi (v := 6) (j := 6) (tgt := 140) g dX2_guessIn_55 hs54 (by decide) (by decide) (by decide) (by decide) ?_
                      refine r_aload_n g dX2_guessIn_140 rfl 3 rfl ?_
                      refine r_gt (C := RX9) (T := TX9) (N := 9) g (ci := 10) rfl tc_X9 hk15 1 (by decide) tw_99 (fun _ h => h) rfl dX2_guessIn_141 ?_
                      exact r_iret g hr (Nat.le_of_ble_eq_true rfl) (Nat.le_of_ble_eq_true rfl) rfl dX2_guessIn_144 hw
                    · by_cases hs55 : (it_ M10 a0 1) = 7
                      · have hw := hw.2.2.2.2.2.2.2.1 hs55
                        refine r_tsi (v := 7) (j := 7) (tgt := 145) g dX2_guessIn_55 hs55 (by decide) (by decide) (by decide) (by decide) ?_
                        refine r_iload_n g dX2_guessIn_145 rfl 1 rfl ?_
                        exact r_iret g hr (Nat.le_of_ble_eq_true rfl) (Nat.le_of_ble_eq_true rfl) rfl dX2_guessIn_146 hw
                      · have hw := hw.2.2.2.2.2.2.2.2 hs20 hs21 hs22 hs30 hs38 hs46 hs54 hs55
                        refine r_tsd (tgt := 147) g dX2_guessIn_55 (sw_out8_0 hs20 hs21 hs22 hs30 hs38 hs46 hs54 hs55) (by decide) ?_
                        refine r_iconst (v := 0) g dX2_guessIn_147 (by decide) ?_
                        exact r_iret g hr (Nat.le_of_ble_eq_true rfl) (Nat.le_of_ble_eq_true rfl) rfl dX2_guessIn_148 hw
    · have hw := hw.2 hc18
      refine r_aload_n g dX2_guessIn_18 rfl 1 rfl ?_
      refine r_gt (C := RX9) (T := TX9) (N := 9) g (ci := 10) rfl tc_X9 hk15 0 (by decide) tw_97 (fun _ h => h) rfl dX2_guessIn_19 ?_
      exact r_iret g hr (Nat.le_of_ble_eq_true rfl) (Nat.le_of_ble_eq_true rfl) rfl dX2_guessIn_22 hw
  · have hw := hw.2 hc9
    refine r_iconst (v := 0) g dX2_guessIn_8 (by decide) ?_
    exact r_iret g hr (Nat.le_of_ble_eq_true rfl) (Nat.le_of_ble_eq_true rfl) rfl dX2_guessIn_9 hw
def rmX3_init : Room := { frames := 2, cells := 5, slots := 16, locals := 32 }
theorem hy_X3_init : yX3_init.cls ≠ "java/lang/invoke/MethodHandle" ∧ yX3_init.cls ≠ "java/lang/invoke/VarHandle" ∧ (parseMethodDescriptor yX3_init.desc).map (fun d => d.parameters.length) = some 0 := by decide +kernel
def lp_X3_init_14 (a0 : Nat) (K : Mm → Prop) (E : Nat → Nat → Mm → Prop) : Nat → Int32 → Nat → Nat → Mm → Prop
  | 0, _, _, _, _ => False
  | n + 1, x1, uc, ud, M => (((4 : Int32) ≤ x1 → E  uc ud M) ∧ (¬ (4 : Int32) ≤ x1 → (kd_ M (rf_ M a0 0) = 24 ∧ (uc + 1 ≤ 5 ∧ ud + 3 ≤ 16 ∧ (∀ q11, q11 ≠ 0 → kd_ M q11 = 0 → ∀ M14, M14 = nw_ M q11 4 0 → ((uc + 1) ≤ 5 ∧ (ud + 3) ≤ 16 ∧ wp_X2_init q11 M14 (fun M21 => Nk_ M14 M21 → (vp_in x1 (ln_ M21 (rf_ M a0 0)) ∧ (∀ M31, M31 = sR_ M21 (rf_ M a0 0) (ix_ x1) q11 → lp_X3_init_14 a0 K E n (x1 + (1 : Int32)) (uc + 1) (ud + 3) M31)))))))))
def wp_X3_init (a0 : Nat) (M : Mm) (K : Mm → Prop) : Prop := kd_ M a0 = 5 ∧ ((∀ q1, q1 ≠ 0 → kd_ M q1 = 0 → ∀ M4, M4 = nw_ M q1 24 (ix_ (4 : Int32)) → (∀ M8, M8 = sR_ M4 a0 0 q1 → (∃ n33 : Nat, lp_X3_init_14 a0 K (fun  c34 d35 M32 => Nk_ M8 M32 → (c34 ≤ 5 ∧ d35 ≤ 16 ∧ K M32)) n33 (0 : Int32) 1 4 M8))))
set_option maxHeartbeats 4000000 in
set_option maxRecDepth 100000 in
theorem lo_X3_init_14 {p : Program} {l : Launch} {e : Env} {s : State} {m : MethodId} {args : Array Value} {below : List Frame} {meth : Method} {c : Code} {D : Dd_} {M0 : Mm} {Q : State → Prop} {K : Mm → Prop} (g : G_ p s m args meth c cX3_init 2 RX3 D M0) (hr : meth.sig.returnType = none) (hQ : Q = MQ below (va_Qv (fun M' => K M') (cB_ D M0 s.heap.size) (Aw_ M0 s.heap.size)) args s 5 16 (Aw_ M0 s.heap.size)) {a0 : Nat} : ∀ (n : Nat) (E : Nat → Nat → Mm → Prop) (x1 : Int32) (uc : Nat) (ud : Nat) (M : Mm), lp_X3_init_14 a0 K E n x1 uc ud M → kd_ M a0 = 5 → (∀ (c9 d9 : Nat) (M' : Mm), E  c9 d9 M' → Nk_ M M' → V_ p l e rmX3_init s m args below meth c 2 D M0 Q 38 [] [] M' c9 d9) → V_ p l e rmX3_init s m args below meth c 2 D M0 Q 14 [(0, .ref a0), (1, .int x1)] [] M uc ud := by
  intro n
  induction n with
  | zero =>
    intro E x1 uc ud M hw
    exact hw.elim
  | succ n ih =>
    intro E x1 uc ud M hw hp0 kE
    refine r_iload_n g dX3_init_14 rfl 1 rfl ?_
    refine r_iconst (v := 4) g dX3_init_15 (by decide) ?_
    refine r_icmp_ge (tgt := 38) g dX3_init_16 (by decide) (fun hc9 => ?_) (fun hc9 => ?_)
    · have hw := hw.1 hc9
      exact V_.sub (kE  uc ud _ hw (Nk_.rf _)) [] rfl
    · have hw := hw.2 hc9
      refine r_aload_n g dX3_init_19 rfl 0 rfl ?_
      obtain ⟨hk10, hw⟩ := hw
      refine r_gtR (C := RX3) (T := TX3) (N := 2) g (ci := 4) rfl tc_X3 hp0 0 (by decide) tw_241 (fun _ h => h) rfl (k_ne hk10 (by decide)) dX3_init_20 ?_
      refine r_iload_n g dX3_init_23 rfl 1 rfl ?_
      obtain ⟨h15, h16, hw⟩ := hw
      refine r_new (ci := 3) (C := RX2) (T := TX2) (N := 3) g rfl tc_X2 tyX2 tyX2_ok tw_223 tw_225 tw_11 td_X2 h15 h16 dX3_init_24 (fun q11 h12 hq13 => ?_)
      have hw := hw q11 h12 hq13 _ rfl
      have hk17 := kd_nw_ (c := 4) (n := 0) hq13 hp0 (by decide)
      have hk18 := kd_nw_ (c := 4) (n := 0) hq13 hk10 (by decide)
      have hT19 := Nk_.tr (Nk_.rf _) (Nk_nw_ (c := 4) (n := 0) hq13)
      have hk20 := kd_nq_ M q11 4 0
      refine r_dup g dX3_init_27 rfl ?_
      obtain ⟨h24, h25, hw⟩ := hw
      refine r_callNv (As := []) g (fun sz => mt_X2_init hw sz) tx_226 tw_228 tw_11 tw_227 rfl hy_X2_init ⟨rfl, rfl⟩ (Nat.le_of_ble_eq_true rfl) (Nat.le_of_ble_eq_true rfl) h24 h25 (Nat.le_of_ble_eq_true rfl) rfl dX3_init_28 (fun M21 hK22 hN23 => ?_)
      have hw := hK22 hN23
      have hk26 := Nk_.k hN23 hk17 (by decide)
      have hk27 := Nk_.k hN23 hk20 (by decide)
      have hk28 := Nk_.k hN23 hk18 (by decide)
      have hT29 := Nk_.tr hT19 hN23
      obtain ⟨hi30, hw⟩ := hw
      refine r_aast (t := 4) (ci := 3) (C := RX2) (T := TX2) (N := 3) g rfl (by decide) (by decide) rfl hk28 hk27 hi30 dX3_init_31 ?_
      have hw := hw _ rfl
      refine r_iinc (v := x1 + (1 : Int32)) (L' := [(1, .int (x1 + (1 : Int32))), (0, .ref a0)]) g dX3_init_32 1 rfl rfl (by decide) rfl ?_
      refine r_goto (tgt := 14) g dX3_init_35 (by decide) ?_
      exact V_.sub (ih E (x1 + (1 : Int32)) (uc + 1) (ud + 3) _ hw hk26 (fun  c9 d9 M9 hE9 hN9 => kE  c9 d9 M9 hE9 (Nk_.tr hT29 hN9))) [1, 0] rfl
set_option maxHeartbeats 4000000 in
set_option maxRecDepth 100000 in
theorem mt_X3_init {l : Launch} {D : Dd_} {M : Mm} {a0 : Nat} {K : Mm → Prop} (hw : wp_X3_init a0 M K) (sz : Nat) : Met l yX3_init (Cond.code yX3_init cX3_init 2 none :: tbG_) rmX3_init (cPc_ D M sz [.ref a0]) (va_Qv (fun M' => K M') (cB_ D M sz) (Aw_ M sz)) 5 16 (Aw_ M sz) := by
  refine ofV (by decide) (Nat.le_of_ble_eq_true rfl) ?_
  intro p e s m below meth c g hr hin hsz
  subst hsz
  have hin := hin rfl
  obtain ⟨hp0, hw⟩ := hw
  refine r_aload_n g dX3_init_0 rfl 0 rfl ?_
  refine r_oinit g tw_222 tw_33 tw_34 dX3_init_1 (Nat.le_of_ble_eq_true rfl) (Nat.le_of_ble_eq_true rfl) ?_
  refine r_aload_n g dX3_init_4 rfl 0 rfl ?_
  refine r_iconst (v := 4) g dX3_init_5 (by decide) ?_
  refine r_newR (t := 4) (C := "ColdFrame$Condition") g (by decide) (by decide) rfl tw_223 tx_224 (by decide) (Nat.le_of_ble_eq_true rfl) (Nat.le_of_ble_eq_true rfl) (Nat.le_of_ble_eq_true rfl) dX3_init_6 (fun q1 h2 hq3 => ?_)
  have hw := hw q1 h2 hq3 _ rfl
  have hk5 := kd_nw_ (c := 24) (n := ix_ (4 : Int32)) hq3 hp0 (by decide)
  have hT6 := Nk_.tr (Nk_.rf _) (Nk_nw_ (c := 24) (n := ix_ (4 : Int32)) hq3)
  have hk7 := kd_nq_ M q1 24 (ix_ (4 : Int32))
  refine r_ptFx (C := RX3) (T := TX3) (N := 2) g (ci := 4) rfl tc_X3 tyX3 tyX3_ok nmX3 hk5 0 (by decide) tw_241 (fun _ h => h) rfl hin rfl rfl (k_ne hk7 (by decide)) rfl rfl dX3_init_9 ?_
  have hw := hw _ rfl
  refine r_iconst (v := 0) g dX3_init_12 (by decide) ?_
  refine r_istore_n (L' := [(1, .int (0 : Int32)), (0, .ref a0)]) g dX3_init_13 rfl (by decide) rfl ?_
  obtain ⟨n33, hw⟩ := hw
  refine V_.sub (lo_X3_init_14 g hr rfl n33 _ (0 : Int32) 1 4 _ hw hk5 (fun  c34 d35 M32 hE hN36 => ?_)) [1, 0] rfl
  have hw := hE hN36
  have hT37 := Nk_.tr hT6 hN36
  obtain ⟨h38, h39, hw⟩ := hw
  exact r_vret g hr h38 h39 rfl dX3_init_38 hw
def rmX3_state : Room := { frames := 1, cells := 0, slots := 0, locals := 23 }
theorem hy_X3_state : yX3_state.cls ≠ "java/lang/invoke/MethodHandle" ∧ yX3_state.cls ≠ "java/lang/invoke/VarHandle" ∧ (parseMethodDescriptor yX3_state.desc).map (fun d => d.parameters.length) = some 3 := by decide +kernel
def wp_X3_state (a0 : Nat) (x1 : Int32) (x2 : Int32) (x3 : Int32) (M : Mm) (K : Mm → Int32 → Prop) : Prop := kd_ M a0 = 5 ∧ (((4 : Int32) ≤ (it_ M a0 1) → (K M (it_ M a0 1))) ∧ (¬ (4 : Int32) ≤ (it_ M a0 1) → (kd_ M (rf_ M a0 0) = 24 ∧ (vp_in (it_ M a0 1) (ln_ M (rf_ M a0 0)) ∧ kd_ M (rf_ M (rf_ M a0 0) (ix_ (it_ M a0 1))) = 4 ∧ (wp_X2_state (rf_ M (rf_ M a0 0) (ix_ (it_ M a0 1))) x1 x2 x3 M (fun M5 => Nk_ M M5 → (∀ M10, M10 = sI_ M5 a0 1 ((it_ M5 a0 1) + (1 : Int32)) → (K M10 (it_ M10 a0 1)))))))))
set_option maxHeartbeats 4000000 in
set_option maxRecDepth 100000 in
theorem mt_X3_state {l : Launch} {D : Dd_} {M : Mm} {a0 : Nat} {x1 : Int32} {x2 : Int32} {x3 : Int32} {K : Mm → Int32 → Prop} (hw : wp_X3_state a0 x1 x2 x3 M K) (sz : Nat) : Met l yX3_state (Cond.code yX3_state cX3_state 4 (some .int) :: tbG_) rmX3_state (cPc_ D M sz [.ref a0, .int x1, .int x2, .int x3]) (va_Qi (fun r M' => K M' r) (cB_ D M sz) (Aw_ M sz)) 0 0 (Aw_ M sz) := by
  refine ofV (by decide) (Nat.le_of_ble_eq_true rfl) ?_
  intro p e s m below meth c g hr hin hsz
  subst hsz
  obtain ⟨hp0, hw⟩ := hw
  refine r_aload_n g dX3_state_0 rfl 0 rfl ?_
  refine r_gt (C := RX3) (T := TX3) (N := 2) g (ci := 4) rfl tc_X3 hp0 1 (by decide) tw_243 (fun _ h => h) rfl dX3_state_1 ?_
  refine r_iconst (v := 4) g dX3_state_4 (by decide) ?_
  refine r_icmp_ge (tgt := 33) g dX3_state_5 (by decide) (fun hc1 => ?_) (fun hc1 => ?_)
  · have hw := hw.1 hc1
    refine r_aload_n g dX3_state_33 rfl 0 rfl ?_
    refine r_gt (C := RX3) (T := TX3) (N := 2) g (ci := 4) rfl tc_X3 hp0 1 (by decide) tw_243 (fun _ h => h) rfl dX3_state_34 ?_
    exact r_iret g hr (Nat.le_of_ble_eq_true rfl) (Nat.le_of_ble_eq_true rfl) rfl dX3_state_37 hw
  · have hw := hw.2 hc1
    refine r_aload_n g dX3_state_8 rfl 0 rfl ?_
    obtain ⟨hk2, hw⟩ := hw
    refine r_gtR (C := RX3) (T := TX3) (N := 2) g (ci := 4) rfl tc_X3 hp0 0 (by decide) tw_241 (fun _ h => h) rfl (k_ne hk2 (by decide)) dX3_state_9 ?_
    refine r_aload_n g dX3_state_12 rfl 0 rfl ?_
    refine r_gt (C := RX3) (T := TX3) (N := 2) g (ci := 4) rfl tc_X3 hp0 1 (by decide) tw_243 (fun _ h => h) rfl dX3_state_13 ?_
    obtain ⟨hi3, hk4, hw⟩ := hw
    refine r_aald (t := 4) g (by decide) (by decide) hk2 hi3 dX3_state_16 ?_
    refine r_rv (k_ne hk4 (by decide)) ?_
    refine r_iload_n g dX3_state_17 rfl 1 rfl ?_
    refine r_iload_n g dX3_state_18 rfl 2 rfl ?_
    refine r_iload_n g dX3_state_19 rfl 3 rfl ?_
    refine r_callVv (As := [.int x1, .int x2, .int x3]) g (fun sz => mt_X2_state hw sz) tw_901 tw_904 tw_11 tw_902 tw_903 (ci := 3) (T := TX2) (N := 3) rfl hk4 hy_X2_state ⟨rfl, rfl⟩ (Nat.le_of_ble_eq_true rfl) (Nat.le_of_ble_eq_true rfl) (Nat.le_of_ble_eq_true rfl) (Nat.le_of_ble_eq_true rfl) (Nat.le_of_ble_eq_true rfl) rfl dX3_state_20 (fun M5 hK6 hN7 => ?_)
    have hw := hK6 hN7
    have hk8 := Nk_.k hN7 hp0 (by decide)
    have hT9 := Nk_.tr (Nk_.rf _) hN7
    refine r_aload_n g dX3_state_23 rfl 0 rfl ?_
    refine r_dup g dX3_state_24 rfl ?_
    refine r_gt (C := RX3) (T := TX3) (N := 2) g (ci := 4) rfl tc_X3 hk8 1 (by decide) tw_243 (fun _ h => h) rfl dX3_state_25 ?_
    refine r_iconst (v := 1) g dX3_state_28 (by decide) ?_
    refine r_iadd g dX3_state_29 ?_
    refine r_ptI (C := RX3) (T := TX3) (N := 2) g (ci := 4) rfl tc_X3 tyX3 tyX3_ok nmX3 hk8 1 (by decide) tw_243 (fun _ h => h) rfl rfl rfl rfl dX3_state_30 ?_
    have hw := hw _ rfl
    refine r_aload_n g dX3_state_33 rfl 0 rfl ?_
    refine r_gt (C := RX3) (T := TX3) (N := 2) g (ci := 4) rfl tc_X3 hk8 1 (by decide) tw_243 (fun _ h => h) rfl dX3_state_34 ?_
    exact r_iret g hr (Nat.le_of_ble_eq_true rfl) (Nat.le_of_ble_eq_true rfl) rfl dX3_state_37 hw
def rmX4_init : Room := { frames := 3, cells := 25, slots := 76, locals := 53 }
theorem hy_X4_init : yX4_init.cls ≠ "java/lang/invoke/MethodHandle" ∧ yX4_init.cls ≠ "java/lang/invoke/VarHandle" ∧ (parseMethodDescriptor yX4_init.desc).map (fun d => d.parameters.length) = some 0 := by decide +kernel
def lp_X4_init_19 (a0 : Nat) (K : Mm → Prop) (E : Nat → Nat → Mm → Prop) : Nat → Int32 → Nat → Nat → Mm → Prop
  | 0, _, _, _, _ => False
  | n + 1, x1, uc, ud, M => (((4 : Int32) ≤ x1 → E  uc ud M) ∧ (¬ (4 : Int32) ≤ x1 → (kd_ M (rf_ M a0 0) = 25 ∧ (uc + 1 ≤ 25 ∧ ud + 2 ≤ 76 ∧ (∀ q12, q12 ≠ 0 → kd_ M q12 = 0 → ∀ M15, M15 = nw_ M q12 5 0 → ((uc + 1) + 5 ≤ 25 ∧ (ud + 2) + 16 ≤ 76 ∧ wp_X3_init q12 M15 (fun M22 => Nk_ M15 M22 → (vp_in x1 (ln_ M22 (rf_ M a0 0)) ∧ (∀ M32, M32 = sR_ M22 (rf_ M a0 0) (ix_ x1) q12 → lp_X4_init_19 a0 K E n (x1 + (1 : Int32)) ((uc + 1) + 5) ((ud + 2) + 16) M32)))))))))
def wp_X4_init (a0 : Nat) (M : Mm) (K : Mm → Prop) : Prop := kd_ M a0 = 6 ∧ ((∀ q1, q1 ≠ 0 → kd_ M q1 = 0 → ∀ M4, M4 = nw_ M q1 25 (ix_ (4 : Int32)) → (∀ M8, M8 = sR_ M4 a0 0 q1 → (∀ M9, M9 = sI_ M8 a0 1 (1 : Int32) → (∃ n34 : Nat, lp_X4_init_19 a0 K (fun  c35 d36 M33 => Nk_ M9 M33 → (c35 ≤ 25 ∧ d36 ≤ 76 ∧ K M33)) n34 (0 : Int32) 1 4 M9)))))
set_option maxHeartbeats 4000000 in
set_option maxRecDepth 100000 in
theorem lo_X4_init_19 {p : Program} {l : Launch} {e : Env} {s : State} {m : MethodId} {args : Array Value} {below : List Frame} {meth : Method} {c : Code} {D : Dd_} {M0 : Mm} {Q : State → Prop} {K : Mm → Prop} (g : G_ p s m args meth c cX4_init 2 RX4 D M0) (hr : meth.sig.returnType = none) (hQ : Q = MQ below (va_Qv (fun M' => K M') (cB_ D M0 s.heap.size) (Aw_ M0 s.heap.size)) args s 25 76 (Aw_ M0 s.heap.size)) {a0 : Nat} : ∀ (n : Nat) (E : Nat → Nat → Mm → Prop) (x1 : Int32) (uc : Nat) (ud : Nat) (M : Mm), lp_X4_init_19 a0 K E n x1 uc ud M → kd_ M a0 = 6 → (∀ (c9 d9 : Nat) (M' : Mm), E  c9 d9 M' → Nk_ M M' → V_ p l e rmX4_init s m args below meth c 2 D M0 Q 43 [] [] M' c9 d9) → V_ p l e rmX4_init s m args below meth c 2 D M0 Q 19 [(0, .ref a0), (1, .int x1)] [] M uc ud := by
  intro n
  induction n with
  | zero =>
    intro E x1 uc ud M hw
    exact hw.elim
  | succ n ih =>
    intro E x1 uc ud M hw hp0 kE
    refine r_iload_n g dX4_init_19 rfl 1 rfl ?_
    refine r_iconst (v := 4) g dX4_init_20 (by decide) ?_
    refine r_icmp_ge (tgt := 43) g dX4_init_21 (by decide) (fun hc10 => ?_) (fun hc10 => ?_)
    · have hw := hw.1 hc10
      exact V_.sub (kE  uc ud _ hw (Nk_.rf _)) [] rfl
    · have hw := hw.2 hc10
      refine r_aload_n g dX4_init_24 rfl 0 rfl ?_
      obtain ⟨hk11, hw⟩ := hw
      refine r_gtR (C := RX4) (T := TX4) (N := 2) g (ci := 5) rfl tc_X4 hp0 0 (by decide) tw_252 (fun _ h => h) rfl (k_ne hk11 (by decide)) dX4_init_25 ?_
      refine r_iload_n g dX4_init_28 rfl 1 rfl ?_
      obtain ⟨h16, h17, hw⟩ := hw
      refine r_new (ci := 4) (C := RX3) (T := TX3) (N := 2) g rfl tc_X3 tyX3 tyX3_ok tw_216 tw_218 tw_10 td_X3 h16 h17 dX4_init_29 (fun q12 h13 hq14 => ?_)
      have hw := hw q12 h13 hq14 _ rfl
      have hk18 := kd_nw_ (c := 5) (n := 0) hq14 hp0 (by decide)
      have hk19 := kd_nw_ (c := 5) (n := 0) hq14 hk11 (by decide)
      have hT20 := Nk_.tr (Nk_.rf _) (Nk_nw_ (c := 5) (n := 0) hq14)
      have hk21 := kd_nq_ M q12 5 0
      refine r_dup g dX4_init_32 rfl ?_
      obtain ⟨h25, h26, hw⟩ := hw
      refine r_callIv (As := []) g (fun sz => mt_X3_init hw sz) tw_219 tw_221 tw_10 tw_220 rfl hy_X3_init ⟨rfl, rfl⟩ (Nat.le_of_ble_eq_true rfl) (Nat.le_of_ble_eq_true rfl) h25 h26 (Nat.le_of_ble_eq_true rfl) rfl dX4_init_33 (fun M22 hK23 hN24 => ?_)
      have hw := hK23 hN24
      have hk27 := Nk_.k hN24 hk18 (by decide)
      have hk28 := Nk_.k hN24 hk21 (by decide)
      have hk29 := Nk_.k hN24 hk19 (by decide)
      have hT30 := Nk_.tr hT20 hN24
      obtain ⟨hi31, hw⟩ := hw
      refine r_aast (t := 5) (ci := 4) (C := RX3) (T := TX3) (N := 2) g rfl (by decide) (by decide) rfl hk29 hk28 hi31 dX4_init_36 ?_
      have hw := hw _ rfl
      refine r_iinc (v := x1 + (1 : Int32)) (L' := [(1, .int (x1 + (1 : Int32))), (0, .ref a0)]) g dX4_init_37 1 rfl rfl (by decide) rfl ?_
      refine r_goto (tgt := 19) g dX4_init_40 (by decide) ?_
      exact V_.sub (ih E (x1 + (1 : Int32)) ((uc + 1) + 5) ((ud + 2) + 16) _ hw hk27 (fun  c9 d9 M9 hE9 hN9 => kE  c9 d9 M9 hE9 (Nk_.tr hT30 hN9))) [1, 0] rfl
set_option maxHeartbeats 4000000 in
set_option maxRecDepth 100000 in
theorem mt_X4_init {l : Launch} {D : Dd_} {M : Mm} {a0 : Nat} {K : Mm → Prop} (hw : wp_X4_init a0 M K) (sz : Nat) : Met l yX4_init (Cond.code yX4_init cX4_init 2 none :: tbG_) rmX4_init (cPc_ D M sz [.ref a0]) (va_Qv (fun M' => K M') (cB_ D M sz) (Aw_ M sz)) 25 76 (Aw_ M sz) := by
  refine ofV (by decide) (Nat.le_of_ble_eq_true rfl) ?_
  intro p e s m below meth c g hr hin hsz
  subst hsz
  have hin := hin rfl
  obtain ⟨hp0, hw⟩ := hw
  refine r_aload_n g dX4_init_0 rfl 0 rfl ?_
  refine r_oinit g tw_215 tw_33 tw_34 dX4_init_1 (Nat.le_of_ble_eq_true rfl) (Nat.le_of_ble_eq_true rfl) ?_
  refine r_aload_n g dX4_init_4 rfl 0 rfl ?_
  refine r_iconst (v := 4) g dX4_init_5 (by decide) ?_
  refine r_newR (t := 5) (C := "ColdFrame$Group") g (by decide) (by decide) rfl tw_216 tx_217 (by decide) (Nat.le_of_ble_eq_true rfl) (Nat.le_of_ble_eq_true rfl) (Nat.le_of_ble_eq_true rfl) dX4_init_6 (fun q1 h2 hq3 => ?_)
  have hw := hw q1 h2 hq3 _ rfl
  have hk5 := kd_nw_ (c := 25) (n := ix_ (4 : Int32)) hq3 hp0 (by decide)
  have hT6 := Nk_.tr (Nk_.rf _) (Nk_nw_ (c := 25) (n := ix_ (4 : Int32)) hq3)
  have hk7 := kd_nq_ M q1 25 (ix_ (4 : Int32))
  refine r_ptFx (C := RX4) (T := TX4) (N := 2) g (ci := 5) rfl tc_X4 tyX4 tyX4_ok nmX4 hk5 0 (by decide) tw_252 (fun _ h => h) rfl hin rfl rfl (k_ne hk7 (by decide)) rfl rfl dX4_init_9 ?_
  have hw := hw _ rfl
  refine r_aload_n g dX4_init_12 rfl 0 rfl ?_
  refine r_iconst (v := 1) g dX4_init_13 (by decide) ?_
  refine r_ptI (C := RX4) (T := TX4) (N := 2) g (ci := 5) rfl tc_X4 tyX4 tyX4_ok nmX4 hk5 1 (by decide) tw_254 (fun _ h => h) rfl rfl rfl rfl dX4_init_14 ?_
  have hw := hw _ rfl
  refine r_iconst (v := 0) g dX4_init_17 (by decide) ?_
  refine r_istore_n (L' := [(1, .int (0 : Int32)), (0, .ref a0)]) g dX4_init_18 rfl (by decide) rfl ?_
  obtain ⟨n34, hw⟩ := hw
  refine V_.sub (lo_X4_init_19 g hr rfl n34 _ (0 : Int32) 1 4 _ hw hk5 (fun  c35 d36 M33 hE hN37 => ?_)) [1, 0] rfl
  have hw := hE hN37
  have hT38 := Nk_.tr hT6 hN37
  obtain ⟨h39, h40, hw⟩ := hw
  exact r_vret g hr h39 h40 rfl dX4_init_43 hw
def rmX4_latest : Room := { frames := 0, cells := 0, slots := 0, locals := 0 }
theorem hy_X4_latest : yX4_latest.cls ≠ "java/lang/invoke/MethodHandle" ∧ yX4_latest.cls ≠ "java/lang/invoke/VarHandle" ∧ (parseMethodDescriptor yX4_latest.desc).map (fun d => d.parameters.length) = some 0 := by decide +kernel
def wp_X4_latest (a0 : Nat) (M : Mm) (K : Mm → Nat → Prop) : Prop := kd_ M a0 = 6 ∧ (kd_ M (rf_ M a0 0) = 25 ∧ (vp_in ((it_ M a0 1) - (1 : Int32)) (ln_ M (rf_ M a0 0)) ∧ kd_ M (rf_ M (rf_ M a0 0) (ix_ ((it_ M a0 1) - (1 : Int32)))) = 5 ∧ (K M (rf_ M (rf_ M a0 0) (ix_ ((it_ M a0 1) - (1 : Int32)))))))
set_option maxHeartbeats 4000000 in
set_option maxRecDepth 100000 in
theorem mt_X4_latest {l : Launch} {D : Dd_} {M : Mm} {a0 : Nat} {K : Mm → Nat → Prop} (hw : wp_X4_latest a0 M K) (sz : Nat) : Met l yX4_latest (Cond.code yX4_latest cX4_latest 1 (some (.object "ColdFrame$Group")) :: tbG_) rmX4_latest (cPc_ D M sz [.ref a0]) (va_Qr (S := Mm) (fun _ => True) (fun M' a t => K M' a ∧ kd_ M' a ≠ 0 ∧ cB_ D M sz M' t) (Aw_ M sz)) 0 0 (Aw_ M sz) := by
  refine ofV (by decide) (Nat.le_of_ble_eq_true rfl) ?_
  intro p e s m below meth c g hr hin hsz
  subst hsz
  obtain ⟨hp0, hw⟩ := hw
  refine r_aload_n g dX4_latest_0 rfl 0 rfl ?_
  obtain ⟨hk1, hw⟩ := hw
  refine r_gtR (C := RX4) (T := TX4) (N := 2) g (ci := 5) rfl tc_X4 hp0 0 (by decide) tw_252 (fun _ h => h) rfl (k_ne hk1 (by decide)) dX4_latest_1 ?_
  refine r_aload_n g dX4_latest_4 rfl 0 rfl ?_
  refine r_gt (C := RX4) (T := TX4) (N := 2) g (ci := 5) rfl tc_X4 hp0 1 (by decide) tw_254 (fun _ h => h) rfl dX4_latest_5 ?_
  refine r_iconst (v := 1) g dX4_latest_8 (by decide) ?_
  refine r_isub g dX4_latest_9 ?_
  obtain ⟨hi2, hk3, hw⟩ := hw
  refine r_aald (t := 5) g (by decide) (by decide) hk1 hi2 dX4_latest_10 ?_
  refine r_rv (k_ne hk3 (by decide)) ?_
  exact r_rret g hr (by first | exact Or.inl ⟨_, rfl⟩ | exact Or.inr ⟨_, rfl⟩) (Nat.le_of_ble_eq_true rfl) (Nat.le_of_ble_eq_true rfl) rfl (k_ne hk3 (by decide)) dX4_latest_11 hw
def rmX4_begin : Room := { frames := 1, cells := 0, slots := 0, locals := 20 }
theorem hy_X4_begin : yX4_begin.cls ≠ "java/lang/invoke/MethodHandle" ∧ yX4_begin.cls ≠ "java/lang/invoke/VarHandle" ∧ (parseMethodDescriptor yX4_begin.desc).map (fun d => d.parameters.length) = some 0 := by decide +kernel
def wp_X4_begin (a0 : Nat) (M : Mm) (K : Mm → Int32 → Prop) : Prop := kd_ M a0 = 6 ∧ (((4 : Int32) ≤ (it_ M a0 1) → (K M ((it_ M a0 1) - (1 : Int32)))) ∧ (¬ (4 : Int32) ≤ (it_ M a0 1) → (∀ M2, M2 = sI_ M a0 1 ((it_ M a0 1) + (1 : Int32)) → (wp_X4_latest a0 M2 (fun M3 r4 => Nk_ M2 M3 → kd_ M3 r4 = 5 ∧ (∀ M11, M11 = sI_ M3 r4 1 (0 : Int32) → (K M11 ((it_ M11 a0 1) - (1 : Int32)))))))))
set_option maxHeartbeats 4000000 in
set_option maxRecDepth 100000 in
theorem mt_X4_begin {l : Launch} {D : Dd_} {M : Mm} {a0 : Nat} {K : Mm → Int32 → Prop} (hw : wp_X4_begin a0 M K) (sz : Nat) : Met l yX4_begin (Cond.code yX4_begin cX4_begin 1 (some .int) :: tbG_) rmX4_begin (cPc_ D M sz [.ref a0]) (va_Qi (fun r M' => K M' r) (cB_ D M sz) (Aw_ M sz)) 0 0 (Aw_ M sz) := by
  refine ofV (by decide) (Nat.le_of_ble_eq_true rfl) ?_
  intro p e s m below meth c g hr hin hsz
  subst hsz
  obtain ⟨hp0, hw⟩ := hw
  refine r_aload_n g dX4_begin_0 rfl 0 rfl ?_
  refine r_gt (C := RX4) (T := TX4) (N := 2) g (ci := 5) rfl tc_X4 hp0 1 (by decide) tw_254 (fun _ h => h) rfl dX4_begin_1 ?_
  refine r_iconst (v := 4) g dX4_begin_4 (by decide) ?_
  refine r_icmp_ge (tgt := 26) g dX4_begin_5 (by decide) (fun hc1 => ?_) (fun hc1 => ?_)
  · have hw := hw.1 hc1
    refine r_aload_n g dX4_begin_26 rfl 0 rfl ?_
    refine r_gt (C := RX4) (T := TX4) (N := 2) g (ci := 5) rfl tc_X4 hp0 1 (by decide) tw_254 (fun _ h => h) rfl dX4_begin_27 ?_
    refine r_iconst (v := 1) g dX4_begin_30 (by decide) ?_
    refine r_isub g dX4_begin_31 ?_
    exact r_iret g hr (Nat.le_of_ble_eq_true rfl) (Nat.le_of_ble_eq_true rfl) rfl dX4_begin_32 hw
  · have hw := hw.2 hc1
    refine r_aload_n g dX4_begin_8 rfl 0 rfl ?_
    refine r_dup g dX4_begin_9 rfl ?_
    refine r_gt (C := RX4) (T := TX4) (N := 2) g (ci := 5) rfl tc_X4 hp0 1 (by decide) tw_254 (fun _ h => h) rfl dX4_begin_10 ?_
    refine r_iconst (v := 1) g dX4_begin_13 (by decide) ?_
    refine r_iadd g dX4_begin_14 ?_
    refine r_ptI (C := RX4) (T := TX4) (N := 2) g (ci := 5) rfl tc_X4 tyX4 tyX4_ok nmX4 hp0 1 (by decide) tw_254 (fun _ h => h) rfl rfl rfl rfl dX4_begin_15 ?_
    have hw := hw _ rfl
    refine r_aload_n g dX4_begin_18 rfl 0 rfl ?_
    refine r_callVr (As := []) g (fun sz => mt_X4_latest hw sz) tw_915 tw_895 tw_9 tw_893 tw_894 (ci := 5) (T := TX4) (N := 2) rfl hp0 hy_X4_latest ⟨rfl, rfl⟩ (Nat.le_of_ble_eq_true rfl) (Nat.le_of_ble_eq_true rfl) (Nat.le_of_ble_eq_true rfl) (Nat.le_of_ble_eq_true rfl) (Nat.le_of_ble_eq_true rfl) rfl dX4_begin_19 (fun M3 r4 hK5 h9 hN6 => ?_)
    obtain ⟨hk10, hw⟩ := hK5 hN6
    have hk7 := Nk_.k hN6 hp0 (by decide)
    have hT8 := Nk_.tr (Nk_.rf _) hN6
    refine r_iconst (v := 0) g dX4_begin_22 (by decide) ?_
    refine r_ptI (C := RX3) (T := TX3) (N := 2) g (ci := 4) rfl tc_X3 tyX3 tyX3_ok nmX3 hk10 1 (by decide) tw_244 (fun _ h => h) rfl rfl rfl rfl dX4_begin_23 ?_
    have hw := hw _ rfl
    refine r_aload_n g dX4_begin_26 rfl 0 rfl ?_
    refine r_gt (C := RX4) (T := TX4) (N := 2) g (ci := 5) rfl tc_X4 hk7 1 (by decide) tw_254 (fun _ h => h) rfl dX4_begin_27 ?_
    refine r_iconst (v := 1) g dX4_begin_30 (by decide) ?_
    refine r_isub g dX4_begin_31 ?_
    exact r_iret g hr (Nat.le_of_ble_eq_true rfl) (Nat.le_of_ble_eq_true rfl) rfl dX4_begin_32 hw
def rmX4_reset : Room := { frames := 1, cells := 0, slots := 0, locals := 20 }
theorem hy_X4_reset : yX4_reset.cls ≠ "java/lang/invoke/MethodHandle" ∧ yX4_reset.cls ≠ "java/lang/invoke/VarHandle" ∧ (parseMethodDescriptor yX4_reset.desc).map (fun d => d.parameters.length) = some 0 := by decide +kernel
def wp_X4_reset (a0 : Nat) (M : Mm) (K : Mm → Prop) : Prop := kd_ M a0 = 6 ∧ (∀ M1, M1 = sI_ M a0 1 (1 : Int32) → (wp_X4_latest a0 M1 (fun M2 r3 => Nk_ M1 M2 → kd_ M2 r3 = 5 ∧ (∀ M10, M10 = sI_ M2 r3 1 (0 : Int32) → K M10))))
set_option maxHeartbeats 4000000 in
set_option maxRecDepth 100000 in
theorem mt_X4_reset {l : Launch} {D : Dd_} {M : Mm} {a0 : Nat} {K : Mm → Prop} (hw : wp_X4_reset a0 M K) (sz : Nat) : Met l yX4_reset (Cond.code yX4_reset cX4_reset 1 none :: tbG_) rmX4_reset (cPc_ D M sz [.ref a0]) (va_Qv (fun M' => K M') (cB_ D M sz) (Aw_ M sz)) 0 0 (Aw_ M sz) := by
  refine ofV (by decide) (Nat.le_of_ble_eq_true rfl) ?_
  intro p e s m below meth c g hr hin hsz
  subst hsz
  obtain ⟨hp0, hw⟩ := hw
  refine r_aload_n g dX4_reset_0 rfl 0 rfl ?_
  refine r_iconst (v := 1) g dX4_reset_1 (by decide) ?_
  refine r_ptI (C := RX4) (T := TX4) (N := 2) g (ci := 5) rfl tc_X4 tyX4 tyX4_ok nmX4 hp0 1 (by decide) tw_254 (fun _ h => h) rfl rfl rfl rfl dX4_reset_2 ?_
  have hw := hw _ rfl
  refine r_aload_n g dX4_reset_5 rfl 0 rfl ?_
  refine r_callVr (As := []) g (fun sz => mt_X4_latest hw sz) tw_915 tw_895 tw_9 tw_893 tw_894 (ci := 5) (T := TX4) (N := 2) rfl hp0 hy_X4_latest ⟨rfl, rfl⟩ (Nat.le_of_ble_eq_true rfl) (Nat.le_of_ble_eq_true rfl) (Nat.le_of_ble_eq_true rfl) (Nat.le_of_ble_eq_true rfl) (Nat.le_of_ble_eq_true rfl) rfl dX4_reset_6 (fun M2 r3 hK4 h8 hN5 => ?_)
  obtain ⟨hk9, hw⟩ := hK4 hN5
  have hk6 := Nk_.k hN5 hp0 (by decide)
  have hT7 := Nk_.tr (Nk_.rf _) hN5
  refine r_iconst (v := 0) g dX4_reset_9 (by decide) ?_
  refine r_ptI (C := RX3) (T := TX3) (N := 2) g (ci := 4) rfl tc_X3 tyX3 tyX3_ok nmX3 hk9 1 (by decide) tw_244 (fun _ h => h) rfl rfl rfl rfl dX4_reset_10 ?_
  have hw := hw _ rfl
  exact r_vret g hr (Nat.le_of_ble_eq_true rfl) (Nat.le_of_ble_eq_true rfl) rfl dX4_reset_13 hw
def rmX4_conditionCount : Room := { frames := 0, cells := 0, slots := 0, locals := 0 }
theorem hy_X4_conditionCount : yX4_conditionCount.cls ≠ "java/lang/invoke/MethodHandle" ∧ yX4_conditionCount.cls ≠ "java/lang/invoke/VarHandle" ∧ (parseMethodDescriptor yX4_conditionCount.desc).map (fun d => d.parameters.length) = some 0 := by decide +kernel
def lp_X4_conditionCount_4 (a0 : Nat) (K : Mm → Int32 → Prop) (E : Int32 → Mm → Prop) : Nat → Int32 → Int32 → Mm → Prop
  | 0, _, _, _ => False
  | n + 1, x1, x2, M => (((it_ M a0 1) ≤ x2 → E x1 M) ∧ (¬ (it_ M a0 1) ≤ x2 → (kd_ M (rf_ M a0 0) = 25 ∧ (vp_in x2 (ln_ M (rf_ M a0 0)) ∧ kd_ M (rf_ M (rf_ M a0 0) (ix_ x2)) = 5 ∧ lp_X4_conditionCount_4 a0 K E n (x1 + (it_ M (rf_ M (rf_ M a0 0) (ix_ x2)) 1)) (x2 + (1 : Int32)) M))))
def wp_X4_conditionCount (a0 : Nat) (M : Mm) (K : Mm → Int32 → Prop) : Prop := kd_ M a0 = 6 ∧ (∃ n7 : Nat, lp_X4_conditionCount_4 a0 K (fun xv5 M6 => Nk_ M M6 → (K M6 xv5)) n7 (0 : Int32) (0 : Int32) M)
set_option maxHeartbeats 4000000 in
set_option maxRecDepth 100000 in
theorem lo_X4_conditionCount_4 {p : Program} {l : Launch} {e : Env} {s : State} {m : MethodId} {args : Array Value} {below : List Frame} {meth : Method} {c : Code} {D : Dd_} {M0 : Mm} {Q : State → Prop} {K : Mm → Int32 → Prop} (g : G_ p s m args meth c cX4_conditionCount 3 RX4 D M0) (hr : meth.sig.returnType = some .int) (hQ : Q = MQ below (va_Qi (fun r M' => K M' r) (cB_ D M0 s.heap.size) (Aw_ M0 s.heap.size)) args s 0 0 (Aw_ M0 s.heap.size)) {a0 : Nat} : ∀ (n : Nat) (E : Int32 → Mm → Prop) (x1 : Int32) (x2 : Int32) (M : Mm), lp_X4_conditionCount_4 a0 K E n x1 x2 M → kd_ M a0 = 6 → (∀ (v1 : Int32) (M' : Mm), E v1 M' → Nk_ M M' → V_ p l e rmX4_conditionCount s m args below meth c 3 D M0 Q 30 [(1, .int v1)] [] M' 0 0) → V_ p l e rmX4_conditionCount s m args below meth c 3 D M0 Q 4 [(0, .ref a0), (1, .int x1), (2, .int x2)] [] M 0 0 := by
  intro n
  induction n with
  | zero =>
    intro E x1 x2 M hw
    exact hw.elim
  | succ n ih =>
    intro E x1 x2 M hw hp0 kE
    refine r_iload_n g dX4_conditionCount_4 rfl 2 rfl ?_
    refine r_aload_n g dX4_conditionCount_5 rfl 0 rfl ?_
    refine r_gt (C := RX4) (T := TX4) (N := 2) g (ci := 5) rfl tc_X4 hp0 1 (by decide) tw_254 (fun _ h => h) rfl dX4_conditionCount_6 ?_
    refine r_icmp_ge (tgt := 30) g dX4_conditionCount_9 (by decide) (fun hc1 => ?_) (fun hc1 => ?_)
    · have hw := hw.1 hc1
      exact V_.sub (kE x1 _ hw (Nk_.rf _)) [1] rfl
    · have hw := hw.2 hc1
      refine r_iload_n g dX4_conditionCount_12 rfl 1 rfl ?_
      refine r_aload_n g dX4_conditionCount_13 rfl 0 rfl ?_
      obtain ⟨hk2, hw⟩ := hw
      refine r_gtR (C := RX4) (T := TX4) (N := 2) g (ci := 5) rfl tc_X4 hp0 0 (by decide) tw_252 (fun _ h => h) rfl (k_ne hk2 (by decide)) dX4_conditionCount_14 ?_
      refine r_iload_n g dX4_conditionCount_17 rfl 2 rfl ?_
      obtain ⟨hi3, hk4, hw⟩ := hw
      refine r_aald (t := 5) g (by decide) (by decide) hk2 hi3 dX4_conditionCount_18 ?_
      refine r_rv (k_ne hk4 (by decide)) ?_
      refine r_gt (C := RX3) (T := TX3) (N := 2) g (ci := 4) rfl tc_X3 hk4 1 (by decide) tw_244 (fun _ h => h) rfl dX4_conditionCount_19 ?_
      refine r_iadd g dX4_conditionCount_22 ?_
      refine r_istore_n (L' := [(1, .int (x1 + (it_ M (rf_ M (rf_ M a0 0) (ix_ x2)) 1))), (0, .ref a0), (2, .int x2)]) g dX4_conditionCount_23 rfl (by decide) rfl ?_
      refine r_iinc (v := x2 + (1 : Int32)) (L' := [(2, .int (x2 + (1 : Int32))), (1, .int (x1 + (it_ M (rf_ M (rf_ M a0 0) (ix_ x2)) 1))), (0, .ref a0)]) g dX4_conditionCount_24 2 rfl rfl (by decide) rfl ?_
      refine r_goto (tgt := 4) g dX4_conditionCount_27 (by decide) ?_
      exact V_.sub (ih E (x1 + (it_ M (rf_ M (rf_ M a0 0) (ix_ x2)) 1)) (x2 + (1 : Int32)) _ hw hp0 (fun v1 M9 hE9 hN9 => kE v1 M9 hE9 (Nk_.tr (Nk_.rf _) hN9))) [2, 1, 0] rfl
set_option maxHeartbeats 4000000 in
set_option maxRecDepth 100000 in
theorem mt_X4_conditionCount {l : Launch} {D : Dd_} {M : Mm} {a0 : Nat} {K : Mm → Int32 → Prop} (hw : wp_X4_conditionCount a0 M K) (sz : Nat) : Met l yX4_conditionCount (Cond.code yX4_conditionCount cX4_conditionCount 3 (some .int) :: tbG_) rmX4_conditionCount (cPc_ D M sz [.ref a0]) (va_Qi (fun r M' => K M' r) (cB_ D M sz) (Aw_ M sz)) 0 0 (Aw_ M sz) := by
  refine ofV (by decide) (Nat.le_of_ble_eq_true rfl) ?_
  intro p e s m below meth c g hr hin hsz
  subst hsz
  obtain ⟨hp0, hw⟩ := hw
  refine r_iconst (v := 0) g dX4_conditionCount_0 (by decide) ?_
  refine r_istore_n (L' := [(1, .int (0 : Int32)), (0, .ref a0)]) g dX4_conditionCount_1 rfl (by decide) rfl ?_
  refine r_iconst (v := 0) g dX4_conditionCount_2 (by decide) ?_
  refine r_istore_n (L' := [(2, .int (0 : Int32)), (1, .int (0 : Int32)), (0, .ref a0)]) g dX4_conditionCount_3 rfl (by decide) rfl ?_
  obtain ⟨n7, hw⟩ := hw
  refine V_.sub (lo_X4_conditionCount_4 g hr rfl n7 _ (0 : Int32) (0 : Int32) _ hw hp0 (fun xv5 M6 hE hN8 => ?_)) [2, 1, 0] rfl
  have hw := hE hN8
  have hT9 := Nk_.tr (Nk_.rf _) hN8
  refine r_iload_n g dX4_conditionCount_30 rfl 0 rfl ?_
  exact r_iret g hr (Nat.le_of_ble_eq_true rfl) (Nat.le_of_ble_eq_true rfl) rfl dX4_conditionCount_31 hw
