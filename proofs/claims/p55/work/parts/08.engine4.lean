/-! facts of kinds that are one of two, or some -/
theorem k_neO {a c d : Nat} (h : a = c ∨ a = d) (hc : c ≠ 0) (hd : d ≠ 0) : a ≠ 0 := by
  rcases h with h | h
  · exact k_ne h hc
  · exact k_ne h hd
theorem k_orN {M M1 : Mm} {a c d : Nat} (hN : Nk_ M M1) (h : kd_ M a = c ∨ kd_ M a = d) (hc : c ≠ 0) (hd : d ≠ 0) : kd_ M1 a = c ∨ kd_ M1 a = d := by
  rcases h with h | h
  · exact Or.inl (hN.k h hc)
  · exact Or.inr (hN.k h hd)
theorem k_nzN {M M1 : Mm} {a : Nat} (hN : Nk_ M M1) (h : kd_ M a ≠ 0) : kd_ M1 a ≠ 0 := by
  rw [hN.k rfl h]
  exact h
/-! what is thrown: 0 an index out of bounds, 1 an illegal state -/
def xE_ (k : Nat) : String := if k = 0 then "java/lang/IndexOutOfBoundsException" else "java/lang/IllegalStateException"
def Xe_ (X : Nat → Mm → Prop) (E : String) (u : Mm) : Prop := (E = xE_ 0 ∧ X 0 u) ∨ (E = xE_ 1 ∧ X 1 u)
abbrev XC_ (D : Dd_) (M : Mm) (sz : Nat) (X : Nat → Mm → Prop) : String → State → State → Prop := vx_X (S := Mm) (fun _ => True) (fun E u t => Xe_ X E u ∧ cB_ D M sz u t) (Aw_ M sz)
def VX_ (p : Program) (l : Launch) (e : Env) (R : Room) (s : State) (m : MethodId) (args : Array Value) (below : List Frame) (meth : Method) (c : Code) (nL : Nat) (D : Dd_) (M0 : Mm) (Q : State → Prop) (E : String) (pc : Nat) (L : List (Nat × Value)) (S : List Value) (M : Mm) (n k : Nat) : Prop :=
  ∀ (H : Heap) (locs : List Loc) (ls : Array Slot) (q : Addr) (ce : Cell), Rp_ s D M H → Nw_ M0 s.heap.size M → lv_has ls nL L → va_S (Aw_ M0 s.heap.size) s.heap H locs → H[q]? = some ce → ce.vm = .none → s.vm.findClass E = some ce.cls → vx_W p l e R s m args below meth c H locs n k Q (F0 m pc ls S) q
theorem ofX {l : Launch} {y : MethodName} {cc : ByteArray} {maxL : Nat} {ret : Option FieldType} {rm : Room} {D : Dd_} {M : Mm} {sz : Nat} {As : List Value} {Qc : Array Value → State → Outcome → State → Prop} {XC : String → State → State → Prop} {mc ms : Nat} (hy : plainName y.cls = true) (hn : (lg_sl As).length ≤ maxL)
    (body : ∀ (p : Program) (e : Env) (s : State) (m : MethodId) (below : List Frame) (meth : Method) (c : Code), G_ p s m As.toArray meth c cc maxL y.cls D M → meth.sig.returnType = ret → (y.name = "<init>" → meth.name = "<init>") → (∀ x ∈ c.exceptionTable.toList, False) → s.heap.size = sz → V_ p l e rm s m As.toArray below meth c maxL D M (vx_MQ below Qc XC As.toArray s mc ms (Aw_ M sz)) 0 (lv_args 0 As) [] M 0 0) :
    vx_Met l y (Cond.code y cc maxL ret :: tbG_) rm (cPc_ D M sz As) Qc XC mc ms (Aw_ M sz) := by
  refine vx_ofW (cc := cc) (maxL := maxL) (ret := ret) hy rfl ?_
  intro p e s m args below meth c s₁ B hml hto hv
  obtain ⟨rfl, hsz, hR0, hKn⟩ := hv
  have hts := atoms_spec (ws := Cond.code y cc maxL ret :: tbG_) B.pre
  have g : G_ p s m As.toArray meth c cc maxL y.cls D M := ⟨B.exec, B.bytes, hml, findClass_of_methodNamed B.named, fun w h => hts w (List.mem_cons_of_mem _ h), hKn, hR0, B.notSynchronized⟩
  have hl := lv_entry As (n := maxL) hn
  rw [lg_entry_eq]
  generalize (lg_sl As ++ List.replicate (maxL - (lg_sl As).length) Slot.unset).toArray = ls at hl ⊢
  exact body p e s m below meth c g B.returns (fun h => (name_of_methodNamed B.named B.method).1.trans h) hto hsz s.heap [] ls hR0 (Nw_.rf _ _) hl va_S.rf
section ROWS
variable {p : Program} {l : Launch} {e : Env} {R : Room} {s : State} {m : MethodId} {args : Array Value} {below : List Frame} {meth : Method} {c : Code} {cc : ByteArray} {nL : Nat} {own : String} {D : Dd_} {M0 : Mm} {Q : State → Prop}
variable {pc : Nat} {L L' : List (Nat × Value)} {S : List Value} {M : Mm} {n k : Nat}

theorem sameF (g : G_ p s m args meth c cc nL own D M0) {ref owner nm d : String} (w : Cond.sameField ref owner nm d ∈ tbG_) : ∀ x, s.fieldFound? owner nm d = some x → s.fieldFound? ref nm d = some x := u_same (g.2.2.2.2.1 _ w)
theorem r_aastB (g : G_ p s m args meth c cc nL own D M0) {a v : Nat} {i : Int32} (hkv : kd_ M v = 2 ∨ kd_ M v = 3) (hk : kd_ M a = 26) (hin : vp_in i (ln_ M a)) (hd : decode cc pc = .ok (.aastore, 1))
    (kk : V_ p l e R s m args below meth c nL D M0 Q (pc + 1) L S (sR_ M a (ix_ i) v) n k) : V_ p l e R s m args below meth c nL D M0 Q pc L (.ref v :: .int i :: .ref a :: S) M n k := by
  rcases hkv with hkv | hkv
  · exact r_aastO (ci := 1) (C := RX0) (T := TX0) (N := 4) g rfl tx_1120 hk hkv hin hd kk
  · exact r_aastO (ci := 2) (C := RX1) (T := TX1) (N := 5) g rfl tx_1125 hk hkv hin hd kk
theorem r_acmp_eq (g : G_ p s m args meth c cc nL own D M0) {x y : Nat} {off : Int} {tgt : Nat} (hd : decode cc pc = .ok (.if_acmp .eq off, 3)) (ht : (pc : Int) + off = (tgt : Int)) (kt : x = y → V_ p l e R s m args below meth c nL D M0 Q tgt L S M n k) (kf : ¬ (x = y) → V_ p l e R s m args below meth c nL D M0 Q (pc + 3) L S M n k) : V_ p l e R s m args below meth c nL D M0 Q pc L (.ref y :: .ref x :: S) M n k := fun H locs ls hR hN hl hS => lv_acmp_eq (rx := some x) (ry := some y) g.1 g.2.1 hd ht (fun h => kt (Option.some.inj h) H locs ls hR hN hl hS) (fun h => kf (fun z => h (by rw [z])) H locs ls hR hN hl hS)
theorem r_acmp_ne (g : G_ p s m args meth c cc nL own D M0) {x y : Nat} {off : Int} {tgt : Nat} (hd : decode cc pc = .ok (.if_acmp .ne off, 3)) (ht : (pc : Int) + off = (tgt : Int)) (kt : ¬ x = y → V_ p l e R s m args below meth c nL D M0 Q tgt L S M n k) (kf : x = y → V_ p l e R s m args below meth c nL D M0 Q (pc + 3) L S M n k) : V_ p l e R s m args below meth c nL D M0 Q pc L (.ref y :: .ref x :: S) M n k := fun H locs ls hR hN hl hS => lv_acmp_ne (rx := some x) (ry := some y) g.1 g.2.1 hd ht (fun h => kt (fun z => h (by rw [z])) H locs ls hR hN hl hS) (fun h => kf (Option.some.inj h) H locs ls hR hN hl hS)
/-- getClass() of a row of objects, and the class constant of such rows: one object -/
theorem r_getC (g : G_ p s m args meth c cc nL own D M0) {a i : Nat} (w1 : Cond.methodLink own i ⟨"java/lang/Object", "getClass", "()Ljava/lang/Class;"⟩ ∈ tbG_) (w2 : Cond.selects "[Ljava/lang/Object;" ⟨"java/lang/Object", "getClass", "()Ljava/lang/Class;"⟩ ⟨"java/lang/Object", "getClass", "()Ljava/lang/Class;"⟩ ∈ tbG_) (w3 : Cond.instanceMethod ⟨"java/lang/Object", "getClass", "()Ljava/lang/Class;"⟩ ∈ tbG_) (w4 : Cond.native ⟨"java/lang/Object", "getClass", "()Ljava/lang/Class;"⟩ ∈ tbG_) (hk : kd_ M a = 26)
    (hf : 1 ≤ R.frames) (hlo : (S.map fun v => v.category).sum + 14 ≤ R.locals) (hd : decode cc pc = .ok (.invokevirtual i, 3)) (kk : V_ p l e R s m args below meth c nL D M0 Q (pc + 3) L (.ref (D.2.1 100) :: S) M n k) : V_ p l e R s m args below meth c nL D M0 Q pc L (.ref a :: S) M n k := fun H locs ls hR hN hl hS => by
  obtain ⟨gx, gb, gml, go, gt, gK, -⟩ := g
  have h0 := hR.arr (t := 6) (by decide) hk
  exact va_getC (C := "[Ljava/lang/Object;") gx gb (gml.trans hl.1.symm) go (gt _ w1) gK.2.2.2.2.1.use (gt _ w2) (gt _ w3) (gt _ w4) gK.2.2.2.1 ⟨_, h0, rfl, va_nmO (gK.2.1 6 (by decide)).2 rfl⟩ hf hlo hd (kk H locs ls hR hN hl hS)
theorem r_ldcC (g : G_ p s m args meth c cc nL own D M0) {i : Nat} (w1 : Cond.classLink own i "[Ljava/lang/Object;" ∈ tbG_) (hd : decode cc pc = .ok (.ldc i, 2)) (kk : V_ p l e R s m args below meth c nL D M0 Q (pc + 2) L (.ref (D.2.1 100) :: S) M n k) : V_ p l e R s m args below meth c nL D M0 Q pc L S M n k := fun H locs ls hR hN hl hS => by
  obtain ⟨gx, gb, gml, go, gt, gK, -⟩ := g
  exact va_ldcM gx gb go (gt _ w1) gK.2.2.2.1 hd (kk H locs ls hR hN hl hS)
theorem r_acopyR (g : G_ p s m args meth c cc nL own D M0) {a0 a i : Nat} {sp dp z : Int32} (w1 : Cond.methodLink own i arraycopyName ∈ tbG_) (w2 : Cond.native arraycopyName ∈ tbG_) (w3 : Cond.static arraycopyName ∈ tbG_) (w4 : Cond.initialized "java/lang/System" ∈ tbG_) (hk0 : kd_ M a0 = 26) (hk1 : kd_ M a = 26) (h1 : ¬ sp < 0) (h2 : ¬ dp < 0) (h3 : ¬ z < 0) (h4 : ix_ sp + ix_ z ≤ ln_ M a0) (h5 : ix_ dp + ix_ z ≤ ln_ M a) (hel : ∀ j, j < ix_ z → rf_ M a0 (ix_ sp + j) = nz_ M ∨ kd_ M (rf_ M a0 (ix_ sp + j)) = 2 ∨ kd_ M (rf_ M a0 (ix_ sp + j)) = 3)
    (hf : 1 ≤ R.frames) (hlo : (S.map fun v => v.category).sum + (nativeFrameWords "java/lang/System" "arraycopy" 5 + 11) ≤ R.locals) (hd : decode cc pc = .ok (.invokestatic i, 3)) (kk : V_ p l e R s m args below meth c nL D M0 Q (pc + 3) L S (aR_ M a (va_cpy (rf_ M a0) (rf_ M a) (ix_ sp) (ix_ dp) (ix_ z))) n k) : V_ p l e R s m args below meth c nL D M0 Q pc L (.int z :: .int dp :: .ref a :: .int sp :: .ref a0 :: S) M n k := fun H locs ls hR hN hl hS => by
  obtain ⟨gx, gb, gml, go, gt, gK, -⟩ := g
  have hc0 := hR.arr (t := 6) (by decide) hk0
  have hc1 := hR.arr (t := 6) (by decide) hk1
  have hlt : a < H.size := (Array.getElem?_eq_some_iff.mp hc1).1
  have eav : ∀ b : Nat, av_ M 6 b = fun j => rv_ M (rf_ M b j) := fun b => funext fun j => av_R (by decide)
  rw [eav] at hc0 hc1
  obtain ⟨-, k0, hk0', cm0, hkk0⟩ := (gK.2.1 6 (by decide)).1 0 (fun _ => .null)
  have hk0' : s.vm.classes[D.2.1 6]? = some k0 := hk0'
  intro T hT X
  obtain ⟨vm', X', step⟩ := X.arraycopy gx go (gt _ w1) (gt _ w2) (gt _ w3) (gt _ w4) (src := a0) (dst := a) (cs := arrV (D.2.1 6) (ln_ M a0) (fun j => rv_ M (rf_ M a0 j))) (cd := arrV (D.2.1 6) (ln_ M a) (fun j => rv_ M (rf_ M a j))) (srcPos := sp) (destPos := dp) (n := z) (by rw [hT]; exact hc0) (by rw [hT]; exact hc1)
    (fun _ h => by cases h) (fun _ h => by cases h) (fun h => by cases h) (fun h => by cases h) hk0' hk0' hkk0 hkk0 rfl h1 h2 h3
    (by rw [ac_nn h1, ac_nn h3]; show ¬ _ > ((arrV _ (ln_ M a0) _).slots.size : Int); rw [arrV_size]; unfold ix_ at h4; omega)
    (by rw [ac_nn h2, ac_nn h3]; show ¬ _ > ((arrV _ (ln_ M a) _).slots.size : Int); rw [arrV_size]; unfold ix_ at h5; omega)
    (fun vm₁ hal i hi => by
      have e : (arrV (D.2.1 6) (ln_ M a0) (fun j => rv_ M (rf_ M a0 j))).slots.getD (sp.toNatClampNeg + i) .null = rv_ M (rf_ M a0 (sp.toNatClampNeg + i)) := by
        rw [Array.getD_eq_getD_getElem?, arrV_read _ _ (by unfold ix_ at h4; omega)]
        rfl
      rw [e]
      rcases hel i hi with hy | hy
      · unfold ix_ at hy
        rw [hy, rv_z]
        exact ⟨rfl, trivial⟩
      · unfold ix_ at hy
        have hcl : ∃ (cellV : Cell) (C : String), H[rf_ M a0 (sp.toNatClampNeg + i)]? = some cellV ∧ cellV.vm = .none ∧ s.vm.findClass C = some cellV.cls ∧ Cond.castable C "java/lang/Object" ∈ xw_ := by
          rcases hy with hy | hy
          · obtain ⟨cellV, g1, g2, g3, -⟩ := hR.obj (ci := 1) (by decide) hy
            exact ⟨cellV, RX0, g1, g3, by rw [g2]; exact (gK.cls (ci := 1) (C := RX0) (T := TX0) (N := 4) rfl).2.1, tx_1120⟩
          · obtain ⟨cellV, g1, g2, g3, -⟩ := hR.obj (ci := 2) (by decide) hy
            exact ⟨cellV, RX1, g1, g3, by rw [g2]; exact (gK.cls (ci := 2) (C := RX1) (T := TX1) (N := 5) rfl).2.1, tx_1125⟩
        have hne : rf_ M a0 (sp.toNatClampNeg + i) ≠ nz_ M := hR.ne0 (by rcases hy with hy | hy <;> rw [hy] <;> decide)
        rw [rv_pos hne]
        obtain ⟨cellV, C, g1, g2, g3, w9⟩ := hcl
        obtain ⟨kA, comp, r1, r2, r3, -⟩ := (gK.2.1 6 (by decide)).2
        cases hk0'.symm.trans r1
        cases hkk0.symm.trans r2
        obtain ⟨kC, hkC, -⟩ := Vm.findClass_spec g3
        obtain ⟨kE, hkE, -⟩ := Vm.findClass_spec r3
        obtain ⟨kC', hkC', -⟩ := hal.2.2 _ _ hkC
        obtain ⟨kE', hkE', -⟩ := hal.2.2 _ _ hkE
        obtain ⟨c3, c4, hc3, hc4, hasg⟩ := Cond.castable_spec (args := args) (va_Nw.use rfl (gK.2.2.1 _ w9))
        cases Option.some.inj (hc3.symm.trans g3)
        cases Option.some.inj (hc4.symm.trans r3)
        refine ⟨rfl, cellV, (show T.heap[_]? = some cellV by rw [hT]; exact g1), (fun q h => by rw [h] at g2; cases g2), ⟨kC', hkC'⟩, ?_, ?_⟩
        · exact ⟨kE', hkE'⟩
        · show vm₁.assignable _ _ = true
          rw [hal.assignable]
          exact hasg)
    (g := F0 m pc ls (.int z :: .int dp :: .ref a :: .int sp :: .ref a0 :: S)) rfl (by rw [gml]; exact hl.1) (rest := S) rfl (by rw [gb]; exact hd) hf (by show 2 * 0 + _ + _ ≤ _; omega)
  have e2 : copied (arrV (D.2.1 6) (ln_ M a0) (fun j => rv_ M (rf_ M a0 j))) (arrV (D.2.1 6) (ln_ M a) (fun j => rv_ M (rf_ M a j))) sp dp z = arrV (D.2.1 6) (ln_ M a) (fun j => rv_ M (va_cpy (rf_ M a0) (rf_ M a) sp.toNatClampNeg dp.toNatClampNeg z.toNatClampNeg j)) := va_copied (fun z => rv_ M z) _ _ _ _ h4
  rw [e2] at X' step
  generalize hnew : arrV (D.2.1 6) (ln_ M a) (fun j => rv_ M (va_cpy (rf_ M a0) (rf_ M a) sp.toNatClampNeg dp.toNatClampNeg z.toNatClampNeg j)) = nc at X' step
  have hheap : ((T.setVm vm').setCell a nc).heap = H.setIfInBounds a nc := by rw [← hT]; rfl
  have oq : ∀ q : Nat, q ≠ a → (H.setIfInBounds a nc)[q]? = H[q]? := fun q hq => by simp [Array.getElem?_setIfInBounds, Ne.symm hq]
  have hR' := hR.set (M' := aR_ M a (va_cpy (rf_ M a0) (rf_ M a) (ix_ sp) (ix_ dp) (ix_ z))) (H' := H.setIfInBounds a nc) (a := a) (by omega) (ag_aR _ _ _) (by simp) oq (fun cell2 h2 => by rw [hc1] at h2; cases h2; rfl) ⟨fun ci hci hk' => by have hk2 : kd_ M a = ci + 1 := hk'; omega, fun t ht hk' => by
    have hk2 : kd_ M a = 20 + t := hk'
    have htt : t = 6 := by omega
    subst htt
    refine ⟨?_, fun z => by omega⟩
    rw [show (H.setIfInBounds a nc)[a]? = some nc by simp [Array.getElem?_setIfInBounds, hlt], ← hnew]
    show some (arrV _ (ln_ M a) _) = some (arrV _ (ln_ M a) _)
    congr 2
    funext j
    rw [av_R (by decide), rf_aR, if_pos rfl]
    rfl⟩
  obtain ⟨t, a1, b1⟩ := kk _ _ ls hR' (hN.same rfl) hl ⟨by simp; exact hS.1, fun q g1 g2 => by
      rw [oq q (fun e => g2 (by rw [e]; exact hN.aw hS.1 (Or.inl ⟨by omega, by omega⟩)))]
      exact hS.2.1 q g1 g2, fun q hq => by
      rcases List.mem_append.mp hq with h | h
      · exact hS.2.2 q h
      · obtain ⟨z, -, hz⟩ := List.mem_map.mp h
        rw [← hz]
        exact hN.aw (q := a) hS.1 (Or.inl ⟨by omega, by omega⟩)⟩ _ hheap X'
  exact ⟨t, step t a1, b1⟩
/-! ends and calls where something may be thrown -/
theorem r_vretx (g : G_ p s m args meth c cc nL own D M0) {mc ms : Nat} {K : Mm → Prop} {XC : String → State → State → Prop} (hr : meth.sig.returnType = none) (h1 : n ≤ mc) (h2 : k ≤ ms) (hQ : Q = vx_MQ below (va_Qv (fun M' => K M') (cB_ D M0 s.heap.size) (Aw_ M0 s.heap.size)) XC args s mc ms (Aw_ M0 s.heap.size)) (hd : decode cc pc = .ok (.return_, 1)) (hK : K M) : V_ p l e R s m args below meth c nL D M0 Q pc L [] M n k := fun H locs ls hR hN hl hS => by
  subst hQ
  exact vx_ret (r_vret g hr h1 h2 rfl hd hK H locs ls hR hN hl hS)
theorem r_iretx (g : G_ p s m args meth c cc nL own D M0) {r : Int32} {mc ms : Nat} {K : Mm → Int32 → Prop} {XC : String → State → State → Prop} (hr : meth.sig.returnType = some .int) (h1 : n ≤ mc) (h2 : k ≤ ms) (hQ : Q = vx_MQ below (va_Qi (fun r M' => K M' r) (cB_ D M0 s.heap.size) (Aw_ M0 s.heap.size)) XC args s mc ms (Aw_ M0 s.heap.size)) (hd : decode cc pc = .ok (.ireturn, 1)) (hK : K M r) : V_ p l e R s m args below meth c nL D M0 Q pc L [.int r] M n k := fun H locs ls hR hN hl hS => by
  subst hQ
  exact vx_ret (r_iret g hr h1 h2 rfl hd hK H locs ls hR hN hl hS)
theorem r_zretx (g : G_ p s m args meth c cc nL own D M0) {r : Int32} {mc ms : Nat} {K : Mm → Int32 → Prop} {XC : String → State → State → Prop} (hr : meth.sig.returnType = some .boolean) (h1 : n ≤ mc) (h2 : k ≤ ms) (hQ : Q = vx_MQ below (va_Qi (fun r M' => K M' r ∧ bz_ r) (cB_ D M0 s.heap.size) (Aw_ M0 s.heap.size)) XC args s mc ms (Aw_ M0 s.heap.size)) (hbz : bz_ r) (hd : decode cc pc = .ok (.ireturn, 1)) (hK : K M r) : V_ p l e R s m args below meth c nL D M0 Q pc L [.int r] M n k := fun H locs ls hR hN hl hS => by
  subst hQ
  exact vx_ret (r_zret g hr h1 h2 rfl hbz hd hK H locs ls hR hN hl hS)
theorem r_outx (g : G_ p s m args meth c cc nL own D M0) {e9 mc ms : Nat} {Qc : Array Value → State → Outcome → State → Prop} {X : Nat → Mm → Prop} (hto : ∀ x ∈ c.exceptionTable.toList, False) (h1 : n ≤ mc) (h2 : k ≤ ms) (hQ : Q = vx_MQ below Qc (XC_ D M0 s.heap.size X) args s mc ms (Aw_ M0 s.heap.size)) (he : e9 = 0 ∨ e9 = 1) (hX : X e9 M) : VX_ p l e R s m args below meth c nL D M0 Q (xE_ e9) pc L S M n k := fun H locs ls q ce hR hN hl hS hce hcv hcl => by
  obtain ⟨gx, gb, gml, go, gt, gK, gR, glk⟩ := g
  subst hQ
  refine vx_out (fun x hx => (hto x hx).elim) glk hce hcv hcl (fun t ht hW => ⟨M, trivial, ⟨?_, hR.moved hW |> fun z => by rw [ht]; exact z, hN⟩, hS.F ht⟩) hS.2.2 h1 h2
  rcases he with rfl | rfl
  · exact Or.inl ⟨rfl, hX⟩
  · exact Or.inr ⟨rfl, hX⟩
theorem x_callVi (g : G_ p s m args meth c cc nL own D M0) {y : MethodName} {cy : ByteArray} {ny i mc ms : Nat} {ret : Option FieldType} {rm : Room} {As st : List Value} {b : Nat} {ci N : Nat} {T : u_T} {K : Mm → Int32 → Prop} {X : Nat → Mm → Prop} (hM : ∀ sz, vx_Met l y (Cond.code y cy ny ret :: tbG_) rm (cPc_ D M sz (.ref b :: As)) (va_Qi (fun r M' => K M' r) (cB_ D M sz) (Aw_ M sz)) (XC_ D M sz X) mc ms (Aw_ M sz)) (w1 : Cond.methodLink own i y ∈ tbG_) (w5 : Cond.code y cy ny ret ∈ tbG_) (w6 : Cond.initialized y.cls ∈ tbG_) (w2 : Cond.instanceMethod y ∈ tbG_) (w3 : Cond.selects y.cls y y ∈ tbG_) (hc : vwCl[ci]? = some (y.cls, T, N)) (hkb : kd_ M b = ci + 1) (hy : y.cls ≠ "java/lang/invoke/MethodHandle" ∧ y.cls ≠ "java/lang/invoke/VarHandle" ∧ (parseMethodDescriptor y.desc).map (fun d => d.parameters.length) = some As.length) (hrm : rm.cells = mc ∧ rm.slots = ms) (hfr : rm.frames + 1 ≤ R.frames) (hlo : 8 + (ny + 11) + rm.locals ≤ R.locals) (h1 : n + mc ≤ R.cells) (h2 : k + ms ≤ R.slots) (hsr : (S.map fun v => v.category).sum ≤ 8) (hst : st = As.reverse ++ .ref b :: S) (hd : decode cc pc = .ok (.invokevirtual i, 3))
    (kx : ∀ e9 M9, X e9 M9 → Nk_ M M9 → (e9 = 0 ∨ e9 = 1) → VX_ p l e R s m args below meth c nL D M0 Q (xE_ e9) pc L S M9 (n + mc) (k + ms))
    (kk : ∀ M' r, K M' r → Nk_ M M' → V_ p l e R s m args below meth c nL D M0 Q (pc + 3) L (.int r :: S) M' (n + mc) (k + ms)) : V_ p l e R s m args below meth c nL D M0 Q pc L st M n k := fun H locs ls hR hN hl hS => by
  obtain ⟨gx, gb, gml, go, gt, gK, -⟩ := g
  have hci : ci < 12 := (List.getElem?_eq_some_iff.mp hc).1
  obtain ⟨cell, g1, g2, g3, -⟩ := hR.obj hci hkb
  have hA : ∀ q : Nat, Aw_ M H.size q → Aw_ M0 s.heap.size q := fun q h => hN.aw hS.1 h
  refine vx_calli (vx_runV (As := As) (rest := S) ⟨gx, gb, gml, go, gt⟩ (hM H.size) ⟨cb_of gt w1 w5 w6 hy hrm hfr hlo h1 h2 hsr, gt _ w2, gt _ w3⟩ ⟨cPc_blind _ _ _ _, ⟨cell, g1, by rw [g3]; rfl, by rw [g2]; exact (gK.cls hc).2.1⟩, fun U hU hW => ⟨rfl, by rw [hU], by rw [hU]; exact hR.moved hW.alike, gK.warm hW⟩⟩ rfl rfl hl.1 hst (by show 2 * 0 + _ ≤ _; omega) hd ⟨h1, h2⟩) hS (fun q _ h => hA q h) hA (fun q _ h => hA q h) (fun E ce q9 u t H1 locs1 ht hvm _ hB hz1 hk1 hS1 hce hcv hcl => ?_) (fun r u t H1 locs1 ht hvm hp hB hz1 hk1 hS1 => ?_)
  · obtain ⟨hX, hB⟩ := hB
    have hR1 := Rp_.moved hvm.symm hB.1
    rw [ht] at hR1
    rcases hX with ⟨rfl, hX⟩ | ⟨rfl, hX⟩
    · exact kx 0 u hX hB.2.1 (Or.inl rfl) H1 locs1 ls q9 ce hR1 (hN.tr hS.1 hB.2) hl hS1 hce hcv hcl
    · exact kx 1 u hX hB.2.1 (Or.inr rfl) H1 locs1 ls q9 ce hR1 (hN.tr hS.1 hB.2) hl hS1 hce hcv hcl
  · have hR1 := Rp_.moved hvm.symm hB.1
    rw [ht] at hR1
    exact kk u r hp hB.2.1 H1 locs1 ls hR1 (hN.tr hS.1 hB.2) hl hS1
theorem x_callVz (g : G_ p s m args meth c cc nL own D M0) {y : MethodName} {cy : ByteArray} {ny i mc ms : Nat} {ret : Option FieldType} {rm : Room} {As st : List Value} {b : Nat} {ci N : Nat} {T : u_T} {K : Mm → Int32 → Prop} {X : Nat → Mm → Prop} (hM : ∀ sz, vx_Met l y (Cond.code y cy ny ret :: tbG_) rm (cPc_ D M sz (.ref b :: As)) (va_Qi (fun r M' => K M' r ∧ bz_ r) (cB_ D M sz) (Aw_ M sz)) (XC_ D M sz X) mc ms (Aw_ M sz)) (w1 : Cond.methodLink own i y ∈ tbG_) (w5 : Cond.code y cy ny ret ∈ tbG_) (w6 : Cond.initialized y.cls ∈ tbG_) (w2 : Cond.instanceMethod y ∈ tbG_) (w3 : Cond.selects y.cls y y ∈ tbG_) (hc : vwCl[ci]? = some (y.cls, T, N)) (hkb : kd_ M b = ci + 1) (hy : y.cls ≠ "java/lang/invoke/MethodHandle" ∧ y.cls ≠ "java/lang/invoke/VarHandle" ∧ (parseMethodDescriptor y.desc).map (fun d => d.parameters.length) = some As.length) (hrm : rm.cells = mc ∧ rm.slots = ms) (hfr : rm.frames + 1 ≤ R.frames) (hlo : 8 + (ny + 11) + rm.locals ≤ R.locals) (h1 : n + mc ≤ R.cells) (h2 : k + ms ≤ R.slots) (hsr : (S.map fun v => v.category).sum ≤ 8) (hst : st = As.reverse ++ .ref b :: S) (hd : decode cc pc = .ok (.invokevirtual i, 3))
    (kx : ∀ e9 M9, X e9 M9 → Nk_ M M9 → (e9 = 0 ∨ e9 = 1) → VX_ p l e R s m args below meth c nL D M0 Q (xE_ e9) pc L S M9 (n + mc) (k + ms))
    (kk : ∀ M' r, K M' r → bz_ r → Nk_ M M' → V_ p l e R s m args below meth c nL D M0 Q (pc + 3) L (.int r :: S) M' (n + mc) (k + ms)) : V_ p l e R s m args below meth c nL D M0 Q pc L st M n k :=
  x_callVi (K := fun M' r => K M' r ∧ bz_ r) g hM w1 w5 w6 w2 w3 hc hkb hy hrm hfr hlo h1 h2 hsr hst hd kx (fun M' r h hN => kk M' r h.1 h.2 hN)
theorem x_callVv (g : G_ p s m args meth c cc nL own D M0) {y : MethodName} {cy : ByteArray} {ny i mc ms : Nat} {ret : Option FieldType} {rm : Room} {As st : List Value} {b : Nat} {ci N : Nat} {T : u_T} {K : Mm → Prop} {X : Nat → Mm → Prop} (hM : ∀ sz, vx_Met l y (Cond.code y cy ny ret :: tbG_) rm (cPc_ D M sz (.ref b :: As)) (va_Qv (fun M' => K M') (cB_ D M sz) (Aw_ M sz)) (XC_ D M sz X) mc ms (Aw_ M sz)) (w1 : Cond.methodLink own i y ∈ tbG_) (w5 : Cond.code y cy ny ret ∈ tbG_) (w6 : Cond.initialized y.cls ∈ tbG_) (w2 : Cond.instanceMethod y ∈ tbG_) (w3 : Cond.selects y.cls y y ∈ tbG_) (hc : vwCl[ci]? = some (y.cls, T, N)) (hkb : kd_ M b = ci + 1) (hy : y.cls ≠ "java/lang/invoke/MethodHandle" ∧ y.cls ≠ "java/lang/invoke/VarHandle" ∧ (parseMethodDescriptor y.desc).map (fun d => d.parameters.length) = some As.length) (hrm : rm.cells = mc ∧ rm.slots = ms) (hfr : rm.frames + 1 ≤ R.frames) (hlo : 8 + (ny + 11) + rm.locals ≤ R.locals) (h1 : n + mc ≤ R.cells) (h2 : k + ms ≤ R.slots) (hsr : (S.map fun v => v.category).sum ≤ 8) (hst : st = As.reverse ++ .ref b :: S) (hd : decode cc pc = .ok (.invokevirtual i, 3))
    (kx : ∀ e9 M9, X e9 M9 → Nk_ M M9 → (e9 = 0 ∨ e9 = 1) → VX_ p l e R s m args below meth c nL D M0 Q (xE_ e9) pc L S M9 (n + mc) (k + ms))
    (kk : ∀ M', K M' → Nk_ M M' → V_ p l e R s m args below meth c nL D M0 Q (pc + 3) L S M' (n + mc) (k + ms)) : V_ p l e R s m args below meth c nL D M0 Q pc L st M n k := fun H locs ls hR hN hl hS => by
  obtain ⟨gx, gb, gml, go, gt, gK, -⟩ := g
  have hci : ci < 12 := (List.getElem?_eq_some_iff.mp hc).1
  obtain ⟨cell, g1, g2, g3, -⟩ := hR.obj hci hkb
  have hA : ∀ q : Nat, Aw_ M H.size q → Aw_ M0 s.heap.size q := fun q h => hN.aw hS.1 h
  refine vx_callv (vx_runV (As := As) (rest := S) ⟨gx, gb, gml, go, gt⟩ (hM H.size) ⟨cb_of gt w1 w5 w6 hy hrm hfr hlo h1 h2 hsr, gt _ w2, gt _ w3⟩ ⟨cPc_blind _ _ _ _, ⟨cell, g1, by rw [g3]; rfl, by rw [g2]; exact (gK.cls hc).2.1⟩, fun U hU hW => ⟨rfl, by rw [hU], by rw [hU]; exact hR.moved hW.alike, gK.warm hW⟩⟩ rfl rfl hl.1 hst (by show 2 * 0 + _ ≤ _; omega) hd ⟨h1, h2⟩) hS (fun q _ h => hA q h) hA (fun q _ h => hA q h) (fun E ce q9 u t H1 locs1 ht hvm _ hB hz1 hk1 hS1 hce hcv hcl => ?_) (fun u t H1 locs1 ht hvm hp hB hz1 hk1 hS1 => ?_)
  · obtain ⟨hX, hB⟩ := hB
    have hR1 := Rp_.moved hvm.symm hB.1
    rw [ht] at hR1
    rcases hX with ⟨rfl, hX⟩ | ⟨rfl, hX⟩
    · exact kx 0 u hX hB.2.1 (Or.inl rfl) H1 locs1 ls q9 ce hR1 (hN.tr hS.1 hB.2) hl hS1 hce hcv hcl
    · exact kx 1 u hX hB.2.1 (Or.inr rfl) H1 locs1 ls q9 ce hR1 (hN.tr hS.1 hB.2) hl hS1 hce hcv hcl
  · have hR1 := Rp_.moved hvm.symm hB.1
    rw [ht] at hR1
    exact kk u hp hB.2.1 H1 locs1 ls hR1 (hN.tr hS.1 hB.2) hl hS1
end ROWS
