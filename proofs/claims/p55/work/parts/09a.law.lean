/-! the law's own frame: what the skeleton says of its start and end (starting text), a method with a table of its own, and what is caught there -/
def R_law : String := "ColdFrameLaw"
def lw_P (b : Addr) (xs : List Int32) (args : Array Value) (s : State) : Prop := args = #[.ref b] ∧ s.IntsAt b xs ∧ xs.length ≤ 260 ∧ (Jvm.Cond.and given_1 narrow_1).before args s = true
def lw_Q (_ : Array Value) (s : State) (o : Outcome) (t : State) : Prop := o = .returned (some (.int 1)) ∧ Framed s o t [] 600104 7301314
def lw_Z (below : List Frame) (a : Array Value) (s : State) : State → Prop := fun t => ∃ o, t.status = .running ∧ Ended t below o ∧ lw_Q a s o t
/-- the law's own end, with 1 on the stack, nothing written that was there before, its room as the claim has it -/
theorem lw_ret {p : Program} {l : Launch} {e : Env} {s : State} {m : MethodId} {below : List Frame} {meth : Method} {c : Code} {b : Nat} (hx : p.tables.exec = Jvm.exec) (hb : c.code = code) (hr : meth.sig.returnType = ret) (hlocks : meth.locks = false) {pc : Nat} {H : Heap} {ls : Array Slot} (hdg : decode code pc = .ok (.ireturn, 1)) : W p l e room_1 s m #[Value.ref b] below meth c H [] 600104 7301314 (lw_Z below #[Value.ref b] s) (F0 m pc ls [.int 1]) := by
  intro T hT X
  obtain ⟨fs, hret, hrun, hended, hW, hframe⟩ := X.leave (v := some (.int 1)) (hlocks := hlocks) (fun h => by rw [hr] at h; cases h)
  have hmeth' : T.vm.method? m = some meth := X.method'
  refine ⟨T.setFrames fs, ?_, .returned (some (.int 1)), hrun, hended, rfl, ⟨_, rfl⟩, hW, hframe⟩
  jvm_step X.here [X.here.top, hx, hb, hdg, hmeth', hr, ret, narrow_b1]
  (try refine ⟨rfl, ?_⟩); (try refine ⟨rfl, ?_⟩)
  first | (intro acts; rw [hret _ acts rfl rfl rfl]) | rw [hret _ _ rfl rfl rfl]
  exact Steps.refl _
/-- what holds at the law's entry: the machine, the code, the tables' words (any of lw_tbl by 'hts w (by decide +kernel)'), the script of L ints xs at the cell b, what the Statement gives of the start (any of its parts by flat_of_before) -/
def lw_At (p : Program) (s : State) (m : MethodId) (meth : Method) (c : Code) (b L : Nat) (xs : Nat → Int32) : Prop :=
  p.tables.exec = Jvm.exec ∧ c.code = code ∧ meth.sig.returnType = ret ∧ c.maxLocals = 6 ∧ s.vm.findClass R_law = some m.cls ∧ (∀ w ∈ lw_tbl, w.before #[Value.ref b] s = true) ∧ va_X b L xs s s.heap ∧ b < s.heap.size ∧ meth.locks = false ∧ (Jvm.Cond.and given_1 narrow_1).before #[Value.ref b] s = true

theorem ofH {l : Launch} {y : MethodName} {cc : ByteArray} {maxL : Nat} {ret : Option FieldType} {hh : List (Nat × Nat × Nat × Nat)} {rm : Room} {D : Dd_} {M : Mm} {sz : Nat} {As : List Value} {Qc : Array Value → State → Outcome → State → Prop} {mc ms : Nat} (hy : plainName y.cls = true) (hn : (lg_sl As).length ≤ maxL)
    (body : ∀ (p : Program) (e : Env) (s : State) (m : MethodId) (below : List Frame) (meth : Method) (c : Code), G_ p s m As.toArray meth c cc maxL y.cls D M → meth.sig.returnType = ret → c.exceptionTable.toList.map (fun h => (h.startPc, h.endPc, h.handlerPc, h.catchType)) = hh → s.heap.size = sz → V_ p l e rm s m As.toArray below meth c maxL D M (MQ below Qc As.toArray s mc ms (Aw_ M sz)) 0 (lv_args 0 As) [] M 0 0) :
    Met l y (Cond.codeWith y cc maxL ret hh :: tbG_) rm (cPc_ D M sz As) Qc mc ms (Aw_ M sz) := by
  refine va_MetW (cc := cc) (maxL := maxL) (ret := ret) hy rfl ?_
  intro p e s m args below meth c s₁ B hml hv
  obtain ⟨rfl, hsz, hR0, hKn⟩ := hv
  have hts := atoms_spec (ws := Cond.codeWith y cc maxL ret hh :: tbG_) B.pre
  have htab : c.exceptionTable.toList.map (fun h => (h.startPc, h.endPc, h.handlerPc, h.catchType)) = hh := by
    obtain ⟨m9, meth9, c9, g1, g2, g3, -, -, g4, -⟩ := Cond.codeWith_spec (hts _ List.mem_cons_self)
    cases B.named.symm.trans g1
    cases B.method.symm.trans g2
    have h9 := B.here.code
    have hvm : s₁.vm = s.vm := by rw [B.state]; rfl
    rw [State.code?_eq, hvm, B.method] at h9
    have h8 : meth.code = some c := h9
    cases h8.symm.trans g3
    exact g4
  have g : G_ p s m As.toArray meth c cc maxL y.cls D M := ⟨B.exec, B.bytes, hml, findClass_of_methodNamed B.named, fun w h => hts w (List.mem_cons_of_mem _ h), hKn, hR0, B.notSynchronized⟩
  have hl := lv_entry As (n := maxL) hn
  rw [lg_entry_eq]
  generalize (lg_sl As ++ List.replicate (maxL - (lg_sl As).length) Slot.unset).toArray = ls at hl ⊢
  exact body p e s m below meth c g B.returns htab hsz s.heap [] ls hR0 (Nw_.rf _ _) hl va_S.rf
theorem tab2_ {t : List ExceptionTableEntry} {a1 a2 a3 a4 b1 b2 b3 b4 : Nat} (h : t.map (fun h => (h.startPc, h.endPc, h.handlerPc, h.catchType)) = [(a1, a2, a3, a4), (b1, b2, b3, b4)]) : t = [⟨a1, a2, a3, a4⟩, ⟨b1, b2, b3, b4⟩] := by
  cases t with
  | nil => simp at h
  | cons x t =>
    cases t with
    | nil => simp at h
    | cons y t =>
      cases t with
      | nil =>
        simp only [List.map_cons, List.map_nil, List.cons.injEq, Prod.mk.injEq, and_true] at h
        obtain ⟨⟨h1, h2, h3, h4⟩, h5, h6, h7, h8⟩ := h
        cases x
        cases y
        simp only at h1 h2 h3 h4 h5 h6 h7 h8
        subst h1 h2 h3 h4 h5 h6 h7 h8
        rfl
      | cons z t => simp at h
section ROWS
variable {p : Program} {l : Launch} {e : Env} {R : Room} {s : State} {m : MethodId} {args : Array Value} {below : List Frame} {meth : Method} {c : Code} {cc : ByteArray} {nL : Nat} {own : String} {D : Dd_} {M0 : Mm} {Q : State → Prop}
variable {pc : Nat} {L L' : List (Nat × Value)} {S : List Value} {M : Mm} {n k : Nat}

theorem r_catch2 (g : G_ p s m args meth c cc nL own D M0) (htab : c.exceptionTable.toList.map (fun h => (h.startPc, h.endPc, h.handlerPc, h.catchType)) = [(40, 309, 312, 97), (40, 309, 315, 99)]) (hown : own = "ColdFrameLaw") (h1 : 40 ≤ pc) (h2 : pc < 309) {e9 : Nat} (he : e9 = 0 ∨ e9 = 1) (w0 : Cond.classLink "ColdFrameLaw" 97 "java/lang/IndexOutOfBoundsException" ∈ tbG_) (w1 : Cond.classLink "ColdFrameLaw" 99 "java/lang/IllegalStateException" ∈ tbG_)
    (k0 : ∀ q : Nat, V_ p l e R s m args below meth c nL D M0 Q 312 L [.ref q] M n k) (k1 : ∀ q : Nat, V_ p l e R s m args below meth c nL D M0 Q 315 L [.ref q] M n k) : VX_ p l e R s m args below meth c nL D M0 Q (xE_ e9) pc L S M n k := fun H locs ls q ce hR hN hl hS hce hcv hcl => by
  subst hown
  obtain ⟨gx, gb, gml, go, gt, gK, gR, glk⟩ := g
  have ht := tab2_ htab
  rcases he with rfl | rfl
  · exact vx_catch (name := "java/lang/IndexOutOfBoundsException") go [] ⟨40, 309, 312, 97⟩ [⟨40, 309, 315, 99⟩] ht (fun z hz => by cases hz) (by simp [covers, h1, h2]) (by decide) (gt _ w0) (va_Nw.use rfl (gK.2.2.1 _ tx_692)) hce hcv hcl (k0 q H locs ls hR hN hl hS)
  · exact vx_catch (name := "java/lang/IllegalStateException") go [⟨40, 309, 312, 97⟩] ⟨40, 309, 315, 99⟩ [] ht (fun z hz => by
      rcases List.mem_cons.mp hz with rfl | hz
      · exact Or.inr ⟨by decide, "java/lang/IndexOutOfBoundsException", gt _ w0, gK.2.2.2.2.2.1⟩
      · cases hz) (by simp [covers, h1, h2]) (by decide) (gt _ w1) (va_Nw.use rfl (gK.2.2.1 _ tx_363)) hce hcv hcl (k1 q H locs ls hR hN hl hS)
theorem r_callWv (g : G_ p s m args meth c cc nL own D M0) {y : MethodName} {cy : ByteArray} {ny i mc ms : Nat} {ret : Option FieldType} {hh : List (Nat × Nat × Nat × Nat)} {rm : Room} {As st : List Value} {K : Mm → Prop} (hM : ∀ sz, Met l y (Cond.codeWith y cy ny ret hh :: tbG_) rm (cPc_ D M sz As) (va_Qv (fun M' => K M') (cB_ D M sz) (Aw_ M sz)) mc ms (Aw_ M sz)) (w1 : Cond.methodLink own i y ∈ tbG_) (w5 : Cond.codeWith y cy ny ret hh ∈ tbG_) (w6 : Cond.initialized y.cls ∈ tbG_) (w2 : Cond.static y ∈ tbG_) (hy : y.cls ≠ "java/lang/invoke/MethodHandle" ∧ y.cls ≠ "java/lang/invoke/VarHandle" ∧ (parseMethodDescriptor y.desc).map (fun d => d.parameters.length) = some As.length) (hrm : rm.cells = mc ∧ rm.slots = ms) (hfr : rm.frames + 1 ≤ R.frames) (hlo : 8 + (ny + 11) + rm.locals ≤ R.locals) (h1 : n + mc ≤ R.cells) (h2 : k + ms ≤ R.slots) (hsr : (S.map fun v => v.category).sum ≤ 8) (hst : st = As.reverse ++ S) (hd : decode cc pc = .ok (.invokestatic i, 3))
    (kk : ∀ M', K M' → Nk_ M M' → V_ p l e R s m args below meth c nL D M0 Q (pc + 3) L S M' (n + mc) (k + ms)) : V_ p l e R s m args below meth c nL D M0 Q pc L st M n k := fun H locs ls hR hN hl hS => by
  obtain ⟨gx, gb, gml, go, gt, gK, -⟩ := g
  have hA : ∀ q : Nat, Aw_ M H.size q → Aw_ M0 s.heap.size q := fun q h => hN.aw hS.1 h
  refine va_callv (vx_runSW (As := As) (rest := S) ⟨gx, gb, gml, go, gt⟩ (hM H.size) ⟨⟨hrm.1, hrm.2, hfr, hlo, pay_in gt (tb_goodIn w5), List.mem_cons_self⟩, gt _ w5, gt _ w6, ⟨hy.1, hy.2.1⟩, fun sig h => by have h2 := hy.2.2; rw [h] at h2; exact (Option.some.inj h2).symm, gt _ w1, gt _ w2⟩ ⟨cPc_blind _ _ _ _, fun U hU hW => ⟨rfl, by rw [hU], by rw [hU]; exact hR.moved hW.alike, gK.warm hW⟩⟩ rfl rfl hl.1 hst (by show 2 * 0 + _ ≤ _; omega) hd ⟨h1, h2⟩) hS (fun q _ h => hA q h) hA (fun u t H1 locs1 ht hvm hp hB hz1 hk1 hS1 => ?_)
  have hR1 := Rp_.moved hvm.symm hB.1
  rw [ht] at hR1
  exact kk u hp hB.2.1 H1 locs1 ls hR1 (hN.tr hS.1 hB.2) hl hS1
end ROWS
theorem lc_eq (x y : Int64) : ((lg_cmp x y) = 0) ↔ x = y := by
  rw [← Int64.toInt_inj]
  rcases lc_c x y with ⟨h, e⟩ | ⟨h, e⟩ | ⟨h, e⟩ <;> rw [e]
  · exact ⟨fun z => absurd z (by decide), fun z => by omega⟩
  · exact ⟨fun _ => h, fun _ => rfl⟩
  · exact ⟨fun z => absurd z (by decide), fun z => by omega⟩
theorem r_lcmp_eq {p : Program} {l : Launch} {e : Env} {R : Room} {s : State} {m : MethodId} {args : Array Value} {below : List Frame} {meth : Method} {c : Code} {cc : ByteArray} {nL : Nat} {own : String} {D : Dd_} {M0 : Mm} {Q : State → Prop} {pc : Nat} {L : List (Nat × Value)} {S : List Value} {M : Mm} {n k : Nat} (g : G_ p s m args meth c cc nL own D M0) {x y : Int64} {off : Int} {tgt : Nat} (hd0 : decode cc pc = .ok (.lcmp, 1)) (hd : decode cc (pc + 1) = .ok (.ifCond .eq off, 3)) (ht : ((pc + 1 : Nat) : Int) + off = (tgt : Int)) (kt : x = y → V_ p l e R s m args below meth c nL D M0 Q tgt L S M n k) (kf : ¬ (x = y) → V_ p l e R s m args below meth c nL D M0 Q (pc + 1 + 3) L S M n k) : V_ p l e R s m args below meth c nL D M0 Q pc L (.long y :: .long x :: S) M n k := fun H locs ls hR hN hl hS => W.lcmp g.1 g.2.1 hd0 (lv_if_eq g.1 g.2.1 hd ht (fun h => kt ((lc_eq x y).mp h) H locs ls hR hN hl hS) (fun h => kf (fun z => h ((lc_eq x y).mpr z)) H locs ls hR hN hl hS))
/-- the law's end: true, and nothing old was written -/
theorem r_lawret {p : Program} {l : Launch} {e : Env} {s : State} {m : MethodId} {args : Array Value} {below : List Frame} {meth : Method} {c : Code} {D : Dd_} {M0 : Mm} {Q : State → Prop} {pc b : Nat} {L : List (Nat × Value)} {M : Mm} {n k : Nat} {r : Int32} {K : Mm → Int32 → Prop} (g : G_ p s m args meth c code 6 R_law D M0) (hr : meth.sig.returnType = ret) (hargs : args = #[Value.ref b]) (hM0 : ∀ a, kd_ M0 a = 0 ∨ 30 ≤ kd_ M0 a) (hK1 : ∀ M r, K M r → r = 1) (h1 : n ≤ 600104) (h2 : k ≤ 7301314) (hQ : Q = lw_Z below args s) (hd : decode code pc = .ok (.ireturn, 1)) (hK : K M r) : V_ p l e room_1 s m args below meth c 6 D M0 Q pc L [.int r] M n k := fun H locs ls hR hN hl hS => by
  subst hQ
  subst hargs
  cases hK1 _ _ hK
  obtain ⟨gx, gb, gml, go, gt, gK, gR, glk⟩ := g
  refine va_forget (fun q hq => ?_) (W.widen h1 h2 (lw_ret gx gb hr glk hd))
  rcases hS.2.2 q hq with ⟨z1, z2⟩ | z
  · rcases hM0 q.base with z0 | z0
    · exact absurd z0 z1
    · omega
  · exact z
