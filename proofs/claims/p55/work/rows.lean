section
/-- a private method of a class that the tables say can be made, by its rows of tables_1 -/
def lw_okq (q : MethodName × Nat) : Prop := (q.1.cls ≠ "java/lang/invoke/MethodHandle" ∧ q.1.cls ≠ "java/lang/invoke/VarHandle") ∧ Cond.instantiable q.1.cls q.2 ∈ tables_1 ∧ Cond.privateMethod q.1 ∈ tables_1 ∧ Cond.instanceMethod q.1 ∈ tables_1
theorem lw_p0 : lw_okq (⟨"java/lang/Throwable", "fillInStackTrace", "(I)Ljava/lang/Throwable;"⟩, 6) := ⟨⟨by decide +kernel, by decide +kernel⟩, List.mem_of_getElem? (i := 400) (by decide +kernel), List.mem_of_getElem? (i := 398) (by decide +kernel), List.mem_of_getElem? (i := 399) (by decide +kernel)⟩
theorem lw_p1 : lw_okq (⟨"java/util/ArrayList", "add", "(Ljava/lang/Object;[Ljava/lang/Object;I)V"⟩, 3) := ⟨⟨by decide +kernel, by decide +kernel⟩, List.mem_of_getElem? (i := 42) (by decide +kernel), List.mem_of_getElem? (i := 470) (by decide +kernel), List.mem_of_getElem? (i := 471) (by decide +kernel)⟩
theorem lw_p2 : lw_okq (⟨"java/util/ArrayList", "grow", "()[Ljava/lang/Object;"⟩, 3) := ⟨⟨by decide +kernel, by decide +kernel⟩, List.mem_of_getElem? (i := 42) (by decide +kernel), List.mem_of_getElem? (i := 474) (by decide +kernel), List.mem_of_getElem? (i := 475) (by decide +kernel)⟩
theorem lw_p3 : lw_okq (⟨"java/util/ArrayList", "grow", "(I)[Ljava/lang/Object;"⟩, 3) := ⟨⟨by decide +kernel, by decide +kernel⟩, List.mem_of_getElem? (i := 42) (by decide +kernel), List.mem_of_getElem? (i := 478) (by decide +kernel), List.mem_of_getElem? (i := 479) (by decide +kernel)⟩
theorem lw_p4 : lw_okq (⟨"ColdFrame$Search", "lookThrough", "(LColdFrame$Table;LColdFrame$Query;LColdFrame$Block;Z)Z"⟩, 10) := ⟨⟨by decide +kernel, by decide +kernel⟩, List.mem_of_getElem? (i := 263) (by decide +kernel), List.mem_of_getElem? (i := 556) (by decide +kernel), List.mem_of_getElem? (i := 557) (by decide +kernel)⟩
theorem lw_p5 : lw_okq (⟨"ColdFrame$Search", "select", "(LColdFrame$Table;LColdFrame$Group;LColdFrame$Block;Z)V"⟩, 10) := ⟨⟨by decide +kernel, by decide +kernel⟩, List.mem_of_getElem? (i := 263) (by decide +kernel), List.mem_of_getElem? (i := 560) (by decide +kernel), List.mem_of_getElem? (i := 561) (by decide +kernel)⟩
theorem lw_p6 : lw_okq (⟨"ColdFrame$Search", "orderConditions", "(LColdFrame$Group;LColdFrame$Block;Z)V"⟩, 10) := ⟨⟨by decide +kernel, by decide +kernel⟩, List.mem_of_getElem? (i := 263) (by decide +kernel), List.mem_of_getElem? (i := 564) (by decide +kernel), List.mem_of_getElem? (i := 565) (by decide +kernel)⟩
theorem lw_p7 : lw_okq (⟨"ColdFrame$Condition", "isMetByNone", "(LColdFrame$Zone;)Z"⟩, 3) := ⟨⟨by decide +kernel, by decide +kernel⟩, List.mem_of_getElem? (i := 225) (by decide +kernel), List.mem_of_getElem? (i := 572) (by decide +kernel), List.mem_of_getElem? (i := 573) (by decide +kernel)⟩
theorem lw_p8 : lw_okq (⟨"ColdFrame$Condition", "isMetByAll", "(LColdFrame$Zone;)Z"⟩, 3) := ⟨⟨by decide +kernel, by decide +kernel⟩, List.mem_of_getElem? (i := 225) (by decide +kernel), List.mem_of_getElem? (i := 576) (by decide +kernel), List.mem_of_getElem? (i := 577) (by decide +kernel)⟩
theorem lw_p9 : lw_okq (⟨"ColdFrame$Search", "costIn", "(LColdFrame$Zone;LColdFrame$Condition;LColdFrame$Column;)I"⟩, 10) := ⟨⟨by decide +kernel, by decide +kernel⟩, List.mem_of_getElem? (i := 263) (by decide +kernel), List.mem_of_getElem? (i := 587) (by decide +kernel), List.mem_of_getElem? (i := 588) (by decide +kernel)⟩
theorem lw_p10 : lw_okq (⟨"ColdFrame$Search", "narrow", "(LColdFrame$Block;LColdFrame$Condition;LColdFrame$Column;)V"⟩, 10) := ⟨⟨by decide +kernel, by decide +kernel⟩, List.mem_of_getElem? (i := 263) (by decide +kernel), List.mem_of_getElem? (i := 607) (by decide +kernel), List.mem_of_getElem? (i := 608) (by decide +kernel)⟩
theorem lw_p11 : lw_okq (⟨"ColdFrame$Search", "collect", "(LColdFrame$Table;LColdFrame$Block;Z)V"⟩, 10) := ⟨⟨by decide +kernel, by decide +kernel⟩, List.mem_of_getElem? (i := 263) (by decide +kernel), List.mem_of_getElem? (i := 612) (by decide +kernel), List.mem_of_getElem? (i := 613) (by decide +kernel)⟩
theorem lw_p12 : lw_okq (⟨"ColdFrame", "digestOfCounts", "(J)J"⟩, 6) := ⟨⟨by decide +kernel, by decide +kernel⟩, List.mem_of_getElem? (i := 28) (by decide +kernel), List.mem_of_getElem? (i := 625) (by decide +kernel), List.mem_of_getElem? (i := 626) (by decide +kernel)⟩
theorem lw_p13 : lw_okq (⟨"ColdFrame", "digestOfRows", "(J)J"⟩, 6) := ⟨⟨by decide +kernel, by decide +kernel⟩, List.mem_of_getElem? (i := 28) (by decide +kernel), List.mem_of_getElem? (i := 648) (by decide +kernel), List.mem_of_getElem? (i := 649) (by decide +kernel)⟩
theorem lw_p14 : lw_okq (⟨"ColdFrame", "digestOfFrames", "(J)J"⟩, 6) := ⟨⟨by decide +kernel, by decide +kernel⟩, List.mem_of_getElem? (i := 28) (by decide +kernel), List.mem_of_getElem? (i := 653) (by decide +kernel), List.mem_of_getElem? (i := 654) (by decide +kernel)⟩
theorem lw_p15 : lw_okq (⟨"ColdFrame", "needRow", "(I)V"⟩, 6) := ⟨⟨by decide +kernel, by decide +kernel⟩, List.mem_of_getElem? (i := 28) (by decide +kernel), List.mem_of_getElem? (i := 687) (by decide +kernel), List.mem_of_getElem? (i := 688) (by decide +kernel)⟩
def lw_privs_1 : List (MethodName × Nat) := [(⟨"java/lang/Throwable", "fillInStackTrace", "(I)Ljava/lang/Throwable;"⟩, 6), (⟨"java/util/ArrayList", "add", "(Ljava/lang/Object;[Ljava/lang/Object;I)V"⟩, 3), (⟨"java/util/ArrayList", "grow", "()[Ljava/lang/Object;"⟩, 3), (⟨"java/util/ArrayList", "grow", "(I)[Ljava/lang/Object;"⟩, 3), (⟨"ColdFrame$Search", "lookThrough", "(LColdFrame$Table;LColdFrame$Query;LColdFrame$Block;Z)Z"⟩, 10), (⟨"ColdFrame$Search", "select", "(LColdFrame$Table;LColdFrame$Group;LColdFrame$Block;Z)V"⟩, 10), (⟨"ColdFrame$Search", "orderConditions", "(LColdFrame$Group;LColdFrame$Block;Z)V"⟩, 10), (⟨"ColdFrame$Condition", "isMetByNone", "(LColdFrame$Zone;)Z"⟩, 3), (⟨"ColdFrame$Condition", "isMetByAll", "(LColdFrame$Zone;)Z"⟩, 3), (⟨"ColdFrame$Search", "costIn", "(LColdFrame$Zone;LColdFrame$Condition;LColdFrame$Column;)I"⟩, 10), (⟨"ColdFrame$Search", "narrow", "(LColdFrame$Block;LColdFrame$Condition;LColdFrame$Column;)V"⟩, 10), (⟨"ColdFrame$Search", "collect", "(LColdFrame$Table;LColdFrame$Block;Z)V"⟩, 10), (⟨"ColdFrame", "digestOfCounts", "(J)J"⟩, 6), (⟨"ColdFrame", "digestOfRows", "(J)J"⟩, 6), (⟨"ColdFrame", "digestOfFrames", "(J)J"⟩, 6), (⟨"ColdFrame", "needRow", "(I)V"⟩, 6)]
theorem lw_r1 : ∀ q ∈ lw_privs_1, lw_okq q := List.forall_mem_cons.mpr ⟨lw_p0, List.forall_mem_cons.mpr ⟨lw_p1, List.forall_mem_cons.mpr ⟨lw_p2, List.forall_mem_cons.mpr ⟨lw_p3, List.forall_mem_cons.mpr ⟨lw_p4, List.forall_mem_cons.mpr ⟨lw_p5, List.forall_mem_cons.mpr ⟨lw_p6, List.forall_mem_cons.mpr ⟨lw_p7, List.forall_mem_cons.mpr ⟨lw_p8, List.forall_mem_cons.mpr ⟨lw_p9, List.forall_mem_cons.mpr ⟨lw_p10, List.forall_mem_cons.mpr ⟨lw_p11, List.forall_mem_cons.mpr ⟨lw_p12, List.forall_mem_cons.mpr ⟨lw_p13, List.forall_mem_cons.mpr ⟨lw_p14, List.forall_mem_cons.mpr ⟨lw_p15, fun _ h => absurd h List.not_mem_nil⟩⟩⟩⟩⟩⟩⟩⟩⟩⟩⟩⟩⟩⟩⟩⟩
theorem lw_p16 : lw_okq (⟨"ColdFrame", "needColumn", "(I)V"⟩, 6) := ⟨⟨by decide +kernel, by decide +kernel⟩, List.mem_of_getElem? (i := 28) (by decide +kernel), List.mem_of_getElem? (i := 715) (by decide +kernel), List.mem_of_getElem? (i := 716) (by decide +kernel)⟩
theorem lw_p17 : lw_okq (⟨"ColdFrame", "needRoom", "()V"⟩, 6) := ⟨⟨by decide +kernel, by decide +kernel⟩, List.mem_of_getElem? (i := 28) (by decide +kernel), List.mem_of_getElem? (i := 721) (by decide +kernel), List.mem_of_getElem? (i := 722) (by decide +kernel)⟩
theorem lw_p18 : lw_okq (⟨"ColdFrame$Table", "appendFilled", "()I"⟩, 11) := ⟨⟨by decide +kernel, by decide +kernel⟩, List.mem_of_getElem? (i := 36) (by decide +kernel), List.mem_of_getElem? (i := 739) (by decide +kernel), List.mem_of_getElem? (i := 740) (by decide +kernel)⟩
theorem lw_p19 : lw_okq (⟨"ColdFrame$Table", "dropDead", "(LColdFrame$Block;)V"⟩, 11) := ⟨⟨by decide +kernel, by decide +kernel⟩, List.mem_of_getElem? (i := 36) (by decide +kernel), List.mem_of_getElem? (i := 755) (by decide +kernel), List.mem_of_getElem? (i := 756) (by decide +kernel)⟩
theorem lw_p20 : lw_okq (⟨"ColdFrame$Sorter", "join", "([IIII)V"⟩, 2) := ⟨⟨by decide +kernel, by decide +kernel⟩, List.mem_of_getElem? (i := 68) (by decide +kernel), List.mem_of_getElem? (i := 774) (by decide +kernel), List.mem_of_getElem? (i := 775) (by decide +kernel)⟩
theorem lw_p21 : lw_okq (⟨"ColdFrame$Zone", "countValues", "(LColdFrame$Column;[I)V"⟩, 9) := ⟨⟨by decide +kernel, by decide +kernel⟩, List.mem_of_getElem? (i := 91) (by decide +kernel), List.mem_of_getElem? (i := 783) (by decide +kernel), List.mem_of_getElem? (i := 784) (by decide +kernel)⟩
theorem lw_p22 : lw_okq (⟨"ColdFrame$Zone", "countRuns", "(LColdFrame$Column;[I)V"⟩, 9) := ⟨⟨by decide +kernel, by decide +kernel⟩, List.mem_of_getElem? (i := 91) (by decide +kernel), List.mem_of_getElem? (i := 791) (by decide +kernel), List.mem_of_getElem? (i := 792) (by decide +kernel)⟩
theorem lw_p23 : lw_okq (⟨"ColdFrame$Zone", "widthFor", "(J)I"⟩, 9) := ⟨⟨by decide +kernel, by decide +kernel⟩, List.mem_of_getElem? (i := 91) (by decide +kernel), List.mem_of_getElem? (i := 804) (by decide +kernel), List.mem_of_getElem? (i := 805) (by decide +kernel)⟩
theorem lw_p24 : lw_okq (⟨"ColdFrame$Table", "numberFrom", "(I)V"⟩, 11) := ⟨⟨by decide +kernel, by decide +kernel⟩, List.mem_of_getElem? (i := 36) (by decide +kernel), List.mem_of_getElem? (i := 813) (by decide +kernel), List.mem_of_getElem? (i := 814) (by decide +kernel)⟩
theorem lw_p25 : lw_okq (⟨"ColdFrame", "needFrame", "(I)V"⟩, 6) := ⟨⟨by decide +kernel, by decide +kernel⟩, List.mem_of_getElem? (i := 28) (by decide +kernel), List.mem_of_getElem? (i := 847) (by decide +kernel), List.mem_of_getElem? (i := 848) (by decide +kernel)⟩
theorem lw_p26 : lw_okq (⟨"ColdFrame$Table", "removeFrame", "(I)V"⟩, 11) := ⟨⟨by decide +kernel, by decide +kernel⟩, List.mem_of_getElem? (i := 36) (by decide +kernel), List.mem_of_getElem? (i := 856) (by decide +kernel), List.mem_of_getElem? (i := 857) (by decide +kernel)⟩
theorem lw_p27 : lw_okq (⟨"java/util/ArrayList", "fastRemove", "([Ljava/lang/Object;I)V"⟩, 3) := ⟨⟨by decide +kernel, by decide +kernel⟩, List.mem_of_getElem? (i := 42) (by decide +kernel), List.mem_of_getElem? (i := 864) (by decide +kernel), List.mem_of_getElem? (i := 865) (by decide +kernel)⟩
theorem lw_p28 : lw_okq (⟨"ColdFrame", "zoneOf", "(II)LColdFrame$Zone;"⟩, 6) := ⟨⟨by decide +kernel, by decide +kernel⟩, List.mem_of_getElem? (i := 28) (by decide +kernel), List.mem_of_getElem? (i := 978) (by decide +kernel), List.mem_of_getElem? (i := 979) (by decide +kernel)⟩
theorem lw_p29 : lw_okq (⟨"ColdFrame$Result", "sumOf", "(LColdFrame$Column;II)I"⟩, 7) := ⟨⟨by decide +kernel, by decide +kernel⟩, List.mem_of_getElem? (i := 304) (by decide +kernel), List.mem_of_getElem? (i := 1070) (by decide +kernel), List.mem_of_getElem? (i := 1071) (by decide +kernel)⟩
theorem lw_p30 : lw_okq (⟨"ColdFrame$Result", "endOf", "(LColdFrame$Column;IIZ)I"⟩, 7) := ⟨⟨by decide +kernel, by decide +kernel⟩, List.mem_of_getElem? (i := 304) (by decide +kernel), List.mem_of_getElem? (i := 1074) (by decide +kernel), List.mem_of_getElem? (i := 1075) (by decide +kernel)⟩
def lw_privs_2 : List (MethodName × Nat) := [(⟨"ColdFrame", "needColumn", "(I)V"⟩, 6), (⟨"ColdFrame", "needRoom", "()V"⟩, 6), (⟨"ColdFrame$Table", "appendFilled", "()I"⟩, 11), (⟨"ColdFrame$Table", "dropDead", "(LColdFrame$Block;)V"⟩, 11), (⟨"ColdFrame$Sorter", "join", "([IIII)V"⟩, 2), (⟨"ColdFrame$Zone", "countValues", "(LColdFrame$Column;[I)V"⟩, 9), (⟨"ColdFrame$Zone", "countRuns", "(LColdFrame$Column;[I)V"⟩, 9), (⟨"ColdFrame$Zone", "widthFor", "(J)I"⟩, 9), (⟨"ColdFrame$Table", "numberFrom", "(I)V"⟩, 11), (⟨"ColdFrame", "needFrame", "(I)V"⟩, 6), (⟨"ColdFrame$Table", "removeFrame", "(I)V"⟩, 11), (⟨"java/util/ArrayList", "fastRemove", "([Ljava/lang/Object;I)V"⟩, 3), (⟨"ColdFrame", "zoneOf", "(II)LColdFrame$Zone;"⟩, 6), (⟨"ColdFrame$Result", "sumOf", "(LColdFrame$Column;II)I"⟩, 7), (⟨"ColdFrame$Result", "endOf", "(LColdFrame$Column;IIZ)I"⟩, 7)]
theorem lw_r2 : ∀ q ∈ lw_privs_2, lw_okq q := List.forall_mem_cons.mpr ⟨lw_p16, List.forall_mem_cons.mpr ⟨lw_p17, List.forall_mem_cons.mpr ⟨lw_p18, List.forall_mem_cons.mpr ⟨lw_p19, List.forall_mem_cons.mpr ⟨lw_p20, List.forall_mem_cons.mpr ⟨lw_p21, List.forall_mem_cons.mpr ⟨lw_p22, List.forall_mem_cons.mpr ⟨lw_p23, List.forall_mem_cons.mpr ⟨lw_p24, List.forall_mem_cons.mpr ⟨lw_p25, List.forall_mem_cons.mpr ⟨lw_p26, List.forall_mem_cons.mpr ⟨lw_p27, List.forall_mem_cons.mpr ⟨lw_p28, List.forall_mem_cons.mpr ⟨lw_p29, List.forall_mem_cons.mpr ⟨lw_p30, fun _ h => absurd h List.not_mem_nil⟩⟩⟩⟩⟩⟩⟩⟩⟩⟩⟩⟩⟩⟩⟩
def lw_privs : List (MethodName × Nat) := lw_privs_1 ++ (lw_privs_2)
def lw_tbl : List Cond := k2_sels lw_privs ++ tables_1
theorem lw_privs_ok : ∀ q ∈ lw_privs, lw_okq q := by
  show ∀ q ∈ lw_privs_1 ++ (lw_privs_2), lw_okq q
  exact List.forall_mem_append.mpr ⟨lw_r1, lw_r2⟩
/-! ===== BEGIN words of one list among another's, by their places ===== -/
theorem goodIn_r {big : List Cond} (ws : List Cond) (ps : List Nat) (hp : ws = ps.filterMap (fun i => big[i]?)) (h : ws.all goodWord = true) : GoodIn big ws := by
  intro w hw
  have h1 := List.all_eq_true.mp h w hw
  rw [hp] at hw
  obtain ⟨i, -, hi⟩ := List.mem_filterMap.mp hw
  have hm : w ∈ big := by first | exact List.mem_of_getElem? hi | exact List.getElem?_mem hi
  exact ⟨hm, good_of_word h1⟩
theorem goodIn_app {big a b : List Cond} (ha : GoodIn big a) (hb : GoodIn big b) : GoodIn big (a ++ b) := fun w h => (List.mem_append.mp h).elim (ha w) (hb w)
theorem goodIn_ca {big a b : List Cond} {c : Cond} (ha : GoodIn big (c :: a)) (hb : GoodIn big b) : GoodIn big (c :: (a ++ b)) := fun w h => (List.mem_cons.mp h).elim (fun e => ha w (List.mem_cons.mpr (Or.inl e))) (fun h => (List.mem_append.mp h).elim (fun h => ha w (List.mem_cons.mpr (Or.inr h))) (hb w))
theorem goodIn_sub {big ws : List Cond} (hm : ∀ w ∈ ws, w ∈ big) (h : ws.all goodWord = true) : GoodIn big ws := fun w hw => ⟨hm w hw, good_of_word (List.all_eq_true.mp h w hw)⟩
/-! ===== END ===== -/

/-! ===== BEGIN exceptions that leave a method, and their catching by the caller (launches without stack traces) ===== -/
section VXA
/-! The laws vx_back, vx_callV, vx_callS, vx_callSW, vx_throw0, vx_throwS follow proofs of the library, with one case more: JvmDerived/Free/Laws.lean (Back.of_free), Shelf42/LK1.lean (callV, callS), Shelf/KitTraced.lean (throwNew0V, throwNewS). -/
/-- where a method has thrown q: the class by its name, the cell, what was written, the world -/
def vx_T (XC : String → State → State → Prop) (st : State) (q : Addr) (t : State) (mc ms : Nat) (free : Addr → Prop) : Prop :=
  ∃ (E : String) (ce : Cell) (L : List Loc), XC E st t ∧ t.heap[q]? = some ce ∧ ce.vm = .none ∧ st.vm.findClass E = some ce.cls ∧ st.WarmedH t.vm ∧ st.sameButNew ({ t with vm := st.vm } : State) L mc ms ∧ ∀ z ∈ L, free z.base
def vx_Q (Qc : Array Value → State → Outcome → State → Prop) (XC : String → State → State → Prop) (mc ms : Nat) (free : Addr → Prop) : Array Value → State → Outcome → State → Prop := fun a st o t =>
  (Qc a st o t ∧ ∃ L, FrameEnd st o t L mc ms ∧ ∀ q ∈ L, free q.base) ∨ ∃ q, o = .threw q ∧ vx_T XC st q t mc ms free
/-- a callee that returns or throws -/
def vx_Met (l : Launch) (y : MethodName) (ws : List Cond) (rm : Room) (Pc : Array Value → State → Prop) (Qc : Array Value → State → Outcome → State → Prop) (XC : String → State → State → Prop) (mc ms : Nat) (free : Addr → Prop) : Prop :=
  MetFree l y (headSpec ws rm) Pc (fun _ _ _ _ _ => True) (vx_Q Qc XC mc ms free)
def vx_Post (XC : String → State → State → Prop) (mc ms : Nat) (free : Addr → Prop) : Pt → Array Value → Addr → Pt → Prop := fun A a q B =>
  ∃ (g : JFrame) (mk : MethodId) (t : State) (L : List Loc) (E : String) (ce : Cell), B.U.heap = t.heap ∧ B.U.vm = t.vm ∧ XC E (A.U.calling g mk a) t ∧ t.heap[q]? = some ce ∧ ce.vm = .none ∧ A.U.vm.findClass E = some ce.cls ∧ B.locs = A.locs ++ L ∧ (∀ z ∈ L, free z.base) ∧ B.cells = A.cells + mc ∧ B.slots = A.slots + ms
def vx_Back (l : Launch) (R : Room) (p : Program) (e : Env) (below : List Frame) (s : State) (sargs : Array Value) (y : MethodName) (len W9 : Nat)
    (Pre : Pt → Array Value → Prop) (Post : Pt → Array Value → Option Value → Pt → Prop) (PostX : Pt → Array Value → Addr → Pt → Prop) : Prop :=
  ∀ (m : MethodId) (meth : Method) (c : Code) (A : Pt) (g : JFrame) (ig : Instr) (mk : MethodId) (a : Array Value),
    Stand p l e R s m sargs below meth c A.U A.locs A.cells A.slots → g.method = m → g.locals.size = c.maxLocals → decode c.code g.pc = .ok (ig, len) →
    2 * g.monitorRoom + (g.stack.map fun v => v.category).sum ≤ W9 → A.U.methodNamed? y = some mk → Pre A a →
    (∃ (v : Option Value) (B : Pt), Stand p l e R s m sargs below meth c B.U B.locs B.cells B.slots ∧ Post A a v B ∧
      Steps p.tables e below (doInvoke e (A.U.setTop g) [] mk a).1 (B.U.setTop { g with pc := g.pc + len, stack := v.toList ++ g.stack })) ∨
    (∃ (q : Addr) (B : Pt), Stand p l e R s m sargs below meth c B.U B.locs B.cells B.slots ∧ PostX A a q B ∧
      Steps p.tables e below (doInvoke e (A.U.setTop g) [] mk a).1 ((B.U.setTop g).pushFrame (.throwing q)))
section Payer
variable {l : Launch} {R : Room} {p : Program} {e : Env} {below : List Frame} {s : State} {sargs : Array Value} {y : MethodName} {len W9 : Nat}
theorem vx_back {ws : List Cond} {rm : Room} {Pc : Array Value → State → Prop} {Qc : Array Value → State → Outcome → State → Prop} {XC : String → State → State → Prop} {mc ms : Nat} {free : Addr → Prop} {bytes : ByteArray} {maxL : Nat} {ret : Option FieldType}
    (hM : vx_Met l y ws rm Pc Qc XC mc ms free) (hblind : FrameBlind Pc) (hrc : rm.cells = mc) (hrs : rm.slots = ms)
    (hframes : rm.frames + 1 ≤ R.frames) (hlocals : W9 + (maxL + 11) + rm.locals ≤ R.locals)
    (hws : ∀ w ∈ ws, ∀ a' U, s.WarmedH U.vm → w.before a' U = true) (hcode : Cond.code y bytes maxL ret ∈ ws) (hinit : ∀ a' U, s.WarmedH U.vm → (Cond.initialized y.cls).before a' U = true) :
    vx_Back l R p e below s sargs y len W9 (PreOf R mc ms Pc) (PostOf Qc mc ms free) (vx_Post XC mc ms free) := by
  intro m meth c A g ig mk a X hg hsize hdg hW hn hp
  have h1 : (headSpec ws rm).pre.before a A.U = true := atoms_intro fun w hw => hws w hw _ _ X.warmed
  have h2 : (Cond.code y bytes maxL ret).before a A.U = true := hws _ hcode _ _ X.warmed
  have h3 : (Cond.initialized y.cls).before a A.U = true := hinit _ _ X.warmed
  have h4 : A.cells + (headSpec ws rm).room.cells ≤ R.cells := by rw [show (headSpec ws rm).room.cells = mc from hrc]; exact hp.1
  have h5 : A.slots + (headSpec ws rm).room.slots ≤ R.slots := by rw [show (headSpec ws rm).room.slots = ms from hrs]; exact hp.2.1
  have hPc : Pc a (A.U.calling g mk a) := hblind _ _ _ _ hp.2.2
  obtain ⟨U, Ls, c0, s0⟩ := A
  dsimp only [Pt.U, Pt.locs, Pt.cells, Pt.slots] at h1 h2 h3 h4 h5 X hn hPc ⊢
  obtain ⟨methY, cY, hmY, hcY, -, hlY, -, -, -, -⟩ := Cond.code_spec hn h2
  obtain ⟨kY, hkY, -⟩ := className_of_methodNamed hn
  have hinitY : kY.init = .initialized := Cond.initialized_spec (findClass_of_methodNamed hn) hkY h3
  have h : At U g.method c below := by rw [hg]; exact X.here
  have hlocals9 : W9 + (maxL + 11) + (headSpec ws rm).room.locals ≤ R.locals := hlocals
  have happ : (headSpec ws rm).appliesLoose y e.platform (U.calling g mk a) = true :=
    Spec.appliesLoose_calling (g := g) h hdg hn hkY hinitY
      (X.room_calling (g := g) (R' := (headSpec ws rm).room) hsize hmY hcY hframes (by rw [hlY]; omega) h4 h5) h1
  obtain ⟨mid, hmid⟩ := h.above
  have hfr : (U.setTop g).frames = (.java g :: mid) ++ below := by rw [State.frames_setTop' g h.top, hmid]; rfl
  obtain ⟨o, s₂, hsteps, -, hend, hq⟩ := Steps.callFree hM p X.admits X.cas X.clock (acts := []) hfr happ hPc trivial
  have hq' : vx_Q Qc XC mc ms free a (U.calling g mk a) o s₂ := hq
  rw [State.frames_setTop' g h.top] at hend
  obtain ⟨g₀, hg0⟩ := Option.isSome_iff_exists.mp h.top
  obtain ⟨r, hr⟩ := State.topJava?_eq_some.mp hg0
  have hr' : (({ U with heap := s₂.heap, slotsUsed := s₂.slotsUsed } : State).setVm s₂.vm).frames = .java g₀ :: r := hr
  rcases hq' with ⟨hqc, L, hfe, hL⟩ | ⟨q, rfl, E, ce, L, hx, hce, hcv, hcl, hW₂, hsm, hL⟩
  · obtain ⟨⟨v, rfl⟩, hW₂, e2, q2, q3, q4, q5, q6⟩ := id hfe
    have e3 : s₂ = ({ (U.calling g mk a).setFrames s₂.frames with heap := s₂.heap, slotsUsed := s₂.slotsUsed } : State).setVm s₂.vm := by
      have : s₂ = ({ s₂ with vm := (U.calling g mk a).vm } : State).setVm s₂.vm := rfl
      rw [e2] at this
      exact this
    obtain ⟨c₂, i₂, len₂, hc₂, hd₂, hf₂⟩ := hend
    have hW' : U.WarmedH s₂.vm := hW₂
    have hcc : c₂ = c := by
      have h1 : s₂.code? g.method = U.code? g.method := by
        rw [State.code?_eq, State.code?_eq, hW'.alike.method?]
      exact Option.some.inj (hc₂.symm.trans (h1.trans h.code))
    subst hcc
    have hlen : len₂ = len := by rw [hdg] at hd₂; cases hd₂; rfl
    subst hlen
    have hs₂ : s₂ = (({ U with heap := s₂.heap, slotsUsed := s₂.slotsUsed } : State).setVm s₂.vm).setTop { g with pc := g.pc + len₂, stack := v.toList ++ g.stack } := by
      refine e3.trans ?_
      rw [hf₂, State.calling_eq h.top, State.setFrames_setFrames, State.setTop_of_frames _ hr', hr]
      rfl
    have hsame : U.sameButNew ({ U with heap := s₂.heap, slotsUsed := s₂.slotsUsed } : State) L mc ms := by
      refine ⟨?_, q2, q3, q4, q5, q6⟩
      obtain ⟨t, ht, -⟩ := State.frames_cons hr
      show ({ U with heap := s₂.heap, slotsUsed := s₂.slotsUsed } : State) = { U.setFrames U.frames with heap := s₂.heap, slotsUsed := s₂.slotsUsed }
      rw [State.setFrames_self ht]
    subst hg
    refine Or.inl ⟨v, ⟨(({ U with heap := s₂.heap, slotsUsed := s₂.slotsUsed } : State).setVm s₂.vm), Ls ++ L, c0 + mc, s0 + ms⟩,
      ⟨X.admits, X.cas, X.clock, X.frames, X.room, X.hears, X.method, X.code, (X.here.setHeapUsed s₂.heap s₂.slotsUsed).setVm hW'.alike, X.tail, State.WarmedH.trans X.warmed hW', X.limits, X.bytes, X.same.trans (hsame.setVm s.vm)⟩,
      ⟨g, mk, s₂, L, rfl, rfl, hqc, rfl, hL, rfl, rfl⟩, ?_⟩
    show Steps p.tables e below _ ((({ U with heap := s₂.heap, slotsUsed := s₂.slotsUsed } : State).setVm s₂.vm).setTop { g with pc := g.pc + len₂, stack := v.toList ++ g.stack })
    rw [← hs₂]
    exact hsteps
  · obtain ⟨e2, q2, q3, q4, q5, q6⟩ := id hsm
    have e3 : s₂ = ({ (U.calling g mk a).setFrames s₂.frames with heap := s₂.heap, slotsUsed := s₂.slotsUsed } : State).setVm s₂.vm := by
      have : s₂ = ({ s₂ with vm := (U.calling g mk a).vm } : State).setVm s₂.vm := rfl
      rw [e2] at this
      exact this
    have hf₂ : s₂.frames = .throwing q :: .java g :: U.frames.tail := hend
    have hW' : U.WarmedH s₂.vm := hW₂
    have hs₂ : s₂ = ((({ U with heap := s₂.heap, slotsUsed := s₂.slotsUsed } : State).setVm s₂.vm).setTop g).pushFrame (.throwing q) := by
      refine e3.trans ?_
      rw [hf₂, State.calling_eq h.top, State.setFrames_setFrames, State.pushFrame, State.frames_setTop _ hr', State.setTop_of_frames _ hr', State.setFrames_setFrames, hr]
      rfl
    have hsame : U.sameButNew ({ U with heap := s₂.heap, slotsUsed := s₂.slotsUsed } : State) L mc ms := by
      refine ⟨?_, q2, q3, q4, q5, q6⟩
      obtain ⟨t, ht, -⟩ := State.frames_cons hr
      show ({ U with heap := s₂.heap, slotsUsed := s₂.slotsUsed } : State) = { U.setFrames U.frames with heap := s₂.heap, slotsUsed := s₂.slotsUsed }
      rw [State.setFrames_self ht]
    subst hg
    refine Or.inr ⟨q, ⟨(({ U with heap := s₂.heap, slotsUsed := s₂.slotsUsed } : State).setVm s₂.vm), Ls ++ L, c0 + mc, s0 + ms⟩,
      ⟨X.admits, X.cas, X.clock, X.frames, X.room, X.hears, X.method, X.code, (X.here.setHeapUsed s₂.heap s₂.slotsUsed).setVm hW'.alike, X.tail, State.WarmedH.trans X.warmed hW', X.limits, X.bytes, X.same.trans (hsame.setVm s.vm)⟩,
      ⟨g, mk, s₂, L, E, ce, rfl, rfl, hx, hce, hcv, hcl, rfl, hL, rfl, rfl⟩, ?_⟩
    show Steps p.tables e below _ (((({ U with heap := s₂.heap, slotsUsed := s₂.slotsUsed } : State).setVm s₂.vm).setTop g).pushFrame (.throwing q))
    rw [← hs₂]
    exact hsteps
end Payer
section Calls
variable {p : Program} {l : Launch} {e : Env} {R : Room} {s : State} {m : MethodId} {args : Array Value} {below : List Frame} {meth : Method} {c : Code} {T : State} {locs : List Loc} {cells slots : Nat}
theorem vx_callV (X : Stand p l e R s m args below meth c T locs cells slots) (hexec : p.tables.exec = Jvm.exec) {own C : String} {index : Nat} {y : MethodName} {bytes : ByteArray} {maxL : Nat} {ret : Option FieldType}
    (hown : s.vm.findClass own = some m.cls) (hlink : (Cond.methodLink own index y).before args s = true) (hinst : (Cond.instanceMethod y).before args s = true) (hsel : (Cond.selects C y y).before args s = true)
    (hcode : (Cond.code y bytes maxL ret).before args s = true) (hy : y.cls ≠ "java/lang/invoke/MethodHandle" ∧ y.cls ≠ "java/lang/invoke/VarHandle")
    {W9 : Nat} {Pre : Pt → Array Value → Prop} {Post : Pt → Array Value → Option Value → Pt → Prop} {PostX : Pt → Array Value → Addr → Pt → Prop} (hK : vx_Back l R p e below s args y 3 W9 Pre Post PostX)
    {b : Addr} {cellB : Cell} (hcell : T.heap[b]? = some cellB) (hobj : cellB.vm.isStatics = false) (hcls : s.vm.findClass C = some cellB.cls)
    {g : JFrame} (hg : g.method = m) (hsize : g.locals.size = c.maxLocals) {argsL rest : List Value} (hlen : ∀ sig, parseMethodDescriptor y.desc = some sig → argsL.length = sig.parameters.length)
    (hstack : g.stack = argsL.reverse ++ .ref b :: rest) (hW : 2 * g.monitorRoom + (rest.map fun v => v.category).sum ≤ W9) (hdg : decode c.code g.pc = .ok (.invokevirtual index, 3))
    (hpre : ∀ vm₁, s.WarmedH vm₁ → Pre ⟨T.setVm vm₁, locs, cells, slots⟩ (Value.ref b :: argsL).toArray) :
    (∃ (v : Option Value) (vm₁ : Vm) (B : Pt), s.WarmedH vm₁ ∧ Stand p l e R s m args below meth c B.U B.locs B.cells B.slots ∧ Post ⟨T.setVm vm₁, locs, cells, slots⟩ (Value.ref b :: argsL).toArray v B ∧
      ∀ target, Steps p.tables e below (B.U.setTop { g with pc := g.pc + 3, stack := v.toList ++ rest }) target → Steps p.tables e below (T.setTop g) target) ∨
    (∃ (q : Addr) (vm₁ : Vm) (B : Pt), s.WarmedH vm₁ ∧ Stand p l e R s m args below meth c B.U B.locs B.cells B.slots ∧ PostX ⟨T.setVm vm₁, locs, cells, slots⟩ (Value.ref b :: argsL).toArray q B ∧
      Steps p.tables e below (T.setTop g) ((B.U.setTop { g with stack := rest }).pushFrame (.throwing q))) := by
  obtain ⟨mk, methM, hnamed, hmethM, hstM, habM⟩ := Cond.instanceMethod_spec hinst
  obtain ⟨methM', cM, hmethM', -, -, -, -, -, -, hsigM⟩ := Cond.code_spec hnamed hcode
  cases hmethM.symm.trans hmethM'
  obtain ⟨c2, r2, m2, q1, q2, q3, q4, kP, hkP, hkPi⟩ := Cond.selects_spec hsel
  cases hcls.symm.trans q1
  cases (State.methodFound?_of_named hnamed hy).symm.trans q2
  cases hnamed.symm.trans q3
  have hselP : selectMethod e.platform s.vm cellB.cls mk = .method mk := by rw [Launch.admits_selectMethod X.admits]; exact q4
  obtain ⟨vm₁, X₁, hstep₁⟩ := X.invokevirtual hexec hown hlink hnamed hmethM hstM hkP hkPi hy (a := b) (cell := cellB) hcell
    (fun z h => by rw [h] at hobj; cases hobj) hselP hmethM habM hkP hkPi (g := g) hg (argsL := argsL) (rest := rest) (hlen _ hsigM) hstack hdg
  rcases hK m meth c ⟨T.setVm vm₁, locs, cells, slots⟩ { g with stack := rest } (.invokevirtual index) mk (Value.ref b :: argsL).toArray X₁ hg hsize hdg hW (X₁.named hnamed) (hpre vm₁ X₁.warmed) with ⟨v, B, X', hpost, hsteps⟩ | ⟨q, B, X', hpost, hsteps⟩
  · exact Or.inl ⟨v, vm₁, B, X₁.warmed, X', hpost, fun target h => hstep₁ _ fun acts => by rw [doInvoke_state]; exact hsteps.trans h⟩
  · exact Or.inr ⟨q, vm₁, B, X₁.warmed, X', hpost, hstep₁ _ fun acts => by rw [doInvoke_state]; exact hsteps⟩
theorem vx_callS (X : Stand p l e R s m args below meth c T locs cells slots) (hexec : p.tables.exec = Jvm.exec) {own : String} {index : Nat} {y : MethodName} {bytes : ByteArray} {maxL : Nat} {ret : Option FieldType}
    (hown : s.vm.findClass own = some m.cls) (hlink : (Cond.methodLink own index y).before args s = true) (hstat : (Cond.static y).before args s = true) (hinit : (Cond.initialized y.cls).before args s = true)
    (hcode : (Cond.code y bytes maxL ret).before args s = true) (hy : y.cls ≠ "java/lang/invoke/MethodHandle" ∧ y.cls ≠ "java/lang/invoke/VarHandle")
    {W9 : Nat} {Pre : Pt → Array Value → Prop} {Post : Pt → Array Value → Option Value → Pt → Prop} {PostX : Pt → Array Value → Addr → Pt → Prop} (hK : vx_Back l R p e below s args y 3 W9 Pre Post PostX)
    {g : JFrame} (hg : g.method = m) (hsize : g.locals.size = c.maxLocals) {argsL rest : List Value} (hlen : ∀ sig, parseMethodDescriptor y.desc = some sig → argsL.length = sig.parameters.length)
    (hstack : g.stack = argsL.reverse ++ rest) (hW : 2 * g.monitorRoom + (rest.map fun v => v.category).sum ≤ W9) (hdg : decode c.code g.pc = .ok (.invokestatic index, 3))
    (hpre : ∀ vm₁, s.WarmedH vm₁ → Pre ⟨T.setVm vm₁, locs, cells, slots⟩ argsL.toArray) :
    (∃ (v : Option Value) (vm₁ : Vm) (B : Pt), s.WarmedH vm₁ ∧ Stand p l e R s m args below meth c B.U B.locs B.cells B.slots ∧ Post ⟨T.setVm vm₁, locs, cells, slots⟩ argsL.toArray v B ∧
      ∀ target, Steps p.tables e below (B.U.setTop { g with pc := g.pc + 3, stack := v.toList ++ rest }) target → Steps p.tables e below (T.setTop g) target) ∨
    (∃ (q : Addr) (vm₁ : Vm) (B : Pt), s.WarmedH vm₁ ∧ Stand p l e R s m args below meth c B.U B.locs B.cells B.slots ∧ PostX ⟨T.setVm vm₁, locs, cells, slots⟩ argsL.toArray q B ∧
      Steps p.tables e below (T.setTop g) ((B.U.setTop { g with stack := rest }).pushFrame (.throwing q))) := by
  obtain ⟨mk, hnamed⟩ := Cond.code_named hcode
  obtain ⟨methM, cM, hmethM, -, -, -, -, -, -, hsigM⟩ := Cond.code_spec hnamed hcode
  have hstatic : methM.isStatic = true := Cond.static_spec hnamed hmethM hstat
  obtain ⟨kP, hkP, -⟩ := className_of_methodNamed hnamed
  have hinitP : kP.init = .initialized := Cond.initialized_spec (findClass_of_methodNamed hnamed) hkP hinit
  obtain ⟨vm₁, X₁, hstep₁⟩ := X.invokestatic hexec hown hlink hnamed hmethM hstatic hkP hinitP hy (g := g) hg (argsL := argsL) (rest := rest) (hlen _ hsigM) hstack hdg
  rcases hK m meth c ⟨T.setVm vm₁, locs, cells, slots⟩ { g with stack := rest } (.invokestatic index) mk argsL.toArray X₁ hg hsize hdg hW (X₁.named hnamed) (hpre vm₁ X₁.warmed) with ⟨v, B, X', hpost, hsteps⟩ | ⟨q, B, X', hpost, hsteps⟩
  · exact Or.inl ⟨v, vm₁, B, X₁.warmed, X', hpost, fun target h => hstep₁ _ fun acts => by rw [doInvoke_state]; exact hsteps.trans h⟩
  · exact Or.inr ⟨q, vm₁, B, X₁.warmed, X', hpost, hstep₁ _ fun acts => by rw [doInvoke_state]; exact hsteps⟩
end Calls
theorem vx_cls {s : State} {T : State} {vm₁ : Vm} {E : String} {k : ClassId} (hW : s.WarmedH vm₁) (h : (T.setVm vm₁).vm.findClass E = some k) : s.vm.findClass E = some k := by
  have h1 : vm₁.findClass E = some k := h
  rw [hW.alike.findClass] at h1
  exact h1
/-- the method's frame g, with q thrown over it -/
def vx_W (p : Program) (l : Launch) (e : Env) (R : Room) (s : State) (m : MethodId) (args : Array Value) (below : List Frame) (meth : Method) (c : Code) (H : Heap) (locs : List Loc) (cells slots : Nat) (Q : State → Prop) (g : JFrame) (q : Addr) : Prop :=
  ∀ T : State, T.heap = H → Stand p l e R s m args below meth c T locs cells slots → ∃ t, Steps p.tables e below ((T.setTop g).pushFrame (.throwing q)) t ∧ Q t
def vx_Run (p : Program) (l : Launch) (e : Env) (R : Room) (s : State) (m : MethodId) (args : Array Value) (below : List Frame) (meth : Method) (c : Code) (H : Heap) (locs : List Loc) (cells slots mc ms : Nat) (g : JFrame) (rest : List Value) (Qa : State → Outcome → State → Prop) (XC : String → State → State → Prop) (free : Addr → Prop) : Prop :=
  ∀ T : State, T.heap = H → Stand p l e R s m args below meth c T locs cells slots →
    (∃ (v : Option Value) (st₀ t T' : State) (L : List Loc), st₀.heap = H ∧ Stand p l e R s m args below meth c T' (locs ++ L) (cells + mc) (slots + ms) ∧ (∀ q ∈ L, free q.base) ∧ T'.heap = t.heap ∧ T'.vm = t.vm ∧ Qa st₀ (.returned v) t ∧
      Goes p e below T g T' { g with pc := g.pc + 3, stack := v.toList ++ rest }) ∨
    (∃ (q : Addr) (st₀ t T' : State) (L : List Loc) (E : String) (ce : Cell), st₀.heap = H ∧ Stand p l e R s m args below meth c T' (locs ++ L) (cells + mc) (slots + ms) ∧ (∀ z ∈ L, free z.base) ∧ T'.heap = t.heap ∧ T'.vm = t.vm ∧ XC E st₀ t ∧ t.heap[q]? = some ce ∧ ce.vm = .none ∧ s.vm.findClass E = some ce.cls ∧
      Steps p.tables e below (T.setTop g) ((T'.setTop { g with stack := rest }).pushFrame (.throwing q)))
def vx_X {S : Type} (px : S → Prop) (B : String → S → State → Prop) (A : Nat → Prop) : String → State → State → Prop := fun E st t => ∃ u : S, px u ∧ B E u t ∧ va_F A st t
section Runs
variable {p : Program} {l : Launch} {e : Env} {R : Room} {s : State} {m : MethodId} {args : Array Value} {below : List Frame} {meth : Method} {c : Code} {H : Heap} {locs : List Loc} {cells slots : Nat}
variable {y : MethodName} {bytes cc : ByteArray} {maxL nL mc ms n index : Nat} {ret : Option FieldType} {ws : List Cond} {rm : Room} {Pc : Array Value → State → Prop} {Qc : Array Value → State → Outcome → State → Prop} {XC : String → State → State → Prop} {free : Addr → Prop} {Ts : List Cond} {own C : String} {b : Addr} {As rest : List Value} {g : JFrame}
theorem vx_callBack (cb : CallB R s args own index y bytes maxL ret ws rm mc ms n) (hM : vx_Met l y ws rm Pc Qc XC mc ms free) (hbl : FrameBlind Pc) : vx_Back l R p e below s args y 3 8 (PreOf R mc ms Pc) (PostOf Qc mc ms free) (vx_Post XC mc ms free) := by
  obtain ⟨hrc, hrs, hfr, hlo, hws, hcw, -, hini, -⟩ := cb
  exact vx_back (bytes := bytes) (maxL := maxL) (ret := ret) hM hbl hrc hrs hfr hlo hws hcw (fun a' U hW => word_at hW (Or.inl (by first | rfl | simp [Cond.onTables, Cond.keeps, Cond.steady])) hini)
theorem vx_runV (S : CallFix p m c cc nL s args Ts own) (hM : vx_Met l y ws rm Pc Qc XC mc ms free) (cw : CallW R s args own C index y bytes maxL ret ws rm mc ms n) (hp : PreV s H C b Pc As)
    (hg : g.method = m) (hn : As.length = n) (hsize : g.locals.size = nL) (hstack : g.stack = As.reverse ++ .ref b :: rest) (hW : 2 * g.monitorRoom + (rest.map fun v => v.category).sum ≤ 8) (hdg : decode cc g.pc = .ok (.invokevirtual index, 3)) (hf : cells + mc ≤ R.cells ∧ slots + ms ≤ R.slots) :
    vx_Run p l e R s m args below meth c H locs cells slots mc ms g rest (Qc (Value.ref b :: As).toArray) XC free := by
  have hK : vx_Back l R p e below s args y 3 8 (PreOf R mc ms Pc) (PostOf Qc mc ms free) (vx_Post XC mc ms free) := vx_callBack cw.1 hM hp.1
  obtain ⟨⟨-, -, -, -, -, -, hcode, -, hy, hlen, hl⟩, hin, hse⟩ := cw
  obtain ⟨hx, hb, hml, ho, -⟩ := S
  obtain ⟨-, ⟨cellB, hcB, hoB, hclB⟩, hPc⟩ := hp
  intro T hT X
  rcases vx_callV X hx (C := C) (bytes := bytes) (maxL := maxL) (ret := ret) ho hl hin hse hcode hy hK (by rw [hT]; exact hcB) hoB hclB hg (hsize.trans hml.symm) (argsL := As) (rest := rest) (fun sig h => hn.trans (hlen sig h)) hstack hW (by rw [hb]; exact hdg)
    (fun vm₁ hW₁ => ⟨hf.1, hf.2, hPc (T.setVm vm₁) hT hW₁⟩) with ⟨v, vm₁, ⟨U', l2, c2, s2⟩, hW₁, X', ⟨g', mk, t, L, e1, e2, hq, h1, hL, h2, h3⟩, st⟩ | ⟨q, vm₁, ⟨U', l2, c2, s2⟩, hW₁, X', ⟨g', mk, t, L, E, ce, e1, e2, hq, hce, hcv, hcl, h1, hL, h2, h3⟩, st⟩
  · dsimp only [Pt.U, Pt.locs, Pt.cells, Pt.slots] at X' e1 e2 h1 h2 h3 st
    subst h1; subst h2; subst h3
    exact Or.inl ⟨v, (T.setVm vm₁).calling g' mk (Value.ref b :: As).toArray, t, U', L, hT, X', hL, e1, e2, hq, st⟩
  · dsimp only [Pt.U, Pt.locs, Pt.cells, Pt.slots] at X' e1 e2 h1 h2 h3 st hcl
    subst h1; subst h2; subst h3
    exact Or.inr ⟨q, (T.setVm vm₁).calling g' mk (Value.ref b :: As).toArray, t, U', L, E, ce, hT, X', hL, e1, e2, hq, hce, hcv, vx_cls hW₁ hcl, st⟩
theorem vx_runS (S : CallFix p m c cc nL s args Ts own) (hM : vx_Met l y ws rm Pc Qc XC mc ms free) (cw : CallB R s args own index y bytes maxL ret ws rm mc ms n ∧ (Cond.static y).before args s = true) (hp : PreS s H Pc As)
    (hg : g.method = m) (hn : As.length = n) (hsize : g.locals.size = nL) (hstack : g.stack = As.reverse ++ rest) (hW : 2 * g.monitorRoom + (rest.map fun v => v.category).sum ≤ 8) (hdg : decode cc g.pc = .ok (.invokestatic index, 3)) (hf : cells + mc ≤ R.cells ∧ slots + ms ≤ R.slots) :
    vx_Run p l e R s m args below meth c H locs cells slots mc ms g rest (Qc As.toArray) XC free := by
  have hK : vx_Back l R p e below s args y 3 8 (PreOf R mc ms Pc) (PostOf Qc mc ms free) (vx_Post XC mc ms free) := vx_callBack cw.1 hM hp.1
  obtain ⟨⟨-, -, -, -, -, -, hcode, hini, hy, hlen, hl⟩, hstt⟩ := cw
  obtain ⟨hx, hb, hml, ho, -⟩ := S
  intro T hT X
  rcases vx_callS X hx (bytes := bytes) (maxL := maxL) (ret := ret) ho hl hstt hini hcode hy hK hg (hsize.trans hml.symm) (argsL := As) (rest := rest) (fun sig h => hn.trans (hlen sig h)) hstack hW (by rw [hb]; exact hdg)
    (fun vm₁ hW₁ => ⟨hf.1, hf.2, hp.2 (T.setVm vm₁) hT hW₁⟩) with ⟨v, vm₁, ⟨U', l2, c2, s2⟩, hW₁, X', ⟨g', mk, t, L, e1, e2, hq, h1, hL, h2, h3⟩, st⟩ | ⟨q, vm₁, ⟨U', l2, c2, s2⟩, hW₁, X', ⟨g', mk, t, L, E, ce, e1, e2, hq, hce, hcv, hcl, h1, hL, h2, h3⟩, st⟩
  · dsimp only [Pt.U, Pt.locs, Pt.cells, Pt.slots] at X' e1 e2 h1 h2 h3 st
    subst h1; subst h2; subst h3
    exact Or.inl ⟨v, (T.setVm vm₁).calling g' mk As.toArray, t, U', L, hT, X', hL, e1, e2, hq, st⟩
  · dsimp only [Pt.U, Pt.locs, Pt.cells, Pt.slots] at X' e1 e2 h1 h2 h3 st hcl
    subst h1; subst h2; subst h3
    exact Or.inr ⟨q, (T.setVm vm₁).calling g' mk As.toArray, t, U', L, E, ce, hT, X', hL, e1, e2, hq, hce, hcv, vx_cls hW₁ hcl, st⟩
end Runs
section Rows
variable {p : Program} {l : Launch} {e : Env} {R : Room} {s : State} {m : MethodId} {args : Array Value} {below : List Frame} {meth : Method} {c : Code} {H : Heap} {locs : List Loc} {cells slots : Nat} {Q : State → Prop}
variable {mc ms : Nat} {free : Addr → Prop} {A0 A1 : Nat → Prop} {H0 : Heap} {a : Array Value} {pc : Nat} {ls : Array Slot} {st0 rest : List Value}
theorem vx_keep {st₀ t T' : State} {L : List Loc} (h0 : st₀.heap = H) (e1 : T'.heap = t.heap) (hS : va_S A0 H0 H locs) (hA : ∀ q, q < H.size → A1 q → A0 q) (hf : ∀ q, free q → A0 q) (hL : ∀ q ∈ L, free q.base) (hF : va_F A1 st₀ t) :
    H.size ≤ T'.heap.size ∧ (∀ q : Nat, q < H.size → ¬ A1 q → T'.heap[q]? = H[q]?) ∧ va_S A0 H0 T'.heap (locs ++ L) := by
  obtain ⟨hz, hk⟩ := hF
  rw [h0] at hz hk
  exact ⟨by rw [e1]; exact hz, fun q h1 h2 => by rw [e1]; exact hk q h1 h2,
    ⟨Nat.le_trans hS.1 (by rw [e1]; exact hz), fun q h1 h2 => by rw [e1, hk q (Nat.lt_of_lt_of_le h1 hS.1) (fun z => h2 (hA q (Nat.lt_of_lt_of_le h1 hS.1) z))]; exact hS.2.1 q h1 h2, fun q hq => by
      rcases List.mem_append.mp hq with h | h
      · exact hS.2.2 q h
      · exact hf _ (hL q h)⟩⟩
theorem vx_calli {S SX : Type} {post : Int32 → S → Prop} {px : SX → Prop} {B : S → State → Prop} {BX : String → SX → State → Prop} {AX : Nat → Prop} (hr : vx_Run p l e R s m args below meth c H locs cells slots mc ms (F0 m pc ls st0) rest (va_Qi post B A1 a) (vx_X px BX AX) free) (hS : va_S A0 H0 H locs) (hA : ∀ q, q < H.size → A1 q → A0 q) (hf : ∀ q, free q → A0 q) (hAX : ∀ q, q < H.size → AX q → A0 q)
    (kx : ∀ (E : String) (ce : Cell) (q9 : Addr) (u : SX) (t : State) (H1 : Heap) (locs1 : List Loc), t.heap = H1 → s.vm.Alike t.vm → px u → BX E u t → H.size ≤ H1.size → (∀ q : Nat, q < H.size → ¬ AX q → H1[q]? = H[q]?) → va_S A0 H0 H1 locs1 → H1[q9]? = some ce → ce.vm = .none → s.vm.findClass E = some ce.cls → vx_W p l e R s m args below meth c H1 locs1 (cells + mc) (slots + ms) Q (F0 m pc ls rest) q9)
    (kk : ∀ (r : Int32) (u : S) (t : State) (H1 : Heap) (locs1 : List Loc), t.heap = H1 → s.vm.Alike t.vm → post r u → B u t → H.size ≤ H1.size → (∀ q : Nat, q < H.size → ¬ A1 q → H1[q]? = H[q]?) → va_S A0 H0 H1 locs1 → W p l e R s m args below meth c H1 locs1 (cells + mc) (slots + ms) Q (F0 m (pc + 3) ls (.int r :: rest))) : W p l e R s m args below meth c H locs cells slots Q (F0 m pc ls st0) := by
  intro T hT X
  rcases hr T hT X with ⟨v, st₀, t, T', L, h0, X', hL, e1, e2, ⟨⟨r, u, hv, hp, hb⟩, hF⟩, st⟩ | ⟨q, st₀, t, T', L, E, ce, h0, X', hL, e1, e2, ⟨u, hp, hb, hF⟩, hce, hcv, hcl, st⟩
  · cases hv
    obtain ⟨k1, k2, k3⟩ := vx_keep h0 e1 hS hA hf hL hF
    obtain ⟨t2, a1, b1⟩ := kk r u t T'.heap (locs ++ L) e1.symm (by rw [← e2]; exact X'.warmed.alike) hp hb k1 k2 k3 T' rfl X'
    exact ⟨t2, st t2 a1, b1⟩
  · obtain ⟨k1, k2, k3⟩ := vx_keep h0 e1 hS hAX hf hL hF
    obtain ⟨t2, a1, b1⟩ := kx E ce q u t T'.heap (locs ++ L) e1.symm (by rw [← e2]; exact X'.warmed.alike) hp hb k1 k2 k3 (by rw [e1]; exact hce) hcv hcl T' rfl X'
    exact ⟨t2, st.trans a1, b1⟩
theorem vx_calll {S SX : Type} {post : Int64 → S → Prop} {px : SX → Prop} {B : S → State → Prop} {BX : String → SX → State → Prop} {AX : Nat → Prop} (hr : vx_Run p l e R s m args below meth c H locs cells slots mc ms (F0 m pc ls st0) rest (va_Ql post B A1 a) (vx_X px BX AX) free) (hS : va_S A0 H0 H locs) (hA : ∀ q, q < H.size → A1 q → A0 q) (hf : ∀ q, free q → A0 q) (hAX : ∀ q, q < H.size → AX q → A0 q)
    (kx : ∀ (E : String) (ce : Cell) (q9 : Addr) (u : SX) (t : State) (H1 : Heap) (locs1 : List Loc), t.heap = H1 → s.vm.Alike t.vm → px u → BX E u t → H.size ≤ H1.size → (∀ q : Nat, q < H.size → ¬ AX q → H1[q]? = H[q]?) → va_S A0 H0 H1 locs1 → H1[q9]? = some ce → ce.vm = .none → s.vm.findClass E = some ce.cls → vx_W p l e R s m args below meth c H1 locs1 (cells + mc) (slots + ms) Q (F0 m pc ls rest) q9)
    (kk : ∀ (r : Int64) (u : S) (t : State) (H1 : Heap) (locs1 : List Loc), t.heap = H1 → s.vm.Alike t.vm → post r u → B u t → H.size ≤ H1.size → (∀ q : Nat, q < H.size → ¬ A1 q → H1[q]? = H[q]?) → va_S A0 H0 H1 locs1 → W p l e R s m args below meth c H1 locs1 (cells + mc) (slots + ms) Q (F0 m (pc + 3) ls (.long r :: rest))) : W p l e R s m args below meth c H locs cells slots Q (F0 m pc ls st0) := by
  intro T hT X
  rcases hr T hT X with ⟨v, st₀, t, T', L, h0, X', hL, e1, e2, ⟨⟨r, u, hv, hp, hb⟩, hF⟩, st⟩ | ⟨q, st₀, t, T', L, E, ce, h0, X', hL, e1, e2, ⟨u, hp, hb, hF⟩, hce, hcv, hcl, st⟩
  · cases hv
    obtain ⟨k1, k2, k3⟩ := vx_keep h0 e1 hS hA hf hL hF
    obtain ⟨t2, a1, b1⟩ := kk r u t T'.heap (locs ++ L) e1.symm (by rw [← e2]; exact X'.warmed.alike) hp hb k1 k2 k3 T' rfl X'
    exact ⟨t2, st t2 a1, b1⟩
  · obtain ⟨k1, k2, k3⟩ := vx_keep h0 e1 hS hAX hf hL hF
    obtain ⟨t2, a1, b1⟩ := kx E ce q u t T'.heap (locs ++ L) e1.symm (by rw [← e2]; exact X'.warmed.alike) hp hb k1 k2 k3 (by rw [e1]; exact hce) hcv hcl T' rfl X'
    exact ⟨t2, st.trans a1, b1⟩
theorem vx_callf {S SX : Type} {post : UInt32 → S → Prop} {px : SX → Prop} {B : S → State → Prop} {BX : String → SX → State → Prop} {AX : Nat → Prop} (hr : vx_Run p l e R s m args below meth c H locs cells slots mc ms (F0 m pc ls st0) rest (va_Qf post B A1 a) (vx_X px BX AX) free) (hS : va_S A0 H0 H locs) (hA : ∀ q, q < H.size → A1 q → A0 q) (hf : ∀ q, free q → A0 q) (hAX : ∀ q, q < H.size → AX q → A0 q)
    (kx : ∀ (E : String) (ce : Cell) (q9 : Addr) (u : SX) (t : State) (H1 : Heap) (locs1 : List Loc), t.heap = H1 → s.vm.Alike t.vm → px u → BX E u t → H.size ≤ H1.size → (∀ q : Nat, q < H.size → ¬ AX q → H1[q]? = H[q]?) → va_S A0 H0 H1 locs1 → H1[q9]? = some ce → ce.vm = .none → s.vm.findClass E = some ce.cls → vx_W p l e R s m args below meth c H1 locs1 (cells + mc) (slots + ms) Q (F0 m pc ls rest) q9)
    (kk : ∀ (r : UInt32) (u : S) (t : State) (H1 : Heap) (locs1 : List Loc), t.heap = H1 → s.vm.Alike t.vm → post r u → B u t → H.size ≤ H1.size → (∀ q : Nat, q < H.size → ¬ A1 q → H1[q]? = H[q]?) → va_S A0 H0 H1 locs1 → W p l e R s m args below meth c H1 locs1 (cells + mc) (slots + ms) Q (F0 m (pc + 3) ls (.float r :: rest))) : W p l e R s m args below meth c H locs cells slots Q (F0 m pc ls st0) := by
  intro T hT X
  rcases hr T hT X with ⟨v, st₀, t, T', L, h0, X', hL, e1, e2, ⟨⟨r, u, hv, hp, hb⟩, hF⟩, st⟩ | ⟨q, st₀, t, T', L, E, ce, h0, X', hL, e1, e2, ⟨u, hp, hb, hF⟩, hce, hcv, hcl, st⟩
  · cases hv
    obtain ⟨k1, k2, k3⟩ := vx_keep h0 e1 hS hA hf hL hF
    obtain ⟨t2, a1, b1⟩ := kk r u t T'.heap (locs ++ L) e1.symm (by rw [← e2]; exact X'.warmed.alike) hp hb k1 k2 k3 T' rfl X'
    exact ⟨t2, st t2 a1, b1⟩
  · obtain ⟨k1, k2, k3⟩ := vx_keep h0 e1 hS hAX hf hL hF
    obtain ⟨t2, a1, b1⟩ := kx E ce q u t T'.heap (locs ++ L) e1.symm (by rw [← e2]; exact X'.warmed.alike) hp hb k1 k2 k3 (by rw [e1]; exact hce) hcv hcl T' rfl X'
    exact ⟨t2, st.trans a1, b1⟩
theorem vx_calld {S SX : Type} {post : UInt64 → S → Prop} {px : SX → Prop} {B : S → State → Prop} {BX : String → SX → State → Prop} {AX : Nat → Prop} (hr : vx_Run p l e R s m args below meth c H locs cells slots mc ms (F0 m pc ls st0) rest (va_Qd post B A1 a) (vx_X px BX AX) free) (hS : va_S A0 H0 H locs) (hA : ∀ q, q < H.size → A1 q → A0 q) (hf : ∀ q, free q → A0 q) (hAX : ∀ q, q < H.size → AX q → A0 q)
    (kx : ∀ (E : String) (ce : Cell) (q9 : Addr) (u : SX) (t : State) (H1 : Heap) (locs1 : List Loc), t.heap = H1 → s.vm.Alike t.vm → px u → BX E u t → H.size ≤ H1.size → (∀ q : Nat, q < H.size → ¬ AX q → H1[q]? = H[q]?) → va_S A0 H0 H1 locs1 → H1[q9]? = some ce → ce.vm = .none → s.vm.findClass E = some ce.cls → vx_W p l e R s m args below meth c H1 locs1 (cells + mc) (slots + ms) Q (F0 m pc ls rest) q9)
    (kk : ∀ (r : UInt64) (u : S) (t : State) (H1 : Heap) (locs1 : List Loc), t.heap = H1 → s.vm.Alike t.vm → post r u → B u t → H.size ≤ H1.size → (∀ q : Nat, q < H.size → ¬ A1 q → H1[q]? = H[q]?) → va_S A0 H0 H1 locs1 → W p l e R s m args below meth c H1 locs1 (cells + mc) (slots + ms) Q (F0 m (pc + 3) ls (.double r :: rest))) : W p l e R s m args below meth c H locs cells slots Q (F0 m pc ls st0) := by
  intro T hT X
  rcases hr T hT X with ⟨v, st₀, t, T', L, h0, X', hL, e1, e2, ⟨⟨r, u, hv, hp, hb⟩, hF⟩, st⟩ | ⟨q, st₀, t, T', L, E, ce, h0, X', hL, e1, e2, ⟨u, hp, hb, hF⟩, hce, hcv, hcl, st⟩
  · cases hv
    obtain ⟨k1, k2, k3⟩ := vx_keep h0 e1 hS hA hf hL hF
    obtain ⟨t2, a1, b1⟩ := kk r u t T'.heap (locs ++ L) e1.symm (by rw [← e2]; exact X'.warmed.alike) hp hb k1 k2 k3 T' rfl X'
    exact ⟨t2, st t2 a1, b1⟩
  · obtain ⟨k1, k2, k3⟩ := vx_keep h0 e1 hS hAX hf hL hF
    obtain ⟨t2, a1, b1⟩ := kx E ce q u t T'.heap (locs ++ L) e1.symm (by rw [← e2]; exact X'.warmed.alike) hp hb k1 k2 k3 (by rw [e1]; exact hce) hcv hcl T' rfl X'
    exact ⟨t2, st.trans a1, b1⟩
theorem vx_callv {S SX : Type} {post : S → Prop} {px : SX → Prop} {B : S → State → Prop} {BX : String → SX → State → Prop} {AX : Nat → Prop} (hr : vx_Run p l e R s m args below meth c H locs cells slots mc ms (F0 m pc ls st0) rest (va_Qv post B A1 a) (vx_X px BX AX) free) (hS : va_S A0 H0 H locs) (hA : ∀ q, q < H.size → A1 q → A0 q) (hf : ∀ q, free q → A0 q) (hAX : ∀ q, q < H.size → AX q → A0 q)
    (kx : ∀ (E : String) (ce : Cell) (q9 : Addr) (u : SX) (t : State) (H1 : Heap) (locs1 : List Loc), t.heap = H1 → s.vm.Alike t.vm → px u → BX E u t → H.size ≤ H1.size → (∀ q : Nat, q < H.size → ¬ AX q → H1[q]? = H[q]?) → va_S A0 H0 H1 locs1 → H1[q9]? = some ce → ce.vm = .none → s.vm.findClass E = some ce.cls → vx_W p l e R s m args below meth c H1 locs1 (cells + mc) (slots + ms) Q (F0 m pc ls rest) q9)
    (kk : ∀ (u : S) (t : State) (H1 : Heap) (locs1 : List Loc), t.heap = H1 → s.vm.Alike t.vm → post u → B u t → H.size ≤ H1.size → (∀ q : Nat, q < H.size → ¬ A1 q → H1[q]? = H[q]?) → va_S A0 H0 H1 locs1 → W p l e R s m args below meth c H1 locs1 (cells + mc) (slots + ms) Q (F0 m (pc + 3) ls (rest))) : W p l e R s m args below meth c H locs cells slots Q (F0 m pc ls st0) := by
  intro T hT X
  rcases hr T hT X with ⟨v, st₀, t, T', L, h0, X', hL, e1, e2, ⟨⟨u, hv, hp, hb⟩, hF⟩, st⟩ | ⟨q, st₀, t, T', L, E, ce, h0, X', hL, e1, e2, ⟨u, hp, hb, hF⟩, hce, hcv, hcl, st⟩
  · cases hv
    obtain ⟨k1, k2, k3⟩ := vx_keep h0 e1 hS hA hf hL hF
    obtain ⟨t2, a1, b1⟩ := kk u t T'.heap (locs ++ L) e1.symm (by rw [← e2]; exact X'.warmed.alike) hp hb k1 k2 k3 T' rfl X'
    exact ⟨t2, st t2 a1, b1⟩
  · obtain ⟨k1, k2, k3⟩ := vx_keep h0 e1 hS hAX hf hL hF
    obtain ⟨t2, a1, b1⟩ := kx E ce q u t T'.heap (locs ++ L) e1.symm (by rw [← e2]; exact X'.warmed.alike) hp hb k1 k2 k3 (by rw [e1]; exact hce) hcv hcl T' rfl X'
    exact ⟨t2, st.trans a1, b1⟩
/-- caught by the row x of this method's table; the rows ahead don't take it -/
theorem vx_catch {own name : String} {E : String} {ce : Cell} {q : Addr} (hown : s.vm.findClass own = some m.cls) (pre : List ExceptionTableEntry) (x : ExceptionTableEntry) (suf : List ExceptionTableEntry) (hsplit : c.exceptionTable.toList = pre ++ x :: suf)
    (hpass : ∀ z ∈ pre, covers z pc = false ∨ (z.catchType ≠ 0 ∧ ∃ nm : String, (Cond.classLink own z.catchType nm).before args s = true ∧ va_Nc E nm s)) (hx : covers x pc = true) (h0 : x.catchType ≠ 0)
    (hlink : (Cond.classLink own x.catchType name).before args s = true) (hcast : (Cond.castable E name).before args s = true) (hcell : H[q]? = some ce) (hv : ce.vm = .none) (hcl : s.vm.findClass E = some ce.cls)
    (kk : W p l e R s m args below meth c H locs cells slots Q (F0 m x.handlerPc ls [.ref q])) : vx_W p l e R s m args below meth c H locs cells slots Q (F0 m pc ls rest) q := by
  intro T hT X
  have hpl : e.platform.magicAccessors = ({} : Platform).magicAccessors := by rw [X.admits.platform]
  obtain ⟨c3, c4, hc3, hc4, hasg⟩ := Cond.castable_spec hcast
  cases Option.some.inj (hc3.symm.trans hcl)
  obtain ⟨c5, hc5, hcl5⟩ := Cond.classLink_spec hown hlink e.platform hpl
  cases Option.some.inj (hc4.symm.trans hc5)
  obtain ⟨vm', X', st⟩ := X.thenCaughtThrough q (g := F0 m pc ls rest) rfl (Steps.refl _) (by rw [hT]; exact hcell) (by rw [hv]; rfl) (by obtain ⟨k9, h9, -⟩ := Vm.findClass_spec hcl; exact ⟨k9, h9⟩) pre x suf hsplit
    (fun z hz => by
      rcases hpass z hz with h | ⟨hz0, nm, hl1, hn1⟩
      · exact Or.inl h
      · obtain ⟨c6, hc6, hcl6⟩ := Cond.classLink_spec hown hl1 e.platform hpl
        obtain ⟨a8, b8, h1, h2, h3⟩ := hn1
        cases Option.some.inj (h1.symm.trans hcl)
        cases Option.some.inj (h2.symm.trans hc6)
        exact Or.inr ⟨hz0, _, hcl6, h3⟩) hx (Or.inr ⟨h0, c4, hcl5, hasg⟩)
  obtain ⟨t, a1, b1⟩ := kk (T.setVm vm') hT X'
  exact ⟨t, st.trans a1, b1⟩
end Rows
section Ends
variable {p : Program} {l : Launch} {e : Env} {R : Room} {s : State} {m : MethodId} {args : Array Value} {below : List Frame} {meth : Method} {c : Code} {H : Heap} {locs : List Loc} {cells slots : Nat} {Q : State → Prop}
variable {mc ms : Nat} {free : Addr → Prop} {A0 A1 : Nat → Prop} {H0 : Heap} {a : Array Value} {ls : Array Slot} {st0 rest : List Value}
variable {Qc : Array Value → State → Outcome → State → Prop} {XC : String → State → State → Prop}
/-- what a body that may throw owes at its end -/
def vx_MQ (below : List Frame) (Qc : Array Value → State → Outcome → State → Prop) (XC : String → State → State → Prop) (a : Array Value) (s : State) (mc ms : Nat) (free : Addr → Prop) : State → Prop := fun t =>
  ∃ o, t.status = .running ∧ Ended t below o ∧ vx_Q Qc XC mc ms free a s o t
theorem vx_ret {g : JFrame} {mc ms : Nat} (k : W p l e R s m args below meth c H locs cells slots (MQ below Qc args s mc ms free) g) : W p l e R s m args below meth c H locs cells slots (vx_MQ below Qc XC args s mc ms free) g := by
  intro T hT X
  obtain ⟨t, a1, o, b1, b2, b3, b4⟩ := k T hT X
  exact ⟨t, a1, o, b1, b2, Or.inl ⟨b3, b4⟩⟩
/-- not caught here: it goes on to the caller -/
theorem vx_widen {g : JFrame} {q : Addr} {k n : Nat} (h1 : cells ≤ k) (h2 : slots ≤ n) (kk : vx_W p l e R s m args below meth c H locs k n Q g q) : vx_W p l e R s m args below meth c H locs cells slots Q g q := fun T hT X => kk T hT (stand_widen X h1 h2)
theorem vx_out {pc : Nat} {E : String} {ce : Cell} {q : Addr} {mc ms : Nat} (hout : ∀ x ∈ c.exceptionTable.toList, covers x pc = false) (hlocks : meth.locks = false) (hcell : H[q]? = some ce) (hv : ce.vm = .none) (hcl : s.vm.findClass E = some ce.cls)
    (hx : ∀ t : State, t.heap = H → s.vm.Alike t.vm → XC E s t) (hf : ∀ z ∈ locs, free z.base) (hc : cells ≤ mc) (hs : slots ≤ ms) :
    vx_W p l e R s m args below meth c H locs cells slots (vx_MQ below Qc XC args s mc ms free) (F0 m pc ls rest) q := by
  intro T hT X
  obtain ⟨st1, hrun, hend, hW, hsm⟩ := X.leaveThrown q (g := F0 m pc ls rest) rfl rfl rfl hout hlocks
  have hcell9 : (T.setFrames (.throwing q :: below)).heap[q]? = some ce := by
    show T.heap[q]? = some ce
    rw [hT]; exact hcell
  exact ⟨_, st1, .threw q, hrun, hend, Or.inr ⟨q, rfl, E, ce, locs, hx _ hT hW.alike, hcell9, hv, hcl, hW, hsm.mono hc hs, hf⟩⟩
theorem vx_frame {U : State} {k n : Nat} (h : s.sameButNew ({ U with vm := s.vm } : State) locs k n) : s.heap.size ≤ U.heap.size ∧ ∀ q : Nat, q < s.heap.size → (∀ z ∈ locs, z.base ≠ q) → U.heap[q]? = s.heap[q]? := by
  obtain ⟨-, h2, -, -, -, h6⟩ := h
  refine ⟨h2, fun q hq hz => ?_⟩
  obtain ⟨c9, e1, e2, e3, e4⟩ := h6 q _ (Array.getElem?_eq_getElem hq)
  have hs : c9.slots = (s.heap[q]).slots := Array.ext_getElem? fun i => e4 i fun hm => hz _ hm rfl
  have h9 : c9 = s.heap[q] := by
    rw [hs] at e2
    exact e2
  have e5 : U.heap[q]? = some c9 := e1
  rw [e5, h9, Array.getElem?_eq_getElem hq]
/-- the words of a throw but the four that speak of the heap -/
def vx_no (w : Cond) : Bool := decide (w ≠ .isRef (.static Bundle.tN "UNASSIGNED_STACK" Bundle.steD)) && decide (w ≠ .isRef (.static Bundle.tN "SUPPRESSED_SENTINEL" Bundle.listD)) && decide (w ≠ .laysStatic Bundle.tN "UNASSIGNED_STACK" Bundle.steD) && decide (w ≠ .laysStatic Bundle.tN "SUPPRESSED_SENTINEL" Bundle.listD)
def vx_at0 (own : String) (ic : Nat) (X : String) (names : List String) : List Cond := (Bundle.ownAtoms0 own ic X names).filter vx_no
def vx_atS (own : String) (ic : Nat) (X : String) (names : List String) : List Cond := (Bundle.ownAtoms own ic X names).filter vx_no
/-- a word that the tables alone decide, or a good one -/
def vx_ot (w : Cond) : Bool := w.onTables || goodWord w
theorem vx_ot_at {args a' : Array Value} {s U : State} {w : Cond} (hW : s.WarmedH U.vm) (hvm : s.vm = U.vm) (hg : vx_ot w = true) (h : w.before args s = true) : w.before a' U = true := by
  simp only [vx_ot, Bool.or_eq_true] at hg
  rcases hg with hg | hg
  · exact va_tabs hg hvm h
  · exact word_at hW (good_of_word hg) h
/-- a list's words: the good ones out of the method's own list, the others by premises of their own -/
theorem vx_hat {args : Array Value} {s : State} {L B : List Cond} (h1 : ∀ w ∈ L.filter goodWord, w.before args s = true) (h2 : ∀ w ∈ L.filter (fun w => !goodWord w), w ∈ B) (h3 : ∀ w ∈ B, w.before args s = true) : ∀ w ∈ L, w.before args s = true := by
  intro w hw
  by_cases g : goodWord w = true
  · exact h1 w (List.mem_filter.mpr ⟨hw, g⟩)
  · refine h3 w (h2 w (List.mem_filter.mpr ⟨hw, ?_⟩))
    show (!goodWord w) = true
    cases hgw : goodWord w
    · rfl
    · exact absurd hgw g
theorem vx_c {args : Array Value} {s : State} {w : Cond} {B : List Cond} (h : w.before args s = true) (t : ∀ w ∈ B, w.before args s = true) : ∀ w' ∈ w :: B, w'.before args s = true := fun w' h' => (List.mem_cons.mp h').elim (fun e => by rw [e]; exact h) (t w')
theorem vx_n {args : Array Value} {s : State} : ∀ w ∈ ([] : List Cond), w.before args s = true := fun _ h => nomatch h
theorem vx_own {args : Array Value} {s : State} {L : List Cond} (h1 : ∀ w ∈ L.filter vx_no, w.before args s = true)
    (hU : (Cond.isRef (.static Bundle.tN "UNASSIGNED_STACK" Bundle.steD)).before args s = true) (hN : (Cond.isRef (.static Bundle.tN "SUPPRESSED_SENTINEL" Bundle.listD)).before args s = true)
    (lU : (Cond.laysStatic Bundle.tN "UNASSIGNED_STACK" Bundle.steD).before args s = true) (lN : (Cond.laysStatic Bundle.tN "SUPPRESSED_SENTINEL" Bundle.listD).before args s = true) : ∀ w ∈ L, w.before args s = true := by
  intro w hw
  by_cases e1 : w = .isRef (.static Bundle.tN "UNASSIGNED_STACK" Bundle.steD)
  · rw [e1]; exact hU
  · by_cases e2 : w = .isRef (.static Bundle.tN "SUPPRESSED_SENTINEL" Bundle.listD)
    · rw [e2]; exact hN
    · by_cases e3 : w = .laysStatic Bundle.tN "UNASSIGNED_STACK" Bundle.steD
      · rw [e3]; exact lU
      · by_cases e4 : w = .laysStatic Bundle.tN "SUPPRESSED_SENTINEL" Bundle.listD
        · rw [e4]; exact lN
        · exact h1 w (List.mem_filter.mpr ⟨hw, by unfold vx_no; rw [decide_eq_true e1, decide_eq_true e2, decide_eq_true e3, decide_eq_true e4]; rfl⟩)
/-- where a static field lies, its class's statics cell in H -/
def vx_L (C n d : String) (A : Nat → Prop) (U : State) (H : Heap) : Prop := ∃ (c : ClassId) (k : Class) (i : Nat) (f : Field) (a : Nat) (cell : Cell), U.vm.findClass C = some c ∧ U.fieldFound? C n d = some (c, k, i, f) ∧ f.isStatic = true ∧ k.statics = some a ∧ H[a]? = some cell ∧ cell.vm.isStatics = true ∧ cell.cls = c ∧ f.slot < cell.slots.size ∧ k.staticTypes[f.slot]? = some f.type ∧ ¬ A a
theorem vx_L.moved {C n d : String} {A : Nat → Prop} {u U : State} {H : Heap} (hvm : u.vm.Alike U.vm) (h : vx_L C n d A u H) : vx_L C n d A U H := by
  obtain ⟨c, k, i, f, a, cell, h1, h2, h3, h4, h5, h6, h7, h8, h9, h10⟩ := h
  obtain ⟨k', hi', he⟩ := State.fieldFound?_setVm hvm h2
  exact ⟨c, k', i, f, a, cell, by rw [hvm.findClass]; exact h1, hi', h3, by rw [he]; exact h4, h5, h6, h7, h8, by rw [he]; exact h9, h10⟩
theorem vx_L.kept {C n d : String} {A : Nat → Prop} {U : State} {H H1 : Heap} (h : vx_L C n d A U H) (hq : ∀ a : Nat, a < H.size → ¬ A a → H1[a]? = H[a]?) : vx_L C n d A U H1 := by
  obtain ⟨c, k, i, f, a, cell, h1, h2, h3, h4, h5, h6, h7, h8, h9, h10⟩ := h
  exact ⟨c, k, i, f, a, cell, h1, h2, h3, h4, by rw [hq a (Array.getElem?_eq_some_iff.mp h5).1 h10]; exact h5, h6, h7, h8, h9, h10⟩
theorem vx_L.narrow {C n d : String} {A B : Nat → Prop} {U : State} {H : Heap} (h : vx_L C n d A U H) (hAB : ∀ q, B q → A q) : vx_L C n d B U H := by
  obtain ⟨c, k, i, f, a, cell, h1, h2, h3, h4, h5, h6, h7, h8, h9, h10⟩ := h
  exact ⟨c, k, i, f, a, cell, h1, h2, h3, h4, h5, h6, h7, h8, h9, fun z => h10 (hAB _ z)⟩
theorem vx_L.word {C n d : String} {A : Nat → Prop} {s : State} {args : Array Value} (h : vx_L C n d A s s.heap) : (Cond.laysStatic C n d).before args s = true := by
  obtain ⟨c, k, i, f, a, cell, h1, h2, h3, h4, h5, h6, h7, h8, h9, -⟩ := h
  show (Cond.laysStatic C n d).holds args s none s [] = true
  exact Cond.laysStatic_of h1 h2 h3 h4 h5 h6 h7 h8 h9
/-- .. and what it holds: null or some reference -/
def vx_Zq (C n d : String) (A : Nat → Prop) (U : State) (H : Heap) : Prop := va_Zq C n d A U H ∧ vx_L C n d A U H
theorem vx_Zq.moved {C n d : String} {A : Nat → Prop} {u U : State} {H : Heap} (hvm : u.vm.Alike U.vm) (h : vx_Zq C n d A u H) : vx_Zq C n d A U H := ⟨va_Zq.moved hvm h.1, vx_L.moved hvm h.2⟩
theorem vx_Zq.kept {C n d : String} {A : Nat → Prop} {U : State} {H H1 : Heap} (h : vx_Zq C n d A U H) (hq : ∀ a : Nat, a < H.size → ¬ A a → H1[a]? = H[a]?) : vx_Zq C n d A U H1 := ⟨va_Zq.kept h.1 hq, vx_L.kept h.2 hq⟩
theorem vx_Zq.narrow {C n d : String} {A B : Nat → Prop} {U : State} {H : Heap} (h : vx_Zq C n d A U H) (hAB : ∀ q, B q → A q) : vx_Zq C n d B U H := ⟨va_Zq.narrow h.1 hAB, vx_L.narrow h.2 hAB⟩
theorem vx_Zqof {args : Array Value} {s : State} {C n d : String} {A : Nat → Prop} (hl : (Cond.laysStatic C n d).before args s = true) (hini : (Cond.initialized C).before args s = true) (h : (Cond.isRef (.static C n d)).before args s = true) (hA : ∀ a : Nat, a < s.heap.size → ¬ A a) : vx_Zq C n d A s s.heap := by
  refine ⟨va_Zqof hl hini h hA, ?_⟩
  obtain ⟨c, k, i, f, a, cell, h1, h2, h3, h4, h5, h6, h7, h8, h9⟩ := Cond.laysStatic_spec hl
  exact ⟨c, k, i, f, a, cell, h1, h2, h3, h4, h5, h6, h7, h8, h9, hA a (Array.getElem?_eq_some_iff.mp h5).1⟩
theorem vx_isRef {C n d : String} {v : Value} {A : Nat → Prop} {s : State} {args : Array Value} (h : va_Z C n d v A s s.heap) (hv : v.isRef = true) : (Cond.isRef (.static C n d)).before args s = true := by
  obtain ⟨cf, kf, fi, f, a, cell, h1, h2, h3, h4, h5, h6, h7, -⟩ := h
  have he : (Term.static C n d).eval args s none [] s = some v := by
    simp [Term.eval, State.fieldNamed?, h1, h2, h4, h5, h6, h7]
  simp only [Cond.before, Cond.holds, Cond.value, he]
  cases v <;> simp_all [Value.isRef]
theorem vx_isRefq {C n d : String} {A : Nat → Prop} {s : State} {args : Array Value} (h : va_Zq C n d A s s.heap) : (Cond.isRef (.static C n d)).before args s = true := by
  rcases h with h | ⟨t, h⟩
  · exact vx_isRef h rfl
  · exact vx_isRef h rfl
/-- the same frame, seen from here: as if the method were called anew in this heap -/
theorem vx_rebase {T : State} (X : Stand p l e R s m args below meth c T locs cells slots) {R' : Room} (hf : R'.frames ≤ R.frames) (hl : R'.locals ≤ R.locals) (hc : cells + R'.cells ≤ R.cells) (hs : slots + R'.slots ≤ R.slots) :
    Stand p l e R' ((T.setVm s.vm).setFrames (.invoking m args :: below)) m args below meth c T [] 0 0 := by
  have htop : (T.setVm s.vm).topJava?.isSome := X.here.top
  have hF : ((T.setVm s.vm).setFrames (.invoking m args :: below)).frames = .invoking m args :: below := State.frames_setFrames _ (State.cur_lt_of_top htop)
  obtain ⟨g₀, hg0⟩ := Option.isSome_iff_exists.mp htop
  obtain ⟨r, hr⟩ := State.topJava?_eq_some.mp hg0
  have hl9 : e.platform.stackLimits (T.setVm s.vm).me = e.platform.stackLimits s.me := X.limits
  have hb9 : (T.setVm s.vm).me.stackBytes = s.me.stackBytes := X.bytes
  refine ⟨X.admits, X.cas, X.clock, hF, ?_, X.hears, X.method, X.code, X.here, X.tail, X.warmed, ?_, ?_, ?_⟩
  · have h := X.room
    have hU : ((T.setVm s.vm).setFrames (.invoking m args :: below)).localsInUse = s.localsInUse := by
      rw [State.localsInUse_invoking hF (meth := meth) (c := c) X.method X.code, State.localsInUse_invoking X.frames X.method X.code]
    simp only [State.hasRoom, Bool.and_eq_true, decide_eq_true_eq] at h ⊢
    obtain ⟨⟨⟨⟨h1, h2, h3, h4, h5, h6⟩, h7⟩, h8⟩, h9⟩ := h
    rw [X.frames, List.length_cons] at h2 h3
    have q1 := X.heapSize
    have q2 := X.used
    simp only [hF, hU, List.length_cons, State.stackLimits_setFrames, State.stackBytes_setFrames, hl9, hb9]
    refine ⟨⟨⟨⟨by omega, by omega, by omega, by omega, by omega, h6⟩, ?_⟩, ?_⟩, X.book⟩
    · show T.heap.size + R'.cells ≤ e.platform.maxCells
      omega
    · show T.slotsUsed + R'.slots ≤ e.platform.maxSlots
      omega
  · rw [State.stackLimits_setFrames]; rfl
  · rw [State.stackBytes_setFrames]; rfl
  · refine ⟨?_, Nat.le_refl _, Nat.le_refl _, ?_, ?_, fun a c9 h9 => ⟨c9, h9, rfl, rfl, fun _ _ => rfl⟩⟩
    · obtain ⟨t, ht, -⟩ := State.frames_cons hr
      show T.setVm s.vm = { ((T.setVm s.vm).setFrames (.invoking m args :: below)).setFrames (T.setVm s.vm).frames with heap := T.heap, slotsUsed := T.slotsUsed }
      rw [State.setFrames_setFrames, State.setFrames_self ht]
      rfl
    · show T.slotsUsed = T.slotsUsed + ((T.heap.toList.drop T.heap.size).map (·.slots.size)).sum
      rw [List.drop_eq_nil_of_le (Nat.le_of_eq Array.length_toList)]
      rfl
    · show ((T.heap.toList.drop T.heap.size).map (·.slots.size)).sum ≤ 0
      rw [List.drop_eq_nil_of_le (Nat.le_of_eq Array.length_toList)]
      exact Nat.le_refl _
/-- 'throw new E()': new; dup; invokespecial; athrow -/
theorem vx_throw0 {cc : ByteArray} {pc : Nat} (hexec : p.tables.exec = Jvm.exec) (hb : c.code = cc) (hl : l.stackTraces = false) {own cls : String} {names : List String} {ik ic mc ms : Nat} {A : Nat → Prop}
    (hown : s.vm.findClass own = some m.cls) (hcls : Bundle.fit cls = true) (hnames : ∀ n ∈ names, Bundle.fit n = true)
    (hk : (Cond.classLink own ik cls).before args s = true) (hini : (Cond.initialized cls).before args s = true) (hat : ∀ w ∈ vx_at0 own ic cls names, w.before args s = true)
    (hgood : ∀ w ∈ Cond.classLink own ik cls :: Cond.initialized cls :: vx_at0 own ic cls names, vx_ot w = true)
    (hU : vx_Zq Bundle.tN "UNASSIGNED_STACK" Bundle.steD A s s.heap) (hN : vx_Zq Bundle.tN "SUPPRESSED_SENTINEL" Bundle.listD A s s.heap) (hS : va_S A s.heap H locs) (hsize : ls.size = c.maxLocals)
    (d0 : decode cc pc = .ok (.new ik, 3)) (d3 : decode cc (pc + 3) = .ok (.dup, 1)) (d4 : decode cc (pc + 4) = .ok (.invokespecial ic, 3)) (d7 : decode cc (pc + 7) = .ok (.athrow, 1))
    (hout : ∀ x ∈ c.exceptionTable.toList, covers x (pc + 7) = false)
    (hRframes : names.length + 3 < R.frames) (hRlocals : (rest.map fun v => v.category).sum + (13 * (names.length + 1) + 42) ≤ R.locals) (hRcells : cells + 1 ≤ R.cells) (hRslots : slots + 6 ≤ R.slots) (hlocks : meth.locks = false)
    (hx : ∀ t : State, s.vm.Alike t.vm → H.size ≤ t.heap.size → (∀ q : Nat, q < H.size → t.heap[q]? = H[q]?) → XC cls s t)
    (hf : ∀ z ∈ locs, free z.base) (hc : cells + 1 ≤ mc) (hs : slots + 6 ≤ ms) :
    W p l e R s m args below meth c H locs cells slots (vx_MQ below Qc XC args s mc ms free) (F0 m pc ls rest) := by
  intro T hT X
  have htr : e.platform.stackTraces = false := (show e.platform.stackTraces = l.stackTraces by rw [X.admits.platform]).trans hl
  have Y := vx_rebase X (R' := { frames := R.frames, locals := R.locals, cells := 1, slots := 6 }) (Nat.le_refl _) (Nat.le_refl _) hRcells hRslots
  obtain ⟨s', hA⟩ : ∃ z, z = (T.setVm s.vm).setFrames (.invoking m args :: below) := ⟨_, rfl⟩
  rw [← hA] at Y
  have hvm : s'.vm = s.vm := by rw [hA]; rfl
  have hhp : s'.heap = H := by rw [hA]; exact hT
  have hW0 : s.WarmedH s'.vm := by rw [hvm]; exact State.WarmedH.refl s
  have hat' : ∀ w ∈ vx_at0 own ic cls names, w.before args s' = true := fun w hw => vx_ot_at hW0 hvm.symm (hgood w (List.mem_cons_of_mem _ (List.mem_cons_of_mem _ hw))) (hat w hw)
  have hk' : (Cond.classLink own ik cls).before args s' = true := vx_ot_at hW0 hvm.symm (hgood _ List.mem_cons_self) hk
  have hini' : (Cond.initialized cls).before args s' = true := vx_ot_at hW0 hvm.symm (hgood _ (List.mem_cons_of_mem _ List.mem_cons_self)) hini
  have hU' : vx_Zq Bundle.tN "UNASSIGNED_STACK" Bundle.steD A s' s'.heap := by rw [hhp]; exact vx_Zq.moved hW0.alike (hU.kept hS.2.1)
  have hN' : vx_Zq Bundle.tN "SUPPRESSED_SENTINEL" Bundle.listD A s' s'.heap := by rw [hhp]; exact vx_Zq.moved hW0.alike (hN.kept hS.2.1)
  have h : ∀ w ∈ Bundle.ownAtoms0 own ic cls names, w.before args s' = true := vx_own hat' (vx_isRefq hU'.1) (vx_isRefq hN'.1) hU'.2.word hN'.2.word
  have hown' : s'.vm.findClass own = some m.cls := by rw [hvm]; exact hown
  have hins : (Cond.instantiable cls 6).before args s' = true := h _ (by simp [Bundle.ownAtoms0])
  obtain ⟨vm₁, cX, kX, hfX, hkX, -, -, X₁, st1⟩ := Y.newCold hexec (own := own) (C := cls) (index := ik) (n := 6) hown' hk' hins hini'
    (g := F0 m pc ls rest) rfl (by rw [hb]; exact d0) (Nat.le_refl _) (Nat.le_refl _)
  generalize hT1 : (T.setVm vm₁).pushCell { cls := cX, slots := kX.instanceTypes.map defaultValue, vm := .none } = T1 at X₁ st1
  have hcat : (Value.ref T.heap.size).category = 1 := rfl
  have hcellA : T1.heap[T.heap.size]? = some (freshCell cX kX) := by rw [← hT1]; exact State.heap_pushCell_size _ _
  have d3' : decode c.code (pc + 3) = .ok (.dup, 1) := by rw [hb]; exact d3
  obtain ⟨U, hsteps, hrun, hend, hW, hsame, ce, hce, hO⟩ := X₁.ctorThrow0 hexec htr (own := own) (cls := cls) (names := names) (ic := ic) hown' hcls hnames h (fun x hx => nomatch hx) hfX hkX hcellA (by rw [hhp, hT]; exact Nat.le_refl _)
    (g := { method := m, pc := pc + 4, locals := ls, stack := .ref T.heap.size :: .ref T.heap.size :: rest, locked := none }) rfl hsize rfl rfl (rest := rest) rfl
    (by rw [hb]; exact d4) (by rw [hb]; exact d7) hout hRframes (by simp only [List.map_cons, List.sum_cons, hcat]; omega) hlocks
  obtain ⟨f1, f2⟩ := vx_frame hsame
  rw [hhp] at f1 f2
  have hWs : s.WarmedH U.vm := State.WarmedH.trans hW0 hW
  have hcl : s.vm.findClass cls = some ce.cls := by
    have h9 := hO.cls
    rw [hvm] at h9
    exact h9
  have hall : s.sameButNew ({ U with vm := s.vm } : State) locs mc ms := by
    subst hA
    obtain ⟨e1, e2⟩ := hsame
    rw [State.setFrames_setFrames] at e1
    have h2 : (T.setVm s.vm).sameButNew ({ U with vm := s.vm } : State) [] (0 + 1) (0 + 6) := ⟨e1, e2⟩
    have h3 := X.same.trans h2
    rw [List.append_nil] at h3
    exact h3.mono hc hs
  refine ⟨U, ?_, .threw T.heap.size, hrun, hend, Or.inr ⟨T.heap.size, rfl, cls, ce, locs, hx U hWs.alike f1 (fun q hq => f2 q hq (fun z hz => nomatch hz)), hce, hO.vm, hcl, hWs, hall, hf⟩⟩
  refine st1 _ ?_
  show Steps p.tables e below (T1.setTop { method := m, pc := pc + 3, locals := ls, stack := .ref T.heap.size :: rest, locked := none }) _
  jvm_step X₁.here [X₁.here.top, hexec, d3', Value.category]
  exact hsteps
/-- 'throw new E("text")': new; dup; ldc; invokespecial; athrow -/
theorem vx_throwS {cc : ByteArray} {pc : Nat} (hexec : p.tables.exec = Jvm.exec) (hb : c.code = cc) (hl : l.stackTraces = false) {own cls text : String} {names : List String} {ik is ic mc ms sa : Nat} {A : Nat → Prop}
    (hown : s.vm.findClass own = some m.cls) (hcls : Bundle.fit cls = true) (hnames : ∀ n ∈ names, Bundle.fit n = true)
    (hk : (Cond.classLink own ik cls).before args s = true) (hini : (Cond.initialized cls).before args s = true) (hstr : vk_R own is text sa s) (hat : ∀ w ∈ vx_atS own ic cls names, w.before args s = true)
    (hgood : ∀ w ∈ Cond.classLink own ik cls :: Cond.initialized cls :: vx_atS own ic cls names, vx_ot w = true)
    (hU : vx_Zq Bundle.tN "UNASSIGNED_STACK" Bundle.steD A s s.heap) (hN : vx_Zq Bundle.tN "SUPPRESSED_SENTINEL" Bundle.listD A s s.heap) (hS : va_S A s.heap H locs) (hsize : ls.size = c.maxLocals)
    (d0 : decode cc pc = .ok (.new ik, 3)) (d3 : decode cc (pc + 3) = .ok (.dup, 1)) (d4 : decode cc (pc + 4) = .ok (.ldc is, 2)) (d6 : decode cc (pc + 6) = .ok (.invokespecial ic, 3)) (d9 : decode cc (pc + 9) = .ok (.athrow, 1))
    (hout : ∀ x ∈ c.exceptionTable.toList, covers x (pc + 9) = false)
    (hRframes : names.length + 3 < R.frames) (hRlocals : (rest.map fun v => v.category).sum + (13 * (names.length + 1) + 43) ≤ R.locals) (hRcells : cells + 1 ≤ R.cells) (hRslots : slots + 6 ≤ R.slots) (hlocks : meth.locks = false)
    (hx : ∀ t : State, s.vm.Alike t.vm → H.size ≤ t.heap.size → (∀ q : Nat, q < H.size → t.heap[q]? = H[q]?) → XC cls s t)
    (hf : ∀ z ∈ locs, free z.base) (hc : cells + 1 ≤ mc) (hs : slots + 6 ≤ ms) :
    W p l e R s m args below meth c H locs cells slots (vx_MQ below Qc XC args s mc ms free) (F0 m pc ls rest) := by
  intro T hT X
  have htr : e.platform.stackTraces = false := (show e.platform.stackTraces = l.stackTraces by rw [X.admits.platform]).trans hl
  have Y := vx_rebase X (R' := { frames := R.frames, locals := R.locals, cells := 1, slots := 6 }) (Nat.le_refl _) (Nat.le_refl _) hRcells hRslots
  obtain ⟨s', hA⟩ : ∃ z, z = (T.setVm s.vm).setFrames (.invoking m args :: below) := ⟨_, rfl⟩
  rw [← hA] at Y
  have hvm : s'.vm = s.vm := by rw [hA]; rfl
  have hhp : s'.heap = H := by rw [hA]; exact hT
  have hW0 : s.WarmedH s'.vm := by rw [hvm]; exact State.WarmedH.refl s
  have hat' : ∀ w ∈ vx_atS own ic cls names, w.before args s' = true := fun w hw => vx_ot_at hW0 hvm.symm (hgood w (List.mem_cons_of_mem _ (List.mem_cons_of_mem _ hw))) (hat w hw)
  have hk' : (Cond.classLink own ik cls).before args s' = true := vx_ot_at hW0 hvm.symm (hgood _ List.mem_cons_self) hk
  have hini' : (Cond.initialized cls).before args s' = true := vx_ot_at hW0 hvm.symm (hgood _ (List.mem_cons_of_mem _ List.mem_cons_self)) hini
  have hU' : vx_Zq Bundle.tN "UNASSIGNED_STACK" Bundle.steD A s' s'.heap := by rw [hhp]; exact vx_Zq.moved hW0.alike (hU.kept hS.2.1)
  have hN' : vx_Zq Bundle.tN "SUPPRESSED_SENTINEL" Bundle.listD A s' s'.heap := by rw [hhp]; exact vx_Zq.moved hW0.alike (hN.kept hS.2.1)
  have h : ∀ w ∈ Bundle.ownAtoms own ic cls names, w.before args s' = true := vx_own hat' (vx_isRefq hU'.1) (vx_isRefq hN'.1) hU'.2.word hN'.2.word
  have hown' : s'.vm.findClass own = some m.cls := by rw [hvm]; exact hown
  have hins : (Cond.instantiable cls 6).before args s' = true := h _ (by simp [Bundle.ownAtoms])
  obtain ⟨vm₁, cX, kX, hfX, hkX, -, -, X₁, st1⟩ := Y.newCold hexec (own := own) (C := cls) (index := ik) (n := 6) hown' hk' hins hini'
    (g := F0 m pc ls rest) rfl (by rw [hb]; exact d0) (Nat.le_refl _) (Nat.le_refl _)
  generalize hT1 : (T.setVm vm₁).pushCell { cls := cX, slots := kX.instanceTypes.map defaultValue, vm := .none } = T1 at X₁ st1
  have hcat : (Value.ref T.heap.size).category = 1 := rfl
  have hcellA : T1.heap[T.heap.size]? = some (freshCell cX kX) := by rw [← hT1]; exact State.heap_pushCell_size _ _
  have d3' : decode c.code (pc + 3) = .ok (.dup, 1) := by rw [hb]; exact d3
  have d4' : decode c.code (pc + 4) = .ok (.ldc is, 2) := by rw [hb]; exact d4
  have hstr' : vk_R own is text sa s' := vk_R.warm hW0 hstr
  obtain ⟨U, hsteps, hrun, hend, hW, hsame, ce, hce, hO⟩ := X₁.ctorThrowS hexec htr (own := own) (cls := cls) (names := names) (ic := ic) hown' hcls hnames h (fun x hx => nomatch hx) hfX hkX hcellA (by rw [hhp, hT]; exact Nat.le_refl _) (msg := .ref sa) rfl
    (g := { method := m, pc := pc + 6, locals := ls, stack := .ref sa :: .ref T.heap.size :: .ref T.heap.size :: rest, locked := none }) rfl hsize rfl rfl (rest := rest) rfl
    (by rw [hb]; exact d6) (by rw [hb]; exact d9) hout hRframes (by simp only [List.map_cons, List.sum_cons, hcat]; omega) hlocks
  obtain ⟨f1, f2⟩ := vx_frame hsame
  rw [hhp] at f1 f2
  have hWs : s.WarmedH U.vm := State.WarmedH.trans hW0 hW
  have hcl : s.vm.findClass cls = some ce.cls := by
    have h9 := hO.cls
    rw [hvm] at h9
    exact h9
  have hall : s.sameButNew ({ U with vm := s.vm } : State) locs mc ms := by
    subst hA
    obtain ⟨e1, e2⟩ := hsame
    rw [State.setFrames_setFrames] at e1
    have h2 : (T.setVm s.vm).sameButNew ({ U with vm := s.vm } : State) [] (0 + 1) (0 + 6) := ⟨e1, e2⟩
    have h3 := X.same.trans h2
    rw [List.append_nil] at h3
    exact h3.mono hc hs
  refine ⟨U, ?_, .threw T.heap.size, hrun, hend, Or.inr ⟨T.heap.size, rfl, cls, ce, locs, hx U hWs.alike f1 (fun q hq => f2 q hq (fun z hz => nomatch hz)), hce, hO.vm, hcl, hWs, hall, hf⟩⟩
  refine st1 _ ?_
  show Steps p.tables e below (T1.setTop { method := m, pc := pc + 3, locals := ls, stack := .ref T.heap.size :: rest, locked := none }) _
  jvm_step X₁.here [X₁.here.top, hexec, d3', Value.category]
  exact X₁.ldcString hexec (own := own) (text := text) (index := is) (a := sa) hown' hstr'.1 hstr'.2
    (g := { method := m, pc := pc + 4, locals := ls, stack := .ref T.heap.size :: .ref T.heap.size :: rest, locked := none }) rfl d4' _ hsteps
/-- 'throw new E("text")', the text by a wide index -/
theorem vx_throwSW {cc : ByteArray} {pc : Nat} (hexec : p.tables.exec = Jvm.exec) (hb : c.code = cc) (hl : l.stackTraces = false) {own cls text : String} {names : List String} {ik is ic mc ms sa : Nat} {A : Nat → Prop}
    (hown : s.vm.findClass own = some m.cls) (hcls : Bundle.fit cls = true) (hnames : ∀ n ∈ names, Bundle.fit n = true)
    (hk : (Cond.classLink own ik cls).before args s = true) (hini : (Cond.initialized cls).before args s = true) (hstr : vk_R own is text sa s) (hat : ∀ w ∈ vx_atS own ic cls names, w.before args s = true)
    (hgood : ∀ w ∈ Cond.classLink own ik cls :: Cond.initialized cls :: vx_atS own ic cls names, vx_ot w = true)
    (hU : vx_Zq Bundle.tN "UNASSIGNED_STACK" Bundle.steD A s s.heap) (hN : vx_Zq Bundle.tN "SUPPRESSED_SENTINEL" Bundle.listD A s s.heap) (hS : va_S A s.heap H locs) (hsize : ls.size = c.maxLocals)
    (d0 : decode cc pc = .ok (.new ik, 3)) (d3 : decode cc (pc + 3) = .ok (.dup, 1)) (d4 : decode cc (pc + 4) = .ok (.ldc_w is, 3)) (d7 : decode cc (pc + 7) = .ok (.invokespecial ic, 3)) (d10 : decode cc (pc + 10) = .ok (.athrow, 1))
    (hout : ∀ x ∈ c.exceptionTable.toList, covers x (pc + 10) = false)
    (hRframes : names.length + 3 < R.frames) (hRlocals : (rest.map fun v => v.category).sum + (13 * (names.length + 1) + 43) ≤ R.locals) (hRcells : cells + 1 ≤ R.cells) (hRslots : slots + 6 ≤ R.slots) (hlocks : meth.locks = false)
    (hx : ∀ t : State, s.vm.Alike t.vm → H.size ≤ t.heap.size → (∀ q : Nat, q < H.size → t.heap[q]? = H[q]?) → XC cls s t)
    (hf : ∀ z ∈ locs, free z.base) (hc : cells + 1 ≤ mc) (hs : slots + 6 ≤ ms) :
    W p l e R s m args below meth c H locs cells slots (vx_MQ below Qc XC args s mc ms free) (F0 m pc ls rest) := by
  intro T hT X
  have htr : e.platform.stackTraces = false := (show e.platform.stackTraces = l.stackTraces by rw [X.admits.platform]).trans hl
  have Y := vx_rebase X (R' := { frames := R.frames, locals := R.locals, cells := 1, slots := 6 }) (Nat.le_refl _) (Nat.le_refl _) hRcells hRslots
  obtain ⟨s', hA⟩ : ∃ z, z = (T.setVm s.vm).setFrames (.invoking m args :: below) := ⟨_, rfl⟩
  rw [← hA] at Y
  have hvm : s'.vm = s.vm := by rw [hA]; rfl
  have hhp : s'.heap = H := by rw [hA]; exact hT
  have hW0 : s.WarmedH s'.vm := by rw [hvm]; exact State.WarmedH.refl s
  have hat' : ∀ w ∈ vx_atS own ic cls names, w.before args s' = true := fun w hw => vx_ot_at hW0 hvm.symm (hgood w (List.mem_cons_of_mem _ (List.mem_cons_of_mem _ hw))) (hat w hw)
  have hk' : (Cond.classLink own ik cls).before args s' = true := vx_ot_at hW0 hvm.symm (hgood _ List.mem_cons_self) hk
  have hini' : (Cond.initialized cls).before args s' = true := vx_ot_at hW0 hvm.symm (hgood _ (List.mem_cons_of_mem _ List.mem_cons_self)) hini
  have hU' : vx_Zq Bundle.tN "UNASSIGNED_STACK" Bundle.steD A s' s'.heap := by rw [hhp]; exact vx_Zq.moved hW0.alike (hU.kept hS.2.1)
  have hN' : vx_Zq Bundle.tN "SUPPRESSED_SENTINEL" Bundle.listD A s' s'.heap := by rw [hhp]; exact vx_Zq.moved hW0.alike (hN.kept hS.2.1)
  have h : ∀ w ∈ Bundle.ownAtoms own ic cls names, w.before args s' = true := vx_own hat' (vx_isRefq hU'.1) (vx_isRefq hN'.1) hU'.2.word hN'.2.word
  have hown' : s'.vm.findClass own = some m.cls := by rw [hvm]; exact hown
  have hins : (Cond.instantiable cls 6).before args s' = true := h _ (by simp [Bundle.ownAtoms])
  obtain ⟨vm₁, cX, kX, hfX, hkX, -, -, X₁, st1⟩ := Y.newCold hexec (own := own) (C := cls) (index := ik) (n := 6) hown' hk' hins hini'
    (g := F0 m pc ls rest) rfl (by rw [hb]; exact d0) (Nat.le_refl _) (Nat.le_refl _)
  generalize hT1 : (T.setVm vm₁).pushCell { cls := cX, slots := kX.instanceTypes.map defaultValue, vm := .none } = T1 at X₁ st1
  have hcat : (Value.ref T.heap.size).category = 1 := rfl
  have hcellA : T1.heap[T.heap.size]? = some (freshCell cX kX) := by rw [← hT1]; exact State.heap_pushCell_size _ _
  have d3' : decode c.code (pc + 3) = .ok (.dup, 1) := by rw [hb]; exact d3
  have d4' : decode c.code (pc + 4) = .ok (.ldc_w is, 3) := by rw [hb]; exact d4
  have hstr' : vk_R own is text sa s' := vk_R.warm hW0 hstr
  obtain ⟨U, hsteps, hrun, hend, hW, hsame, ce, hce, hO⟩ := X₁.ctorThrowS hexec htr (own := own) (cls := cls) (names := names) (ic := ic) hown' hcls hnames h (fun x hx => nomatch hx) hfX hkX hcellA (by rw [hhp, hT]; exact Nat.le_refl _) (msg := .ref sa) rfl
    (g := { method := m, pc := pc + 7, locals := ls, stack := .ref sa :: .ref T.heap.size :: .ref T.heap.size :: rest, locked := none }) rfl hsize rfl rfl (rest := rest) rfl
    (by rw [hb]; exact d7) (by rw [hb]; exact d10) hout hRframes (by simp only [List.map_cons, List.sum_cons, hcat]; omega) hlocks
  obtain ⟨f1, f2⟩ := vx_frame hsame
  rw [hhp] at f1 f2
  have hWs : s.WarmedH U.vm := State.WarmedH.trans hW0 hW
  have hcl : s.vm.findClass cls = some ce.cls := by
    have h9 := hO.cls
    rw [hvm] at h9
    exact h9
  have hall : s.sameButNew ({ U with vm := s.vm } : State) locs mc ms := by
    subst hA
    obtain ⟨e1, e2⟩ := hsame
    rw [State.setFrames_setFrames] at e1
    have h2 : (T.setVm s.vm).sameButNew ({ U with vm := s.vm } : State) [] (0 + 1) (0 + 6) := ⟨e1, e2⟩
    have h3 := X.same.trans h2
    rw [List.append_nil] at h3
    exact h3.mono hc hs
  refine ⟨U, ?_, .threw T.heap.size, hrun, hend, Or.inr ⟨T.heap.size, rfl, cls, ce, locs, hx U hWs.alike f1 (fun q hq => f2 q hq (fun z hz => nomatch hz)), hce, hO.vm, hcl, hWs, hall, hf⟩⟩
  refine st1 _ ?_
  show Steps p.tables e below (T1.setTop { method := m, pc := pc + 3, locals := ls, stack := .ref T.heap.size :: rest, locked := none }) _
  jvm_step X₁.here [X₁.here.top, hexec, d3', Value.category]
  exact X₁.ldcStringW hexec (own := own) (text := text) (index := is) (a := sa) hown' hstr'.1 hstr'.2
    (g := { method := m, pc := pc + 4, locals := ls, stack := .ref T.heap.size :: .ref T.heap.size :: rest, locked := none }) rfl d4' _ hsteps
end Ends
section Bodies
variable {l : Launch}
theorem vx_ofW {y : MethodName} {ws ws' : List Cond} {rm : Room} {Pc : Array Value → State → Prop} {Qc : Array Value → State → Outcome → State → Prop} {XC : String → State → State → Prop} {mc ms : Nat} {free : Addr → Prop} {cc : ByteArray} {maxL : Nat} {ret : Option FieldType}
    (hy : plainName y.cls = true) (hw : ws = Cond.code y cc maxL ret :: ws')
    (body : ∀ p e s m args below meth c s₁, BodyLoose p l y (headSpec ws rm) cc maxL ret e s m args below meth c s₁ → c.maxLocals = maxL → (∀ x ∈ c.exceptionTable.toList, False) → Pc args s →
      W p l e (headSpec ws rm).room s m args below meth c s.heap [] 0 0 (vx_MQ below Qc XC args s mc ms free) (entryFrame m args maxL)) : vx_Met l y ws rm Pc Qc XC mc ms free := by
  refine MetFree.of_bodyS (code := cc) (maxLocals := maxL) (ret := ret) hy ?_ ?_
  · intro args s m h hn
    obtain ⟨meth, c, h1, h2, h3, h4, h5, h6, -, -⟩ := Cond.code_spec hn (atoms_spec (ws := ws) h _ (by rw [hw]; exact List.mem_cons_self))
    exact ⟨meth, c, h1, h2, h3, h4, h5, h6⟩
  · intro p e s m args below meth c s₁ B hml hP _
    have hh0 : s₁.heap = s.heap := by rw [B.state]; rfl
    have ht : ∀ x ∈ c.exceptionTable.toList, False := by
      obtain ⟨meth9, c9, h1, h2, -, -, -, -, h7, -⟩ := Cond.code_spec B.named (atoms_spec (ws := ws) B.pre _ (by rw [hw]; exact List.mem_cons_self))
      cases Option.some.inj (h1.symm.trans B.method)
      cases Option.some.inj (h2.symm.trans (Stand.of_body B).code)
      intro x hx
      rw [Array.isEmpty_iff.mp h7] at hx
      cases hx
    obtain ⟨t, a1, o, b1, b2, b3⟩ := body p e s m args below meth c s₁ B hml ht hP s₁ hh0 (Stand.of_body B)
    exact ⟨t, o, a1, b1, b2, b3⟩
/-- the table of a body with handlers -/
theorem vx_table {p : Program} {x y : MethodName} {S : Spec} {cc bytes : ByteArray} {maxL maxL' : Nat} {ret ret' : Option FieldType} {e : Env} {s s₁ : State} {m : MethodId} {args : Array Value} {below : List Frame} {meth : Method} {c : Code} {hh : List (Nat × Nat × Nat × Nat)}
    (B : BodyLoose p l y S cc maxL ret e s m args below meth c s₁) (h : (Cond.codeWith y bytes maxL' ret' hh).before args s = true) : c.exceptionTable.toList = tableOf hh := by
  obtain ⟨m9, meth9, c9, hn9, h1, h2, -, -, h6, -⟩ := Cond.codeWith_spec h
  cases Option.some.inj (hn9.symm.trans B.named)
  cases Option.some.inj (h1.symm.trans B.method)
  cases Option.some.inj (h2.symm.trans (Stand.of_body B).code)
  rw [← h6, table_eq]
end Bodies
end VXA
/-! ===== END ===== -/
/-! ===== BEGIN a static call of a method with an exception table ===== -/
section VXS
variable {p : Program} {l : Launch} {e : Env} {R : Room} {s : State} {m : MethodId} {args : Array Value} {below : List Frame} {meth : Method} {c : Code} {T : State} {H : Heap} {locs : List Loc} {cells slots : Nat}
abbrev vx_CSW (R : Room) (s : State) (args : Array Value) (own : String) (index : Nat) (y : MethodName) (bytes : ByteArray) (maxL : Nat) (ret : Option FieldType) (hh : List (Nat × Nat × Nat × Nat)) (ws : List Cond) (rm : Room) (mc ms n : Nat) : Prop :=
  (rm.cells = mc ∧ rm.slots = ms ∧ rm.frames + 1 ≤ R.frames ∧ 8 + (maxL + 11) + rm.locals ≤ R.locals ∧ (∀ w ∈ ws, ∀ (a' : Array Value) (U : State), s.WarmedH U.vm → w.before a' U = true) ∧ Cond.codeWith y bytes maxL ret hh ∈ ws) ∧
  (Cond.codeWith y bytes maxL ret hh).before args s = true ∧ (Cond.initialized y.cls).before args s = true ∧ (y.cls ≠ "java/lang/invoke/MethodHandle" ∧ y.cls ≠ "java/lang/invoke/VarHandle") ∧
  (∀ sig, parseMethodDescriptor y.desc = some sig → n = sig.parameters.length) ∧ (Cond.methodLink own index y).before args s = true ∧ (Cond.static y).before args s = true
theorem vx_cwSW {own : String} {index maxL mc ms : Nat} {y : MethodName} {bytes : ByteArray} {ret : Option FieldType} {hh : List (Nat × Nat × Nat × Nat)} {Ts ws ws' : List Cond} {rm : Room} (n : Nat) (ht : ∀ w ∈ Ts, w.before args s = true) (hT : GoodIn Ts (va_wsS own index y ws)) (hw : ws = Cond.codeWith y bytes maxL ret hh :: ws') (hrc : rm.cells = mc) (hrs : rm.slots = ms)
    (hd : y.cls ≠ "java/lang/invoke/MethodHandle" ∧ y.cls ≠ "java/lang/invoke/VarHandle" ∧ (parseMethodDescriptor y.desc).map (fun d => d.parameters.length) = some n) (hR : rm.frames + 1 ≤ R.frames ∧ 8 + (maxL + 11) + rm.locals ≤ R.locals) :
    vx_CSW R s args own index y bytes maxL ret hh ws rm mc ms n := by
  have ok : ∀ w ∈ va_wsS own index y ws, w.before args s = true := fun w h => ht w (hT w h).1
  have hG : GoodIn Ts ws := fun w h => hT w (by unfold va_wsS; exact List.mem_append_right _ h)
  have hc : Cond.codeWith y bytes maxL ret hh ∈ ws := by rw [hw]; exact List.mem_cons_self
  refine ⟨⟨hrc, hrs, hR.1, hR.2, pay_in ht hG, hc⟩, ht _ (hG _ hc).1, ok _ (by simp [va_wsS]), ⟨hd.1, hd.2.1⟩, fun sig h => ?_, ok _ (by simp [va_wsS]), ok _ (by simp [va_wsS])⟩
  have h2 := hd.2.2
  rw [h] at h2
  exact (Option.some.inj h2).symm
theorem vx_callSW (X : Stand p l e R s m args below meth c T locs cells slots) (hexec : p.tables.exec = Jvm.exec) {own : String} {index : Nat} {y : MethodName} {bytes : ByteArray} {maxL : Nat} {ret : Option FieldType} {hh : List (Nat × Nat × Nat × Nat)}
    (hown : s.vm.findClass own = some m.cls) (hlink : (Cond.methodLink own index y).before args s = true) (hstat : (Cond.static y).before args s = true) (hinit : (Cond.initialized y.cls).before args s = true)
    (hcode : (Cond.codeWith y bytes maxL ret hh).before args s = true) (hy : y.cls ≠ "java/lang/invoke/MethodHandle" ∧ y.cls ≠ "java/lang/invoke/VarHandle")
    {W9 : Nat} {Pre : Pt → Array Value → Prop} {Post : Pt → Array Value → Option Value → Pt → Prop} (hK : Back l R p e below s args y 3 W9 Pre Post)
    {g : JFrame} (hg : g.method = m) (hsize : g.locals.size = c.maxLocals) {argsL rest : List Value} (hlen : ∀ sig, parseMethodDescriptor y.desc = some sig → argsL.length = sig.parameters.length)
    (hstack : g.stack = argsL.reverse ++ rest) (hW : 2 * g.monitorRoom + (rest.map fun v => v.category).sum ≤ W9) (hdg : decode c.code g.pc = .ok (.invokestatic index, 3))
    (hpre : ∀ vm₁, s.WarmedH vm₁ → Pre ⟨T.setVm vm₁, locs, cells, slots⟩ argsL.toArray) :
    ∃ (v : Option Value) (vm₁ : Vm) (B : Pt), s.WarmedH vm₁ ∧ Stand p l e R s m args below meth c B.U B.locs B.cells B.slots ∧ Post ⟨T.setVm vm₁, locs, cells, slots⟩ argsL.toArray v B ∧
      ∀ target, Steps p.tables e below (B.U.setTop { g with pc := g.pc + 3, stack := v.toList ++ rest }) target → Steps p.tables e below (T.setTop g) target := by
  obtain ⟨mk, methM, cM, hnamed, hmethM, -, -, -, -, -, -, hsigM⟩ := Cond.codeWith_spec hcode
  have hstatic : methM.isStatic = true := Cond.static_spec hnamed hmethM hstat
  obtain ⟨kP, hkP, -⟩ := className_of_methodNamed hnamed
  have hinitP : kP.init = .initialized := Cond.initialized_spec (findClass_of_methodNamed hnamed) hkP hinit
  obtain ⟨vm₁, X₁, hstep₁⟩ := X.invokestatic hexec hown hlink hnamed hmethM hstatic hkP hinitP hy (g := g) hg (argsL := argsL) (rest := rest) (hlen _ hsigM) hstack hdg
  obtain ⟨v, B, X', hpost, hsteps⟩ := hK m meth c ⟨T.setVm vm₁, locs, cells, slots⟩ { g with stack := rest } (.invokestatic index) mk argsL.toArray X₁ hg hsize hdg hW (X₁.named hnamed) (hpre vm₁ X₁.warmed)
  exact ⟨v, vm₁, B, X₁.warmed, X', hpost, fun target h => hstep₁ _ fun acts => by rw [doInvoke_state]; exact hsteps.trans h⟩
theorem vx_runSW {y : MethodName} {bytes cc : ByteArray} {maxL nL mc ms n index : Nat} {ret : Option FieldType} {hh : List (Nat × Nat × Nat × Nat)} {ws : List Cond} {rm : Room} {Pc : Array Value → State → Prop} {Qc : Array Value → State → Outcome → State → Prop} {free : Addr → Prop} {Ts : List Cond} {own : String} {As rest : List Value} {g : JFrame}
    (S : CallFix p m c cc nL s args Ts own) (hM : Met l y ws rm Pc Qc mc ms free) (cw : vx_CSW R s args own index y bytes maxL ret hh ws rm mc ms n) (hp : PreS s H Pc As)
    (hg : g.method = m) (hn : As.length = n) (hsize : g.locals.size = nL) (hstack : g.stack = As.reverse ++ rest) (hW : 2 * g.monitorRoom + (rest.map fun v => v.category).sum ≤ 8) (hdg : decode cc g.pc = .ok (.invokestatic index, 3)) (hf : cells + mc ≤ R.cells ∧ slots + ms ≤ R.slots) :
    va_Run p l e R s m args below meth c H locs cells slots mc ms g rest (Qc As.toArray) (free) := by
  obtain ⟨⟨hrc, hrs, hfr, hlo, hws, hcw⟩, hcode, hini, hy, hlen, hl, hstt⟩ := cw
  have hK : Back l R p e below s args y 3 8 (PreOf R mc ms Pc) (PostOf Qc mc ms free) := va_backW (hh := hh) (bytes := bytes) (maxL := maxL) (ret := ret) hM hp.1 hrc hrs hfr hlo hws hcw (fun a' U hW => word_at hW (Or.inl (by first | rfl | simp [Cond.onTables, Cond.keeps, Cond.steady])) hini)
  obtain ⟨hx, hb, hml, ho, -⟩ := S
  intro T hT X
  obtain ⟨v, vm₁, ⟨U', l2, c2, s2⟩, hW₁, X', ⟨g', mk, t, L, e1, e2, hq, h1, hL, h2, h3⟩, st⟩ := vx_callSW X hx (hh := hh) (bytes := bytes) (maxL := maxL) (ret := ret) ho hl hstt hini hcode hy hK hg (hsize.trans hml.symm) (argsL := As) (rest := rest) (fun sig h => hn.trans (hlen sig h)) hstack hW (by rw [hb]; exact hdg)
    (fun vm₁ hW₁ => ⟨hf.1, hf.2, hp.2 (T.setVm vm₁) hT hW₁⟩)
  dsimp only [Pt.U, Pt.locs, Pt.cells, Pt.slots] at X' e1 e2 h1 h2 h3 st
  subst h1; subst h2; subst h3
  exact ⟨v, (T.setVm vm₁).calling g' mk As.toArray, t, U', L, hT, X', hL, e1, e2, hq, st⟩
/-- not caught here, past rows that name other classes: it goes on to the caller -/
theorem vx_outP {p : Program} {l : Launch} {e : Env} {R : Room} {s : State} {m : MethodId} {args : Array Value} {below : List Frame} {meth : Method} {c : Code} {H : Heap} {locs : List Loc} {cells slots : Nat} {free : Addr → Prop} {ls : Array Slot} {rest : List Value} {Qc : Array Value → State → Outcome → State → Prop} {XC : String → State → State → Prop}
    {pc : Nat} {own E : String} {ce : Cell} {q : Addr} {mc ms : Nat} (hown : s.vm.findClass own = some m.cls) (hlocks : meth.locks = false)
    (hpass : ∀ z ∈ c.exceptionTable.toList, covers z pc = false ∨ (z.catchType ≠ 0 ∧ ∃ nm : String, (Cond.classLink own z.catchType nm).before args s = true ∧ va_Nc E nm s)) (hcell : H[q]? = some ce) (hv : ce.vm = .none) (hcl : s.vm.findClass E = some ce.cls)
    (hx : ∀ t : State, t.heap = H → s.vm.Alike t.vm → XC E s t) (hf : ∀ z ∈ locs, free z.base) (hc : cells ≤ mc) (hs : slots ≤ ms) :
    vx_W p l e R s m args below meth c H locs cells slots (vx_MQ below Qc XC args s mc ms free) (F0 m pc ls rest) q := by
  intro T hT X
  have hpl : e.platform.magicAccessors = ({} : Platform).magicAccessors := by rw [X.admits.platform]
  obtain ⟨vm', hW', X', st⟩ := X.outThrough hlocks q (g := F0 m pc ls rest) rfl rfl rfl (cell := ce) (by rw [hT]; exact hcell) (by rw [hv]; rfl)
    (by obtain ⟨k9, h9, -⟩ := Vm.findClass_spec hcl; exact ⟨k9, h9⟩) (fun z hz => by
      rcases hpass z hz with h | ⟨hz0, nm, hl1, hn1⟩
      · exact Or.inl h
      · obtain ⟨c6, hc6, hcl6⟩ := Cond.classLink_spec hown hl1 e.platform hpl
        obtain ⟨a8, b8, h1, h2, h3⟩ := hn1
        cases Option.some.inj (h1.symm.trans hcl)
        cases Option.some.inj (h2.symm.trans hc6)
        exact Or.inr ⟨hz0, _, hcl6, h3⟩)
  obtain ⟨g₀, hfr⟩ := X'.frames_eq
  have hcell9 : ((T.setVm vm').setFrames (.throwing q :: below)).heap[q]? = some ce := by
    show T.heap[q]? = some ce
    rw [hT]; exact hcell
  have hend : Ended ((T.setVm vm').setFrames (.throwing q :: below)) below (.threw q) := State.frames_setFrames _ (State.cur_lt_of_frames hfr)
  refine ⟨(T.setVm vm').setFrames (.throwing q :: below), ?_, .threw q, X'.here.running, hend, Or.inr ⟨q, rfl, E, ce, locs, hx _ hT (X'.ends _).1.alike, hcell9, hv, hcl, (X'.ends _).1, (X'.ends _).2.mono hc hs, hf⟩⟩
  rw [X.pushThrowing_eq]
  exact st
/-- a thing of a world lies in the heap -/
theorem vx_lt {D : va_G} {cl : List vw_C} {ws : va_W} {H1 : Heap} (h : va_P D cl ws H1) {k : Nat} {q : Nat × va_E} (hk : ws[k]? = some q) : q.1 < H1.size := (h k q hk).lt
end VXS
/-! ===== END ===== -/
/-! ===== BEGIN methods with a table of their own: called by a name, returning or throwing ===== -/
section VXH
/-! vx_backW, vx_callVX, vx_callSX, vx_callVW, vx_runVW, vx_runVX, vx_runSX, vx_ofWH follow the same proofs as their sisters above (Free/Laws.lean, Shelf42/LK1.lean); vx_outP calls Shelf42/NT130.lean (outThrough). -/
section
variable {l : Launch} {R : Room} {p : Program} {e : Env} {below : List Frame} {s : State} {sargs : Array Value} {y : MethodName} {len W9 : Nat}
theorem vx_backW {ws : List Cond} {rm : Room} {Pc : Array Value → State → Prop} {Qc : Array Value → State → Outcome → State → Prop} {XC : String → State → State → Prop} {mc ms : Nat} {free : Addr → Prop} {bytes : ByteArray} {maxL : Nat} {ret : Option FieldType} {hh : List (Nat × Nat × Nat × Nat)}
    (hM : vx_Met l y ws rm Pc Qc XC mc ms free) (hblind : FrameBlind Pc) (hrc : rm.cells = mc) (hrs : rm.slots = ms)
    (hframes : rm.frames + 1 ≤ R.frames) (hlocals : W9 + (maxL + 11) + rm.locals ≤ R.locals)
    (hws : ∀ w ∈ ws, ∀ a' U, s.WarmedH U.vm → w.before a' U = true) (hcode : Cond.codeWith y bytes maxL ret hh ∈ ws) (hinit : ∀ a' U, s.WarmedH U.vm → (Cond.initialized y.cls).before a' U = true) :
    vx_Back l R p e below s sargs y len W9 (PreOf R mc ms Pc) (PostOf Qc mc ms free) (vx_Post XC mc ms free) := by
  intro m meth c A g ig mk a X hg hsize hdg hW hn hp
  have h1 : (headSpec ws rm).pre.before a A.U = true := atoms_intro fun w hw => hws w hw _ _ X.warmed
  have h2 : (Cond.codeWith y bytes maxL ret hh).before a A.U = true := hws _ hcode _ _ X.warmed
  have h3 : (Cond.initialized y.cls).before a A.U = true := hinit _ _ X.warmed
  have h4 : A.cells + (headSpec ws rm).room.cells ≤ R.cells := by rw [show (headSpec ws rm).room.cells = mc from hrc]; exact hp.1
  have h5 : A.slots + (headSpec ws rm).room.slots ≤ R.slots := by rw [show (headSpec ws rm).room.slots = ms from hrs]; exact hp.2.1
  have hPc : Pc a (A.U.calling g mk a) := hblind _ _ _ _ hp.2.2
  obtain ⟨U, Ls, c0, s0⟩ := A
  dsimp only [Pt.U, Pt.locs, Pt.cells, Pt.slots] at h1 h2 h3 h4 h5 X hn hPc ⊢
  obtain ⟨m9, methY, cY, hn9, hmY, hcY, -, hlY, -⟩ := Cond.codeWith_spec h2
  cases Option.some.inj (hn9.symm.trans hn)
  obtain ⟨kY, hkY, -⟩ := className_of_methodNamed hn
  have hinitY : kY.init = .initialized := Cond.initialized_spec (findClass_of_methodNamed hn) hkY h3
  have h : At U g.method c below := by rw [hg]; exact X.here
  have hlocals9 : W9 + (maxL + 11) + (headSpec ws rm).room.locals ≤ R.locals := hlocals
  have happ : (headSpec ws rm).appliesLoose y e.platform (U.calling g mk a) = true :=
    Spec.appliesLoose_calling (g := g) h hdg hn hkY hinitY
      (X.room_calling (g := g) (R' := (headSpec ws rm).room) hsize hmY hcY hframes (by rw [hlY]; omega) h4 h5) h1
  obtain ⟨mid, hmid⟩ := h.above
  have hfr : (U.setTop g).frames = (.java g :: mid) ++ below := by rw [State.frames_setTop' g h.top, hmid]; rfl
  obtain ⟨o, s₂, hsteps, -, hend, hq⟩ := Steps.callFree hM p X.admits X.cas X.clock (acts := []) hfr happ hPc trivial
  have hq' : vx_Q Qc XC mc ms free a (U.calling g mk a) o s₂ := hq
  rw [State.frames_setTop' g h.top] at hend
  obtain ⟨g₀, hg0⟩ := Option.isSome_iff_exists.mp h.top
  obtain ⟨r, hr⟩ := State.topJava?_eq_some.mp hg0
  have hr' : (({ U with heap := s₂.heap, slotsUsed := s₂.slotsUsed } : State).setVm s₂.vm).frames = .java g₀ :: r := hr
  rcases hq' with ⟨hqc, L, hfe, hL⟩ | ⟨q, rfl, E, ce, L, hx, hce, hcv, hcl, hW₂, hsm, hL⟩
  · obtain ⟨⟨v, rfl⟩, hW₂, e2, q2, q3, q4, q5, q6⟩ := id hfe
    have e3 : s₂ = ({ (U.calling g mk a).setFrames s₂.frames with heap := s₂.heap, slotsUsed := s₂.slotsUsed } : State).setVm s₂.vm := by
      have : s₂ = ({ s₂ with vm := (U.calling g mk a).vm } : State).setVm s₂.vm := rfl
      rw [e2] at this
      exact this
    obtain ⟨c₂, i₂, len₂, hc₂, hd₂, hf₂⟩ := hend
    have hW' : U.WarmedH s₂.vm := hW₂
    have hcc : c₂ = c := by
      have h1 : s₂.code? g.method = U.code? g.method := by
        rw [State.code?_eq, State.code?_eq, hW'.alike.method?]
      exact Option.some.inj (hc₂.symm.trans (h1.trans h.code))
    subst hcc
    have hlen : len₂ = len := by rw [hdg] at hd₂; cases hd₂; rfl
    subst hlen
    have hs₂ : s₂ = (({ U with heap := s₂.heap, slotsUsed := s₂.slotsUsed } : State).setVm s₂.vm).setTop { g with pc := g.pc + len₂, stack := v.toList ++ g.stack } := by
      refine e3.trans ?_
      rw [hf₂, State.calling_eq h.top, State.setFrames_setFrames, State.setTop_of_frames _ hr', hr]
      rfl
    have hsame : U.sameButNew ({ U with heap := s₂.heap, slotsUsed := s₂.slotsUsed } : State) L mc ms := by
      refine ⟨?_, q2, q3, q4, q5, q6⟩
      obtain ⟨t, ht, -⟩ := State.frames_cons hr
      show ({ U with heap := s₂.heap, slotsUsed := s₂.slotsUsed } : State) = { U.setFrames U.frames with heap := s₂.heap, slotsUsed := s₂.slotsUsed }
      rw [State.setFrames_self ht]
    subst hg
    refine Or.inl ⟨v, ⟨(({ U with heap := s₂.heap, slotsUsed := s₂.slotsUsed } : State).setVm s₂.vm), Ls ++ L, c0 + mc, s0 + ms⟩,
      ⟨X.admits, X.cas, X.clock, X.frames, X.room, X.hears, X.method, X.code, (X.here.setHeapUsed s₂.heap s₂.slotsUsed).setVm hW'.alike, X.tail, State.WarmedH.trans X.warmed hW', X.limits, X.bytes, X.same.trans (hsame.setVm s.vm)⟩,
      ⟨g, mk, s₂, L, rfl, rfl, hqc, rfl, hL, rfl, rfl⟩, ?_⟩
    show Steps p.tables e below _ ((({ U with heap := s₂.heap, slotsUsed := s₂.slotsUsed } : State).setVm s₂.vm).setTop { g with pc := g.pc + len₂, stack := v.toList ++ g.stack })
    rw [← hs₂]
    exact hsteps
  · obtain ⟨e2, q2, q3, q4, q5, q6⟩ := id hsm
    have e3 : s₂ = ({ (U.calling g mk a).setFrames s₂.frames with heap := s₂.heap, slotsUsed := s₂.slotsUsed } : State).setVm s₂.vm := by
      have : s₂ = ({ s₂ with vm := (U.calling g mk a).vm } : State).setVm s₂.vm := rfl
      rw [e2] at this
      exact this
    have hf₂ : s₂.frames = .throwing q :: .java g :: U.frames.tail := hend
    have hW' : U.WarmedH s₂.vm := hW₂
    have hs₂ : s₂ = ((({ U with heap := s₂.heap, slotsUsed := s₂.slotsUsed } : State).setVm s₂.vm).setTop g).pushFrame (.throwing q) := by
      refine e3.trans ?_
      rw [hf₂, State.calling_eq h.top, State.setFrames_setFrames, State.pushFrame, State.frames_setTop _ hr', State.setTop_of_frames _ hr', State.setFrames_setFrames, hr]
      rfl
    have hsame : U.sameButNew ({ U with heap := s₂.heap, slotsUsed := s₂.slotsUsed } : State) L mc ms := by
      refine ⟨?_, q2, q3, q4, q5, q6⟩
      obtain ⟨t, ht, -⟩ := State.frames_cons hr
      show ({ U with heap := s₂.heap, slotsUsed := s₂.slotsUsed } : State) = { U.setFrames U.frames with heap := s₂.heap, slotsUsed := s₂.slotsUsed }
      rw [State.setFrames_self ht]
    subst hg
    refine Or.inr ⟨q, ⟨(({ U with heap := s₂.heap, slotsUsed := s₂.slotsUsed } : State).setVm s₂.vm), Ls ++ L, c0 + mc, s0 + ms⟩,
      ⟨X.admits, X.cas, X.clock, X.frames, X.room, X.hears, X.method, X.code, (X.here.setHeapUsed s₂.heap s₂.slotsUsed).setVm hW'.alike, X.tail, State.WarmedH.trans X.warmed hW', X.limits, X.bytes, X.same.trans (hsame.setVm s.vm)⟩,
      ⟨g, mk, s₂, L, E, ce, rfl, rfl, hx, hce, hcv, hcl, rfl, hL, rfl, rfl⟩, ?_⟩
    show Steps p.tables e below _ (((({ U with heap := s₂.heap, slotsUsed := s₂.slotsUsed } : State).setVm s₂.vm).setTop g).pushFrame (.throwing q))
    rw [← hs₂]
    exact hsteps
end
variable {p : Program} {l : Launch} {e : Env} {R : Room} {s : State} {m : MethodId} {args : Array Value} {below : List Frame} {meth : Method} {c : Code} {T : State} {H : Heap} {locs : List Loc} {cells slots : Nat}
theorem vx_callVX (X : Stand p l e R s m args below meth c T locs cells slots) (hexec : p.tables.exec = Jvm.exec) {own C : String} {index : Nat} {y : MethodName} {bytes : ByteArray} {maxL : Nat} {ret : Option FieldType} {hh : List (Nat × Nat × Nat × Nat)}
    (hown : s.vm.findClass own = some m.cls) (hlink : (Cond.methodLink own index y).before args s = true) (hinst : (Cond.instanceMethod y).before args s = true) (hsel : (Cond.selects C y y).before args s = true)
    (hcode : (Cond.codeWith y bytes maxL ret hh).before args s = true) (hy : y.cls ≠ "java/lang/invoke/MethodHandle" ∧ y.cls ≠ "java/lang/invoke/VarHandle")
    {W9 : Nat} {Pre : Pt → Array Value → Prop} {Post : Pt → Array Value → Option Value → Pt → Prop} {PostX : Pt → Array Value → Addr → Pt → Prop} (hK : vx_Back l R p e below s args y 3 W9 Pre Post PostX)
    {b : Addr} {cellB : Cell} (hcell : T.heap[b]? = some cellB) (hobj : cellB.vm.isStatics = false) (hcls : s.vm.findClass C = some cellB.cls)
    {g : JFrame} (hg : g.method = m) (hsize : g.locals.size = c.maxLocals) {argsL rest : List Value} (hlen : ∀ sig, parseMethodDescriptor y.desc = some sig → argsL.length = sig.parameters.length)
    (hstack : g.stack = argsL.reverse ++ .ref b :: rest) (hW : 2 * g.monitorRoom + (rest.map fun v => v.category).sum ≤ W9) (hdg : decode c.code g.pc = .ok (.invokevirtual index, 3))
    (hpre : ∀ vm₁, s.WarmedH vm₁ → Pre ⟨T.setVm vm₁, locs, cells, slots⟩ (Value.ref b :: argsL).toArray) :
    (∃ (v : Option Value) (vm₁ : Vm) (B : Pt), s.WarmedH vm₁ ∧ Stand p l e R s m args below meth c B.U B.locs B.cells B.slots ∧ Post ⟨T.setVm vm₁, locs, cells, slots⟩ (Value.ref b :: argsL).toArray v B ∧
      ∀ target, Steps p.tables e below (B.U.setTop { g with pc := g.pc + 3, stack := v.toList ++ rest }) target → Steps p.tables e below (T.setTop g) target) ∨
    (∃ (q : Addr) (vm₁ : Vm) (B : Pt), s.WarmedH vm₁ ∧ Stand p l e R s m args below meth c B.U B.locs B.cells B.slots ∧ PostX ⟨T.setVm vm₁, locs, cells, slots⟩ (Value.ref b :: argsL).toArray q B ∧
      Steps p.tables e below (T.setTop g) ((B.U.setTop { g with stack := rest }).pushFrame (.throwing q))) := by
  obtain ⟨mk, methM, hnamed, hmethM, hstM, habM⟩ := Cond.instanceMethod_spec hinst
  obtain ⟨m8, methM', cM, hn8, hmethM', -, -, -, -, -, -, hsigM⟩ := Cond.codeWith_spec hcode
  cases Option.some.inj (hn8.symm.trans hnamed)
  cases hmethM.symm.trans hmethM'
  obtain ⟨c2, r2, m2, q1, q2, q3, q4, kP, hkP, hkPi⟩ := Cond.selects_spec hsel
  cases hcls.symm.trans q1
  cases (State.methodFound?_of_named hnamed hy).symm.trans q2
  cases hnamed.symm.trans q3
  have hselP : selectMethod e.platform s.vm cellB.cls mk = .method mk := by rw [Launch.admits_selectMethod X.admits]; exact q4
  obtain ⟨vm₁, X₁, hstep₁⟩ := X.invokevirtual hexec hown hlink hnamed hmethM hstM hkP hkPi hy (a := b) (cell := cellB) hcell
    (fun z h => by rw [h] at hobj; cases hobj) hselP hmethM habM hkP hkPi (g := g) hg (argsL := argsL) (rest := rest) (hlen _ hsigM) hstack hdg
  rcases hK m meth c ⟨T.setVm vm₁, locs, cells, slots⟩ { g with stack := rest } (.invokevirtual index) mk (Value.ref b :: argsL).toArray X₁ hg hsize hdg hW (X₁.named hnamed) (hpre vm₁ X₁.warmed) with ⟨v, B, X', hpost, hsteps⟩ | ⟨q, B, X', hpost, hsteps⟩
  · exact Or.inl ⟨v, vm₁, B, X₁.warmed, X', hpost, fun target h => hstep₁ _ fun acts => by rw [doInvoke_state]; exact hsteps.trans h⟩
  · exact Or.inr ⟨q, vm₁, B, X₁.warmed, X', hpost, hstep₁ _ fun acts => by rw [doInvoke_state]; exact hsteps⟩
theorem vx_callSX (X : Stand p l e R s m args below meth c T locs cells slots) (hexec : p.tables.exec = Jvm.exec) {own : String} {index : Nat} {y : MethodName} {bytes : ByteArray} {maxL : Nat} {ret : Option FieldType} {hh : List (Nat × Nat × Nat × Nat)}
    (hown : s.vm.findClass own = some m.cls) (hlink : (Cond.methodLink own index y).before args s = true) (hstat : (Cond.static y).before args s = true) (hinit : (Cond.initialized y.cls).before args s = true)
    (hcode : (Cond.codeWith y bytes maxL ret hh).before args s = true) (hy : y.cls ≠ "java/lang/invoke/MethodHandle" ∧ y.cls ≠ "java/lang/invoke/VarHandle")
    {W9 : Nat} {Pre : Pt → Array Value → Prop} {Post : Pt → Array Value → Option Value → Pt → Prop} {PostX : Pt → Array Value → Addr → Pt → Prop} (hK : vx_Back l R p e below s args y 3 W9 Pre Post PostX)
    {g : JFrame} (hg : g.method = m) (hsize : g.locals.size = c.maxLocals) {argsL rest : List Value} (hlen : ∀ sig, parseMethodDescriptor y.desc = some sig → argsL.length = sig.parameters.length)
    (hstack : g.stack = argsL.reverse ++ rest) (hW : 2 * g.monitorRoom + (rest.map fun v => v.category).sum ≤ W9) (hdg : decode c.code g.pc = .ok (.invokestatic index, 3))
    (hpre : ∀ vm₁, s.WarmedH vm₁ → Pre ⟨T.setVm vm₁, locs, cells, slots⟩ argsL.toArray) :
    (∃ (v : Option Value) (vm₁ : Vm) (B : Pt), s.WarmedH vm₁ ∧ Stand p l e R s m args below meth c B.U B.locs B.cells B.slots ∧ Post ⟨T.setVm vm₁, locs, cells, slots⟩ argsL.toArray v B ∧
      ∀ target, Steps p.tables e below (B.U.setTop { g with pc := g.pc + 3, stack := v.toList ++ rest }) target → Steps p.tables e below (T.setTop g) target) ∨
    (∃ (q : Addr) (vm₁ : Vm) (B : Pt), s.WarmedH vm₁ ∧ Stand p l e R s m args below meth c B.U B.locs B.cells B.slots ∧ PostX ⟨T.setVm vm₁, locs, cells, slots⟩ argsL.toArray q B ∧
      Steps p.tables e below (T.setTop g) ((B.U.setTop { g with stack := rest }).pushFrame (.throwing q))) := by
  obtain ⟨mk, methM, cM, hnamed, hmethM, -, -, -, -, -, -, hsigM⟩ := Cond.codeWith_spec hcode
  have hstatic : methM.isStatic = true := Cond.static_spec hnamed hmethM hstat
  obtain ⟨kP, hkP, -⟩ := className_of_methodNamed hnamed
  have hinitP : kP.init = .initialized := Cond.initialized_spec (findClass_of_methodNamed hnamed) hkP hinit
  obtain ⟨vm₁, X₁, hstep₁⟩ := X.invokestatic hexec hown hlink hnamed hmethM hstatic hkP hinitP hy (g := g) hg (argsL := argsL) (rest := rest) (hlen _ hsigM) hstack hdg
  rcases hK m meth c ⟨T.setVm vm₁, locs, cells, slots⟩ { g with stack := rest } (.invokestatic index) mk argsL.toArray X₁ hg hsize hdg hW (X₁.named hnamed) (hpre vm₁ X₁.warmed) with ⟨v, B, X', hpost, hsteps⟩ | ⟨q, B, X', hpost, hsteps⟩
  · exact Or.inl ⟨v, vm₁, B, X₁.warmed, X', hpost, fun target h => hstep₁ _ fun acts => by rw [doInvoke_state]; exact hsteps.trans h⟩
  · exact Or.inr ⟨q, vm₁, B, X₁.warmed, X', hpost, hstep₁ _ fun acts => by rw [doInvoke_state]; exact hsteps⟩
theorem vx_callVW (X : Stand p l e R s m args below meth c T locs cells slots) (hexec : p.tables.exec = Jvm.exec) {own C : String} {index : Nat} {y : MethodName} {bytes : ByteArray} {maxL : Nat} {ret : Option FieldType} {hh : List (Nat × Nat × Nat × Nat)}
    (hown : s.vm.findClass own = some m.cls) (hlink : (Cond.methodLink own index y).before args s = true) (hinst : (Cond.instanceMethod y).before args s = true) (hsel : (Cond.selects C y y).before args s = true)
    (hcode : (Cond.codeWith y bytes maxL ret hh).before args s = true) (hy : y.cls ≠ "java/lang/invoke/MethodHandle" ∧ y.cls ≠ "java/lang/invoke/VarHandle")
    {W9 : Nat} {Pre : Pt → Array Value → Prop} {Post : Pt → Array Value → Option Value → Pt → Prop} (hK : Back l R p e below s args y 3 W9 Pre Post)
    {b : Addr} {cellB : Cell} (hcell : T.heap[b]? = some cellB) (hobj : cellB.vm.isStatics = false) (hcls : s.vm.findClass C = some cellB.cls)
    {g : JFrame} (hg : g.method = m) (hsize : g.locals.size = c.maxLocals) {argsL rest : List Value} (hlen : ∀ sig, parseMethodDescriptor y.desc = some sig → argsL.length = sig.parameters.length)
    (hstack : g.stack = argsL.reverse ++ .ref b :: rest) (hW : 2 * g.monitorRoom + (rest.map fun v => v.category).sum ≤ W9) (hdg : decode c.code g.pc = .ok (.invokevirtual index, 3))
    (hpre : ∀ vm₁, s.WarmedH vm₁ → Pre ⟨T.setVm vm₁, locs, cells, slots⟩ (Value.ref b :: argsL).toArray) :
    ∃ (v : Option Value) (vm₁ : Vm) (B : Pt), s.WarmedH vm₁ ∧ Stand p l e R s m args below meth c B.U B.locs B.cells B.slots ∧ Post ⟨T.setVm vm₁, locs, cells, slots⟩ (Value.ref b :: argsL).toArray v B ∧
      ∀ target, Steps p.tables e below (B.U.setTop { g with pc := g.pc + 3, stack := v.toList ++ rest }) target → Steps p.tables e below (T.setTop g) target := by
  obtain ⟨mk, methM, hnamed, hmethM, hstM, habM⟩ := Cond.instanceMethod_spec hinst
  obtain ⟨m8, methM', cM, hn8, hmethM', -, -, -, -, -, -, hsigM⟩ := Cond.codeWith_spec hcode
  cases Option.some.inj (hn8.symm.trans hnamed)
  cases hmethM.symm.trans hmethM'
  obtain ⟨c2, r2, m2, q1, q2, q3, q4, kP, hkP, hkPi⟩ := Cond.selects_spec hsel
  cases hcls.symm.trans q1
  cases (State.methodFound?_of_named hnamed hy).symm.trans q2
  cases hnamed.symm.trans q3
  have hselP : selectMethod e.platform s.vm cellB.cls mk = .method mk := by rw [Launch.admits_selectMethod X.admits]; exact q4
  obtain ⟨vm₁, X₁, hstep₁⟩ := X.invokevirtual hexec hown hlink hnamed hmethM hstM hkP hkPi hy (a := b) (cell := cellB) hcell
    (fun z h => by rw [h] at hobj; cases hobj) hselP hmethM habM hkP hkPi (g := g) hg (argsL := argsL) (rest := rest) (hlen _ hsigM) hstack hdg
  obtain ⟨v, B, X', hpost, hsteps⟩ := hK m meth c ⟨T.setVm vm₁, locs, cells, slots⟩ { g with stack := rest } (.invokevirtual index) mk (Value.ref b :: argsL).toArray X₁ hg hsize hdg hW (X₁.named hnamed) (hpre vm₁ X₁.warmed)
  exact ⟨v, vm₁, B, X₁.warmed, X', hpost, fun target h => hstep₁ _ fun acts => by rw [doInvoke_state]; exact hsteps.trans h⟩
abbrev vx_CVW (R : Room) (s : State) (args : Array Value) (own C : String) (index : Nat) (y : MethodName) (bytes : ByteArray) (maxL : Nat) (ret : Option FieldType) (hh : List (Nat × Nat × Nat × Nat)) (ws : List Cond) (rm : Room) (mc ms n : Nat) : Prop :=
  (rm.cells = mc ∧ rm.slots = ms ∧ rm.frames + 1 ≤ R.frames ∧ 8 + (maxL + 11) + rm.locals ≤ R.locals ∧ (∀ w ∈ ws, ∀ (a' : Array Value) (U : State), s.WarmedH U.vm → w.before a' U = true) ∧ Cond.codeWith y bytes maxL ret hh ∈ ws) ∧
  (Cond.codeWith y bytes maxL ret hh).before args s = true ∧ (Cond.initialized y.cls).before args s = true ∧ (y.cls ≠ "java/lang/invoke/MethodHandle" ∧ y.cls ≠ "java/lang/invoke/VarHandle") ∧
  (∀ sig, parseMethodDescriptor y.desc = some sig → n = sig.parameters.length) ∧ (Cond.methodLink own index y).before args s = true ∧ (Cond.instanceMethod y).before args s = true ∧ (Cond.selects C y y).before args s = true
theorem vx_cwVW {own C : String} {index maxL mc ms : Nat} {y : MethodName} {bytes : ByteArray} {ret : Option FieldType} {hh : List (Nat × Nat × Nat × Nat)} {Ts ws ws' : List Cond} {rm : Room} (n : Nat) (ht : ∀ w ∈ Ts, w.before args s = true) (hT : GoodIn Ts (wsV own index C y ws)) (hw : ws = Cond.codeWith y bytes maxL ret hh :: ws') (hrc : rm.cells = mc) (hrs : rm.slots = ms)
    (hd : y.cls = C ∧ y.cls ≠ "java/lang/invoke/MethodHandle" ∧ y.cls ≠ "java/lang/invoke/VarHandle" ∧ (parseMethodDescriptor y.desc).map (fun d => d.parameters.length) = some n) (hR : rm.frames + 1 ≤ R.frames ∧ 8 + (maxL + 11) + rm.locals ≤ R.locals) :
    vx_CVW R s args own C index y bytes maxL ret hh ws rm mc ms n := by
  obtain ⟨hC, hd⟩ := hd
  subst hC
  have ok : ∀ w ∈ wsV own index y.cls y ws, w.before args s = true := fun w h => ht w (hT w h).1
  have hG : GoodIn Ts ws := fun w h => hT w (by unfold wsV; exact List.mem_append_right _ h)
  have hc : Cond.codeWith y bytes maxL ret hh ∈ ws := by rw [hw]; exact List.mem_cons_self
  refine ⟨⟨hrc, hrs, hR.1, hR.2, pay_in ht hG, hc⟩, ht _ (hG _ hc).1, ok _ (by simp [wsV]), ⟨hd.1, hd.2.1⟩, fun sig h => ?_, ok _ (by simp [wsV]), ok _ (by simp [wsV]), ok _ (by simp [wsV])⟩
  have h2 := hd.2.2
  rw [h] at h2
  exact (Option.some.inj h2).symm
theorem vx_runVW {y : MethodName} {bytes cc : ByteArray} {maxL nL mc ms n index : Nat} {ret : Option FieldType} {hh : List (Nat × Nat × Nat × Nat)} {ws : List Cond} {rm : Room} {Pc : Array Value → State → Prop} {Qc : Array Value → State → Outcome → State → Prop} {free : Addr → Prop} {Ts : List Cond} {own C : String} {b : Addr} {As rest : List Value} {g : JFrame}
    (S : CallFix p m c cc nL s args Ts own) (hM : Met l y ws rm Pc Qc mc ms free) (cw : vx_CVW R s args own C index y bytes maxL ret hh ws rm mc ms n) (hp : PreV s H C b Pc As)
    (hg : g.method = m) (hn : As.length = n) (hsize : g.locals.size = nL) (hstack : g.stack = As.reverse ++ .ref b :: rest) (hW : 2 * g.monitorRoom + (rest.map fun v => v.category).sum ≤ 8) (hdg : decode cc g.pc = .ok (.invokevirtual index, 3)) (hf : cells + mc ≤ R.cells ∧ slots + ms ≤ R.slots) :
    va_Run p l e R s m args below meth c H locs cells slots mc ms g rest (Qc (Value.ref b :: As).toArray) free := by
  obtain ⟨⟨hrc, hrs, hfr, hlo, hws, hcw⟩, hcode, hini, hy, hlen, hl, hin, hse⟩ := cw
  have hK : Back l R p e below s args y 3 8 (PreOf R mc ms Pc) (PostOf Qc mc ms free) := va_backW (hh := hh) (bytes := bytes) (maxL := maxL) (ret := ret) hM hp.1 hrc hrs hfr hlo hws hcw (fun a' U hW => word_at hW (Or.inl (by first | rfl | simp [Cond.onTables, Cond.keeps, Cond.steady])) hini)
  obtain ⟨hx, hb, hml, ho, -⟩ := S
  obtain ⟨-, ⟨cellB, hcB, hoB, hclB⟩, hPc⟩ := hp
  intro T hT X
  obtain ⟨v, vm₁, ⟨U', l2, c2, s2⟩, hW₁, X', ⟨g', mk, t, L, e1, e2, hq, h1, hL, h2, h3⟩, st⟩ := vx_callVW X hx (C := C) (hh := hh) (bytes := bytes) (maxL := maxL) (ret := ret) ho hl hin hse hcode hy hK (by rw [hT]; exact hcB) hoB hclB hg (hsize.trans hml.symm) (argsL := As) (rest := rest) (fun sig h => hn.trans (hlen sig h)) hstack hW (by rw [hb]; exact hdg)
    (fun vm₁ hW₁ => ⟨hf.1, hf.2, hPc (T.setVm vm₁) hT hW₁⟩)
  dsimp only [Pt.U, Pt.locs, Pt.cells, Pt.slots] at X' e1 e2 h1 h2 h3 st
  subst h1; subst h2; subst h3
  exact ⟨v, (T.setVm vm₁).calling g' mk (Value.ref b :: As).toArray, t, U', L, hT, X', hL, e1, e2, hq, st⟩
section
variable {y : MethodName} {bytes cc : ByteArray} {maxL nL mc ms n index : Nat} {ret : Option FieldType} {ws : List Cond} {rm : Room} {Pc : Array Value → State → Prop} {Qc : Array Value → State → Outcome → State → Prop} {XC : String → State → State → Prop} {free : Addr → Prop} {Ts : List Cond} {own C : String} {b : Addr} {As rest : List Value} {g : JFrame}
theorem vx_runVX {hh : List (Nat × Nat × Nat × Nat)} (S : CallFix p m c cc nL s args Ts own) (hM : vx_Met l y ws rm Pc Qc XC mc ms free) (cw : vx_CVW R s args own C index y bytes maxL ret hh ws rm mc ms n) (hp : PreV s H C b Pc As)
    (hg : g.method = m) (hn : As.length = n) (hsize : g.locals.size = nL) (hstack : g.stack = As.reverse ++ .ref b :: rest) (hW : 2 * g.monitorRoom + (rest.map fun v => v.category).sum ≤ 8) (hdg : decode cc g.pc = .ok (.invokevirtual index, 3)) (hf : cells + mc ≤ R.cells ∧ slots + ms ≤ R.slots) :
    vx_Run p l e R s m args below meth c H locs cells slots mc ms g rest (Qc (Value.ref b :: As).toArray) XC free := by
  obtain ⟨⟨hrc, hrs, hfr, hlo, hws, hcw⟩, hcode, hini, hy, hlen, hl, hin, hse⟩ := cw
  have hK : vx_Back l R p e below s args y 3 8 (PreOf R mc ms Pc) (PostOf Qc mc ms free) (vx_Post XC mc ms free) := vx_backW (hh := hh) (bytes := bytes) (maxL := maxL) (ret := ret) hM hp.1 hrc hrs hfr hlo hws hcw (fun a' U hW => word_at hW (Or.inl (by first | rfl | simp [Cond.onTables, Cond.keeps, Cond.steady])) hini)
  obtain ⟨hx, hb, hml, ho, -⟩ := S
  obtain ⟨-, ⟨cellB, hcB, hoB, hclB⟩, hPc⟩ := hp
  intro T hT X
  rcases vx_callVX X hx (C := C) (hh := hh) (bytes := bytes) (maxL := maxL) (ret := ret) ho hl hin hse hcode hy hK (by rw [hT]; exact hcB) hoB hclB hg (hsize.trans hml.symm) (argsL := As) (rest := rest) (fun sig h => hn.trans (hlen sig h)) hstack hW (by rw [hb]; exact hdg)
    (fun vm₁ hW₁ => ⟨hf.1, hf.2, hPc (T.setVm vm₁) hT hW₁⟩) with ⟨v, vm₁, ⟨U', l2, c2, s2⟩, hW₁, X', ⟨g', mk, t, L, e1, e2, hq, h1, hL, h2, h3⟩, st⟩ | ⟨q, vm₁, ⟨U', l2, c2, s2⟩, hW₁, X', ⟨g', mk, t, L, E, ce, e1, e2, hq, hce, hcv, hcl, h1, hL, h2, h3⟩, st⟩
  · dsimp only [Pt.U, Pt.locs, Pt.cells, Pt.slots] at X' e1 e2 h1 h2 h3 st
    subst h1; subst h2; subst h3
    exact Or.inl ⟨v, (T.setVm vm₁).calling g' mk (Value.ref b :: As).toArray, t, U', L, hT, X', hL, e1, e2, hq, st⟩
  · dsimp only [Pt.U, Pt.locs, Pt.cells, Pt.slots] at X' e1 e2 h1 h2 h3 st hcl
    subst h1; subst h2; subst h3
    exact Or.inr ⟨q, (T.setVm vm₁).calling g' mk (Value.ref b :: As).toArray, t, U', L, E, ce, hT, X', hL, e1, e2, hq, hce, hcv, vx_cls hW₁ hcl, st⟩
theorem vx_runSX {hh : List (Nat × Nat × Nat × Nat)} (S : CallFix p m c cc nL s args Ts own) (hM : vx_Met l y ws rm Pc Qc XC mc ms free) (cw : vx_CSW R s args own index y bytes maxL ret hh ws rm mc ms n) (hp : PreS s H Pc As)
    (hg : g.method = m) (hn : As.length = n) (hsize : g.locals.size = nL) (hstack : g.stack = As.reverse ++ rest) (hW : 2 * g.monitorRoom + (rest.map fun v => v.category).sum ≤ 8) (hdg : decode cc g.pc = .ok (.invokestatic index, 3)) (hf : cells + mc ≤ R.cells ∧ slots + ms ≤ R.slots) :
    vx_Run p l e R s m args below meth c H locs cells slots mc ms g rest (Qc As.toArray) XC free := by
  obtain ⟨⟨hrc, hrs, hfr, hlo, hws, hcw⟩, hcode, hini, hy, hlen, hl, hstt⟩ := cw
  have hK : vx_Back l R p e below s args y 3 8 (PreOf R mc ms Pc) (PostOf Qc mc ms free) (vx_Post XC mc ms free) := vx_backW (hh := hh) (bytes := bytes) (maxL := maxL) (ret := ret) hM hp.1 hrc hrs hfr hlo hws hcw (fun a' U hW => word_at hW (Or.inl (by first | rfl | simp [Cond.onTables, Cond.keeps, Cond.steady])) hini)
  obtain ⟨hx, hb, hml, ho, -⟩ := S
  intro T hT X
  rcases vx_callSX X hx (hh := hh) (bytes := bytes) (maxL := maxL) (ret := ret) ho hl hstt hini hcode hy hK hg (hsize.trans hml.symm) (argsL := As) (rest := rest) (fun sig h => hn.trans (hlen sig h)) hstack hW (by rw [hb]; exact hdg)
    (fun vm₁ hW₁ => ⟨hf.1, hf.2, hp.2 (T.setVm vm₁) hT hW₁⟩) with ⟨v, vm₁, ⟨U', l2, c2, s2⟩, hW₁, X', ⟨g', mk, t, L, e1, e2, hq, h1, hL, h2, h3⟩, st⟩ | ⟨q, vm₁, ⟨U', l2, c2, s2⟩, hW₁, X', ⟨g', mk, t, L, E, ce, e1, e2, hq, hce, hcv, hcl, h1, hL, h2, h3⟩, st⟩
  · dsimp only [Pt.U, Pt.locs, Pt.cells, Pt.slots] at X' e1 e2 h1 h2 h3 st
    subst h1; subst h2; subst h3
    exact Or.inl ⟨v, (T.setVm vm₁).calling g' mk As.toArray, t, U', L, hT, X', hL, e1, e2, hq, st⟩
  · dsimp only [Pt.U, Pt.locs, Pt.cells, Pt.slots] at X' e1 e2 h1 h2 h3 st hcl
    subst h1; subst h2; subst h3
    exact Or.inr ⟨q, (T.setVm vm₁).calling g' mk As.toArray, t, U', L, E, ce, hT, X', hL, e1, e2, hq, hce, hcv, vx_cls hW₁ hcl, st⟩
end
end VXH
theorem vx_ofWH {l : Launch} {y : MethodName} {ws ws' : List Cond} {rm : Room} {Pc : Array Value → State → Prop} {Qc : Array Value → State → Outcome → State → Prop} {XC : String → State → State → Prop} {mc ms : Nat} {free : Addr → Prop} {cc : ByteArray} {maxL : Nat} {ret : Option FieldType} {hh : List (Nat × Nat × Nat × Nat)}
    (hy : plainName y.cls = true) (hw : ws = Cond.codeWith y cc maxL ret hh :: ws')
    (body : ∀ p e s m args below meth c s₁, BodyLoose p l y (headSpec ws rm) cc maxL ret e s m args below meth c s₁ → c.maxLocals = maxL → Pc args s →
      W p l e (headSpec ws rm).room s m args below meth c s.heap [] 0 0 (vx_MQ below Qc XC args s mc ms free) (entryFrame m args maxL)) : vx_Met l y ws rm Pc Qc XC mc ms free := by
  refine MetFree.of_bodyS (code := cc) (maxLocals := maxL) (ret := ret) hy ?_ ?_
  · intro args s m h hn
    obtain ⟨m9, meth, c, hn9, h1, h2, h3, h4, -, h5, h6, -⟩ := Cond.codeWith_spec (atoms_spec (ws := ws) h _ (by rw [hw]; exact List.mem_cons_self))
    cases hn.symm.trans hn9
    exact ⟨meth, c, h1, h2, h3, h4, h5, h6⟩
  · intro p e s m args below meth c s₁ B hml hP _
    have hh0 : s₁.heap = s.heap := by rw [B.state]; rfl
    obtain ⟨t, a1, o, b1, b2, b3⟩ := body p e s m args below meth c s₁ B hml hP s₁ hh0 (Stand.of_body B)
    exact ⟨t, o, a1, b1, b2, b3⟩
/-! ===== END ===== -/

def RX0 : String := "ColdFrame$Block"
def TX0 : u_T := fun k => match k with
  | 0 => ("ColdFrame$Block", "rows", "[I", true)
  | 1 => ("ColdFrame$Block", "zones", "[LColdFrame$Zone;", true)
  | 2 => ("ColdFrame$Block", "count", "I", false)
  | _ => ("ColdFrame$Block", "byteCount", "I", false)
def tyX0 : Nat → FieldType := fun k => match k with
  | 0 => .array .int
  | 1 => .array (.object "ColdFrame$Zone")
  | 2 => .int
  | _ => .int
abbrev wsX00 : List Cond := u_ws RX0 TX0 4
theorem nmX0 : ∀ a, a < 4 → ∀ b, b < 4 → a ≠ b → (TX0 a).2.1 ≠ (TX0 b).2.1 := by decide +kernel
theorem tyX0_ok : ∀ k, k < 4 → parseFieldDescriptor (TX0 k).2.2.1 = some (tyX0 k) := by decide +kernel
abbrev cX0_init : ByteArray := prog_2_method_1_code
def yX0_init : MethodName := ⟨RX0, "<init>", "()V"⟩
abbrev cX0_append : ByteArray := prog_2_method_2_code
def yX0_append : MethodName := ⟨RX0, "append", "(I)V"⟩
abbrev cX0_reckon : ByteArray := prog_2_method_3_code
def yX0_reckon : MethodName := ⟨RX0, "reckon", "(Ljava/util/ArrayList;[ILColdFrame$Sorter;)V"⟩
def RX1 : String := "ColdFrame$Column"
def TX1 : u_T := fun k => match k with
  | 0 => ("ColdFrame$Column", "values", "[I", true)
  | 1 => ("ColdFrame$Column", "lacks", "[Z", true)
  | 2 => ("ColdFrame$Column", "isIndexed", "Z", false)
  | 3 => ("ColdFrame$Column", "isGiven", "Z", false)
  | _ => ("ColdFrame$Column", "given", "I", false)
def tyX1 : Nat → FieldType := fun k => match k with
  | 0 => .array .int
  | 1 => .array .boolean
  | 2 => .boolean
  | 3 => .boolean
  | _ => .int
abbrev wsX10 : List Cond := u_ws RX1 TX1 5
theorem nmX1 : ∀ a, a < 5 → ∀ b, b < 5 → a ≠ b → (TX1 a).2.1 ≠ (TX1 b).2.1 := by decide +kernel
theorem tyX1_ok : ∀ k, k < 5 → parseFieldDescriptor (TX1 k).2.2.1 = some (tyX1 k) := by decide +kernel
abbrev cX1_init : ByteArray := prog_3_method_1_code
def yX1_init : MethodName := ⟨RX1, "<init>", "()V"⟩
abbrev cX1_giveNext : ByteArray := prog_3_method_2_code
def yX1_giveNext : MethodName := ⟨RX1, "giveNext", "(I)V"⟩
abbrev cX1_takeGiven : ByteArray := prog_3_method_3_code
def yX1_takeGiven : MethodName := ⟨RX1, "takeGiven", "(I)V"⟩
abbrev cX1_put : ByteArray := prog_3_method_4_code
def yX1_put : MethodName := ⟨RX1, "put", "(II)V"⟩
abbrev cX1_copy : ByteArray := prog_3_method_5_code
def yX1_copy : MethodName := ⟨RX1, "copy", "(II)V"⟩
abbrev cX1_isSame : ByteArray := prog_3_method_6_code
def yX1_isSame : MethodName := ⟨RX1, "isSame", "(II)Z"⟩
def RX2 : String := "ColdFrame$Condition"
def TX2 : u_T := fun k => match k with
  | 0 => ("ColdFrame$Condition", "column", "I", false)
  | 1 => ("ColdFrame$Condition", "test", "I", false)
  | _ => ("ColdFrame$Condition", "value", "I", false)
def tyX2 : Nat → FieldType := fun k => match k with
  | 0 => .int
  | 1 => .int
  | _ => .int
abbrev wsX20 : List Cond := u_ws RX2 TX2 3
theorem nmX2 : ∀ a, a < 3 → ∀ b, b < 3 → a ≠ b → (TX2 a).2.1 ≠ (TX2 b).2.1 := by decide +kernel
theorem tyX2_ok : ∀ k, k < 3 → parseFieldDescriptor (TX2 k).2.2.1 = some (tyX2 k) := by decide +kernel
abbrev cX2_init : ByteArray := prog_4_method_1_code
def yX2_init : MethodName := ⟨RX2, "<init>", "()V"⟩
abbrev cX2_state : ByteArray := prog_4_method_2_code
def yX2_state : MethodName := ⟨RX2, "state", "(III)V"⟩
abbrev cX2_isMetBy : ByteArray := prog_4_method_3_code
def yX2_isMetBy : MethodName := ⟨RX2, "isMetBy", "(ZI)Z"⟩
abbrev cX2_isMetByNone : ByteArray := prog_4_method_4_code
def yX2_isMetByNone : MethodName := ⟨RX2, "isMetByNone", "(LColdFrame$Zone;)Z"⟩
abbrev cX2_isMetByAll : ByteArray := prog_4_method_5_code
def yX2_isMetByAll : MethodName := ⟨RX2, "isMetByAll", "(LColdFrame$Zone;)Z"⟩
abbrev cX2_methodIn : ByteArray := prog_4_method_6_code
def yX2_methodIn : MethodName := ⟨RX2, "methodIn", "(LColdFrame$Zone;Z)I"⟩
abbrev cX2_guessIn : ByteArray := prog_4_method_7_code
def yX2_guessIn : MethodName := ⟨RX2, "guessIn", "(LColdFrame$Zone;)I"⟩
abbrev cX2_shareOf : ByteArray := prog_4_method_8_code
def yX2_shareOf : MethodName := ⟨RX2, "shareOf", "(IJLColdFrame$Zone;)I"⟩
def RX3 : String := "ColdFrame$Group"
def TX3 : u_T := fun k => match k with
  | 0 => ("ColdFrame$Group", "conditions", "[LColdFrame$Condition;", true)
  | _ => ("ColdFrame$Group", "count", "I", false)
def tyX3 : Nat → FieldType := fun k => match k with
  | 0 => .array (.object "ColdFrame$Condition")
  | _ => .int
abbrev wsX30 : List Cond := u_ws RX3 TX3 2
theorem nmX3 : ∀ a, a < 2 → ∀ b, b < 2 → a ≠ b → (TX3 a).2.1 ≠ (TX3 b).2.1 := by decide +kernel
theorem tyX3_ok : ∀ k, k < 2 → parseFieldDescriptor (TX3 k).2.2.1 = some (tyX3 k) := by decide +kernel
abbrev cX3_init : ByteArray := prog_5_method_1_code
def yX3_init : MethodName := ⟨RX3, "<init>", "()V"⟩
abbrev cX3_state : ByteArray := prog_5_method_2_code
def yX3_state : MethodName := ⟨RX3, "state", "(III)I"⟩
def RX4 : String := "ColdFrame$Query"
def TX4 : u_T := fun k => match k with
  | 0 => ("ColdFrame$Query", "groups", "[LColdFrame$Group;", true)
  | _ => ("ColdFrame$Query", "count", "I", false)
def tyX4 : Nat → FieldType := fun k => match k with
  | 0 => .array (.object "ColdFrame$Group")
  | _ => .int
abbrev wsX40 : List Cond := u_ws RX4 TX4 2
theorem nmX4 : ∀ a, a < 2 → ∀ b, b < 2 → a ≠ b → (TX4 a).2.1 ≠ (TX4 b).2.1 := by decide +kernel
theorem tyX4_ok : ∀ k, k < 2 → parseFieldDescriptor (TX4 k).2.2.1 = some (tyX4 k) := by decide +kernel
abbrev cX4_init : ByteArray := prog_6_method_1_code
def yX4_init : MethodName := ⟨RX4, "<init>", "()V"⟩
abbrev cX4_latest : ByteArray := prog_6_method_2_code
def yX4_latest : MethodName := ⟨RX4, "latest", "()LColdFrame$Group;"⟩
abbrev cX4_begin : ByteArray := prog_6_method_3_code
def yX4_begin : MethodName := ⟨RX4, "begin", "()I"⟩
abbrev cX4_reset : ByteArray := prog_6_method_4_code
def yX4_reset : MethodName := ⟨RX4, "reset", "()V"⟩
abbrev cX4_conditionCount : ByteArray := prog_6_method_5_code
def yX4_conditionCount : MethodName := ⟨RX4, "conditionCount", "()I"⟩
def RX5 : String := "ColdFrame$Result"
def TX5 : u_T := fun k => match k with
  | 0 => ("ColdFrame$Result", "rows", "[I", true)
  | 1 => ("ColdFrame$Result", "count", "I", false)
  | 2 => ("ColdFrame$Result", "groupCount", "I", false)
  | 3 => ("ColdFrame$Result", "keptRows", "[I", true)
  | 4 => ("ColdFrame$Result", "keptCount", "I", false)
  | 5 => ("ColdFrame$Result", "grouped", "[I", true)
  | _ => ("ColdFrame$Result", "starts", "[I", true)
def tyX5 : Nat → FieldType := fun k => match k with
  | 0 => .array .int
  | 1 => .int
  | 2 => .int
  | 3 => .array .int
  | 4 => .int
  | 5 => .array .int
  | _ => .array .int
abbrev wsX50 : List Cond := u_ws RX5 TX5 7
theorem nmX5 : ∀ a, a < 7 → ∀ b, b < 7 → a ≠ b → (TX5 a).2.1 ≠ (TX5 b).2.1 := by decide +kernel
theorem tyX5_ok : ∀ k, k < 7 → parseFieldDescriptor (TX5 k).2.2.1 = some (tyX5 k) := by decide +kernel
abbrev cX5_init : ByteArray := prog_7_method_1_code
def yX5_init : MethodName := ⟨RX5, "<init>", "()V"⟩
abbrev cX5_take : ByteArray := prog_7_method_2_code
def yX5_take : MethodName := ⟨RX5, "take", "([II)V"⟩
abbrev cX5_keepRows : ByteArray := prog_7_method_3_code
def yX5_keepRows : MethodName := ⟨RX5, "keepRows", "()I"⟩
abbrev cX5_total : ByteArray := prog_7_method_4_code
def yX5_total : MethodName := ⟨RX5, "total", "(LColdFrame$Column;)J"⟩
abbrev cX5_arrangeGroups : ByteArray := prog_7_method_6_code
def yX5_arrangeGroups : MethodName := ⟨RX5, "arrangeGroups", "(LColdFrame$Column;LColdFrame$Sorter;)V"⟩
abbrev cX5_accountOf : ByteArray := prog_7_method_7_code
def yX5_accountOf : MethodName := ⟨RX5, "accountOf", "(ILColdFrame$Column;LColdFrame$Column;I)I"⟩
abbrev cX5_sumOf : ByteArray := prog_7_method_8_code
def yX5_sumOf : MethodName := ⟨RX5, "sumOf", "(LColdFrame$Column;II)I"⟩
abbrev cX5_endOf : ByteArray := prog_7_method_9_code
def yX5_endOf : MethodName := ⟨RX5, "endOf", "(LColdFrame$Column;IIZ)I"⟩
abbrev cX5_pairCount : ByteArray := prog_7_method_10_code
def yX5_pairCount : MethodName := ⟨RX5, "pairCount", "(LColdFrame$Column;LColdFrame$Column;)I"⟩
def RX6 : String := "ColdFrame$Search"
def TX6 : u_T := fun k => match k with
  | 0 => ("ColdFrame$Search", "rows", "[I", true)
  | 1 => ("ColdFrame$Search", "count", "I", false)
  | 2 => ("ColdFrame$Search", "cost", "I", false)
  | 3 => ("ColdFrame$Search", "passedCount", "I", false)
  | 4 => ("ColdFrame$Search", "mayUseBitmaps", "Z", false)
  | 5 => ("ColdFrame$Search", "isSelected", "[Z", true)
  | 6 => ("ColdFrame$Search", "selected", "I", false)
  | 7 => ("ColdFrame$Search", "isHit", "[Z", true)
  | 8 => ("ColdFrame$Search", "order", "[I", true)
  | _ => ("ColdFrame$Search", "guesses", "[I", true)
def tyX6 : Nat → FieldType := fun k => match k with
  | 0 => .array .int
  | 1 => .int
  | 2 => .int
  | 3 => .int
  | 4 => .boolean
  | 5 => .array .boolean
  | 6 => .int
  | 7 => .array .boolean
  | 8 => .array .int
  | _ => .array .int
abbrev wsX60 : List Cond := u_ws RX6 TX6 10
theorem nmX6 : ∀ a, a < 10 → ∀ b, b < 10 → a ≠ b → (TX6 a).2.1 ≠ (TX6 b).2.1 := by decide +kernel
theorem tyX6_ok : ∀ k, k < 10 → parseFieldDescriptor (TX6 k).2.2.1 = some (tyX6 k) := by decide +kernel
abbrev cX6_init : ByteArray := prog_8_method_1_code
def yX6_init : MethodName := ⟨RX6, "<init>", "()V"⟩
abbrev cX6_run : ByteArray := prog_8_method_2_code
def yX6_run : MethodName := ⟨RX6, "run", "(LColdFrame$Table;LColdFrame$Query;Z)V"⟩
abbrev cX6_lookThrough : ByteArray := prog_8_method_3_code
def yX6_lookThrough : MethodName := ⟨RX6, "lookThrough", "(LColdFrame$Table;LColdFrame$Query;LColdFrame$Block;Z)Z"⟩
abbrev cX6_select : ByteArray := prog_8_method_4_code
def yX6_select : MethodName := ⟨RX6, "select", "(LColdFrame$Table;LColdFrame$Group;LColdFrame$Block;Z)V"⟩
abbrev cX6_orderConditions : ByteArray := prog_8_method_5_code
def yX6_orderConditions : MethodName := ⟨RX6, "orderConditions", "(LColdFrame$Group;LColdFrame$Block;Z)V"⟩
abbrev cX6_costIn : ByteArray := prog_8_method_6_code
def yX6_costIn : MethodName := ⟨RX6, "costIn", "(LColdFrame$Zone;LColdFrame$Condition;LColdFrame$Column;)I"⟩
abbrev cX6_narrow : ByteArray := prog_8_method_7_code
def yX6_narrow : MethodName := ⟨RX6, "narrow", "(LColdFrame$Block;LColdFrame$Condition;LColdFrame$Column;)V"⟩
abbrev cX6_collect : ByteArray := prog_8_method_8_code
def yX6_collect : MethodName := ⟨RX6, "collect", "(LColdFrame$Table;LColdFrame$Block;Z)V"⟩
def RX7 : String := "ColdFrame$Sorter"
def TX7 : u_T := fun k => match k with
  | 0 => ("ColdFrame$Sorter", "keys", "[J", true)
  | _ => ("ColdFrame$Sorter", "spare", "[I", true)
def tyX7 : Nat → FieldType := fun k => match k with
  | 0 => .array .long
  | _ => .array .int
abbrev wsX70 : List Cond := u_ws RX7 TX7 2
theorem nmX7 : ∀ a, a < 2 → ∀ b, b < 2 → a ≠ b → (TX7 a).2.1 ≠ (TX7 b).2.1 := by decide +kernel
theorem tyX7_ok : ∀ k, k < 2 → parseFieldDescriptor (TX7 k).2.2.1 = some (tyX7 k) := by decide +kernel
abbrev cX7_init : ByteArray := prog_9_method_1_code
def yX7_init : MethodName := ⟨RX7, "<init>", "()V"⟩
abbrev cX7_arrange : ByteArray := prog_9_method_2_code
def yX7_arrange : MethodName := ⟨RX7, "arrange", "([IILColdFrame$Column;ZZ)V"⟩
abbrev cX7_join : ByteArray := prog_9_method_3_code
def yX7_join : MethodName := ⟨RX7, "join", "([IIII)V"⟩
def RX8 : String := "ColdFrame$Table"
def TX8 : u_T := fun k => match k with
  | 0 => ("ColdFrame$Table", "columns", "Ljava/util/ArrayList;", true)
  | 1 => ("ColdFrame$Table", "frames", "Ljava/util/ArrayList;", true)
  | 2 => ("ColdFrame$Table", "isLiving", "[Z", true)
  | 3 => ("ColdFrame$Table", "home", "[I", true)
  | 4 => ("ColdFrame$Table", "sorter", "LColdFrame$Sorter;", true)
  | 5 => ("ColdFrame$Table", "buffer", "LColdFrame$Block;", false)
  | 6 => ("ColdFrame$Table", "size", "I", false)
  | 7 => ("ColdFrame$Table", "rowCount", "I", false)
  | 8 => ("ColdFrame$Table", "livingCount", "I", false)
  | 9 => ("ColdFrame$Table", "trial", "LColdFrame$Block;", true)
  | _ => ("ColdFrame$Table", "sorted", "[I", true)
def tyX8 : Nat → FieldType := fun k => match k with
  | 0 => .object "java/util/ArrayList"
  | 1 => .object "java/util/ArrayList"
  | 2 => .array .boolean
  | 3 => .array .int
  | 4 => .object "ColdFrame$Sorter"
  | 5 => .object "ColdFrame$Block"
  | 6 => .int
  | 7 => .int
  | 8 => .int
  | 9 => .object "ColdFrame$Block"
  | _ => .array .int
abbrev wsX80 : List Cond := u_ws RX8 TX8 11
theorem nmX8 : ∀ a, a < 11 → ∀ b, b < 11 → a ≠ b → (TX8 a).2.1 ≠ (TX8 b).2.1 := by decide +kernel
theorem tyX8_ok : ∀ k, k < 11 → parseFieldDescriptor (TX8 k).2.2.1 = some (tyX8 k) := by decide +kernel
abbrev cX8_init : ByteArray := prog_10_method_1_code
def yX8_init : MethodName := ⟨RX8, "<init>", "()V"⟩
abbrev cX8_givenColumns : ByteArray := prog_10_method_2_code
def yX8_givenColumns : MethodName := ⟨RX8, "givenColumns", "()I"⟩
abbrev cX8_appendGiven : ByteArray := prog_10_method_3_code
def yX8_appendGiven : MethodName := ⟨RX8, "appendGiven", "()I"⟩
abbrev cX8_appendChanged : ByteArray := prog_10_method_4_code
def yX8_appendChanged : MethodName := ⟨RX8, "appendChanged", "(III)I"⟩
abbrev cX8_appendFilled : ByteArray := prog_10_method_5_code
def yX8_appendFilled : MethodName := ⟨RX8, "appendFilled", "()I"⟩
abbrev cX8_kill : ByteArray := prog_10_method_6_code
def yX8_kill : MethodName := ⟨RX8, "kill", "(I)Z"⟩
abbrev cX8_sealIfFull : ByteArray := prog_10_method_7_code
def yX8_sealIfFull : MethodName := ⟨RX8, "sealIfFull", "()V"⟩
abbrev cX8_sealBuffer : ByteArray := prog_10_method_8_code
def yX8_sealBuffer : MethodName := ⟨RX8, "sealBuffer", "()I"⟩
abbrev cX8_clusterBy : ByteArray := prog_10_method_9_code
def yX8_clusterBy : MethodName := ⟨RX8, "clusterBy", "(II)I"⟩
abbrev cX8_livingIn : ByteArray := prog_10_method_10_code
def yX8_livingIn : MethodName := ⟨RX8, "livingIn", "(I)I"⟩
abbrev cX8_mergeNext : ByteArray := prog_10_method_11_code
def yX8_mergeNext : MethodName := ⟨RX8, "mergeNext", "(I)I"⟩
abbrev cX8_bytesOfBitmaps : ByteArray := prog_10_method_13_code
def yX8_bytesOfBitmaps : MethodName := ⟨RX8, "bytesOfBitmaps", "()I"⟩
abbrev cX8_dropDead : ByteArray := prog_10_method_15_code
def yX8_dropDead : MethodName := ⟨RX8, "dropDead", "(LColdFrame$Block;)V"⟩
abbrev cX8_removeFrame : ByteArray := prog_10_method_16_code
def yX8_removeFrame : MethodName := ⟨RX8, "removeFrame", "(I)V"⟩
abbrev cX8_numberFrom : ByteArray := prog_10_method_17_code
def yX8_numberFrom : MethodName := ⟨RX8, "numberFrom", "(I)V"⟩
def RX9 : String := "ColdFrame$Zone"
def TX9 : u_T := fun k => match k with
  | 0 => ("ColdFrame$Zone", "count", "I", false)
  | 1 => ("ColdFrame$Zone", "nullCount", "I", false)
  | 2 => ("ColdFrame$Zone", "distinctCount", "I", false)
  | 3 => ("ColdFrame$Zone", "runCount", "I", false)
  | 4 => ("ColdFrame$Zone", "low", "I", false)
  | 5 => ("ColdFrame$Zone", "high", "I", false)
  | 6 => ("ColdFrame$Zone", "form", "I", false)
  | 7 => ("ColdFrame$Zone", "values", "[I", true)
  | _ => ("ColdFrame$Zone", "greatestStep", "J", false)
def tyX9 : Nat → FieldType := fun k => match k with
  | 0 => .int
  | 1 => .int
  | 2 => .int
  | 3 => .int
  | 4 => .int
  | 5 => .int
  | 6 => .int
  | 7 => .array .int
  | _ => .long
abbrev wsX90 : List Cond := u_ws RX9 TX9 9
theorem nmX9 : ∀ a, a < 9 → ∀ b, b < 9 → a ≠ b → (TX9 a).2.1 ≠ (TX9 b).2.1 := by decide +kernel
theorem tyX9_ok : ∀ k, k < 9 → parseFieldDescriptor (TX9 k).2.2.1 = some (tyX9 k) := by decide +kernel
abbrev cX9_init : ByteArray := prog_11_method_1_code
def yX9_init : MethodName := ⟨RX9, "<init>", "()V"⟩
abbrev cX9_reckon : ByteArray := prog_11_method_2_code
def yX9_reckon : MethodName := ⟨RX9, "reckon", "(LColdFrame$Column;[I[II)V"⟩
abbrev cX9_countValues : ByteArray := prog_11_method_3_code
def yX9_countValues : MethodName := ⟨RX9, "countValues", "(LColdFrame$Column;[I)V"⟩
abbrev cX9_countRuns : ByteArray := prog_11_method_4_code
def yX9_countRuns : MethodName := ⟨RX9, "countRuns", "(LColdFrame$Column;[I)V"⟩
abbrev cX9_bytesIn : ByteArray := prog_11_method_5_code
def yX9_bytesIn : MethodName := ⟨RX9, "bytesIn", "(I)I"⟩
abbrev cX9_widthFor : ByteArray := prog_11_method_6_code
def yX9_widthFor : MethodName := ⟨RX9, "widthFor", "(J)I"⟩
abbrev cX9_bytesFor : ByteArray := prog_11_method_7_code
def yX9_bytesFor : MethodName := ⟨RX9, "bytesFor", "(I)I"⟩
abbrev cX9_bits : ByteArray := prog_11_method_8_code
def yX9_bits : MethodName := ⟨RX9, "bits", "(J)I"⟩
abbrev cX9_hasBitmaps : ByteArray := prog_11_method_9_code
def yX9_hasBitmaps : MethodName := ⟨RX9, "hasBitmaps", "()Z"⟩
abbrev cX9_bytesOfBitmaps : ByteArray := prog_11_method_10_code
def yX9_bytesOfBitmaps : MethodName := ⟨RX9, "bytesOfBitmaps", "()I"⟩
abbrev cX9_bitmapsFor : ByteArray := prog_11_method_11_code
def yX9_bitmapsFor : MethodName := ⟨RX9, "bitmapsFor", "(LColdFrame$Condition;)I"⟩
def RX10 : String := "ColdFrame"
def TX10 : u_T := fun k => match k with
  | 0 => ("ColdFrame", "table", "LColdFrame$Table;", true)
  | 1 => ("ColdFrame", "query", "LColdFrame$Query;", true)
  | 2 => ("ColdFrame", "search", "LColdFrame$Search;", true)
  | 3 => ("ColdFrame", "result", "LColdFrame$Result;", true)
  | 4 => ("ColdFrame", "latestCost", "I", false)
  | _ => ("ColdFrame", "latestPassed", "I", false)
def tyX10 : Nat → FieldType := fun k => match k with
  | 0 => .object "ColdFrame$Table"
  | 1 => .object "ColdFrame$Query"
  | 2 => .object "ColdFrame$Search"
  | 3 => .object "ColdFrame$Result"
  | 4 => .int
  | _ => .int
abbrev wsX100 : List Cond := u_ws RX10 TX10 6
theorem nmX10 : ∀ a, a < 6 → ∀ b, b < 6 → a ≠ b → (TX10 a).2.1 ≠ (TX10 b).2.1 := by decide +kernel
theorem tyX10_ok : ∀ k, k < 6 → parseFieldDescriptor (TX10 k).2.2.1 = some (tyX10 k) := by decide +kernel
abbrev cX10_init : ByteArray := prog_1_method_1_code
def yX10_init : MethodName := ⟨RX10, "<init>", "()V"⟩
abbrev cX10_addColumn : ByteArray := prog_1_method_2_code
def yX10_addColumn : MethodName := ⟨RX10, "addColumn", "()I"⟩
abbrev cX10_give : ByteArray := prog_1_method_3_code
def yX10_give : MethodName := ⟨RX10, "give", "(II)I"⟩
abbrev cX10_add : ByteArray := prog_1_method_4_code
def yX10_add : MethodName := ⟨RX10, "add", "()I"⟩
abbrev cX10_delete : ByteArray := prog_1_method_5_code
def yX10_delete : MethodName := ⟨RX10, "delete", "(I)Z"⟩
abbrev cX10_change : ByteArray := prog_1_method_6_code
def yX10_change : MethodName := ⟨RX10, "change", "(III)I"⟩
abbrev cX10_setSize : ByteArray := prog_1_method_7_code
def yX10_setSize : MethodName := ⟨RX10, "setSize", "(I)I"⟩
abbrev cX10_seal : ByteArray := prog_1_method_8_code
def yX10_seal : MethodName := ⟨RX10, "seal", "()I"⟩
abbrev cX10_cluster : ByteArray := prog_1_method_9_code
def yX10_cluster : MethodName := ⟨RX10, "cluster", "(II)I"⟩
abbrev cX10_merge : ByteArray := prog_1_method_10_code
def yX10_merge : MethodName := ⟨RX10, "merge", "(I)I"⟩
abbrev cX10_index : ByteArray := prog_1_method_11_code
def yX10_index : MethodName := ⟨RX10, "index", "(I)Z"⟩
abbrev cX10_rows : ByteArray := prog_1_method_13_code
def yX10_rows : MethodName := ⟨RX10, "rows", "()I"⟩
abbrev cX10_alive : ByteArray := prog_1_method_14_code
def yX10_alive : MethodName := ⟨RX10, "alive", "()I"⟩
abbrev cX10_frames : ByteArray := prog_1_method_15_code
def yX10_frames : MethodName := ⟨RX10, "frames", "()I"⟩
abbrev cX10_isAlive : ByteArray := prog_1_method_17_code
def yX10_isAlive : MethodName := ⟨RX10, "isAlive", "(I)Z"⟩
abbrev cX10_isNull : ByteArray := prog_1_method_18_code
def yX10_isNull : MethodName := ⟨RX10, "isNull", "(II)Z"⟩
abbrev cX10_valueOf : ByteArray := prog_1_method_19_code
def yX10_valueOf : MethodName := ⟨RX10, "valueOf", "(II)I"⟩
abbrev cX10_frameOf : ByteArray := prog_1_method_20_code
def yX10_frameOf : MethodName := ⟨RX10, "frameOf", "(I)I"⟩
abbrev cX10_rowsIn : ByteArray := prog_1_method_21_code
def yX10_rowsIn : MethodName := ⟨RX10, "rowsIn", "(I)I"⟩
abbrev cX10_rowAt : ByteArray := prog_1_method_22_code
def yX10_rowAt : MethodName := ⟨RX10, "rowAt", "(II)I"⟩
abbrev cX10_formOf : ByteArray := prog_1_method_23_code
def yX10_formOf : MethodName := ⟨RX10, "formOf", "(II)I"⟩
abbrev cX10_bytesAs : ByteArray := prog_1_method_24_code
def yX10_bytesAs : MethodName := ⟨RX10, "bytesAs", "(III)I"⟩
abbrev cX10_bytes : ByteArray := prog_1_method_25_code
def yX10_bytes : MethodName := ⟨RX10, "bytes", "(I)I"⟩
abbrev cX10_bitmapBytes : ByteArray := prog_1_method_26_code
def yX10_bitmapBytes : MethodName := ⟨RX10, "bitmapBytes", "()I"⟩
abbrev cX10_nulls : ByteArray := prog_1_method_27_code
def yX10_nulls : MethodName := ⟨RX10, "nulls", "(II)I"⟩
abbrev cX10_distinct : ByteArray := prog_1_method_28_code
def yX10_distinct : MethodName := ⟨RX10, "distinct", "(II)I"⟩
abbrev cX10_runs : ByteArray := prog_1_method_29_code
def yX10_runs : MethodName := ⟨RX10, "runs", "(II)I"⟩
abbrev cX10_least : ByteArray := prog_1_method_30_code
def yX10_least : MethodName := ⟨RX10, "least", "(II)I"⟩
abbrev cX10_greatest : ByteArray := prog_1_method_31_code
def yX10_greatest : MethodName := ⟨RX10, "greatest", "(II)I"⟩
abbrev cX10_where : ByteArray := prog_1_method_32_code
def yX10_where : MethodName := ⟨RX10, "where", "(III)I"⟩
abbrev cX10_orElse : ByteArray := prog_1_method_33_code
def yX10_orElse : MethodName := ⟨RX10, "orElse", "()I"⟩
abbrev cX10_clear : ByteArray := prog_1_method_34_code
def yX10_clear : MethodName := ⟨RX10, "clear", "()I"⟩
abbrev cX10_find : ByteArray := prog_1_method_35_code
def yX10_find : MethodName := ⟨RX10, "find", "()I"⟩
abbrev cX10_passed : ByteArray := prog_1_method_37_code
def yX10_passed : MethodName := ⟨RX10, "passed", "()I"⟩
abbrev cX10_foundAt : ByteArray := prog_1_method_41_code
def yX10_foundAt : MethodName := ⟨RX10, "foundAt", "(I)I"⟩
abbrev cX10_sort : ByteArray := prog_1_method_42_code
def yX10_sort : MethodName := ⟨RX10, "sort", "(IZ)I"⟩
abbrev cX10_limit : ByteArray := prog_1_method_43_code
def yX10_limit : MethodName := ⟨RX10, "limit", "(I)I"⟩
abbrev cX10_sum : ByteArray := prog_1_method_44_code
def yX10_sum : MethodName := ⟨RX10, "sum", "(I)I"⟩
abbrev cX10_groups : ByteArray := prog_1_method_46_code
def yX10_groups : MethodName := ⟨RX10, "groups", "(I)I"⟩
abbrev cX10_ofGroup : ByteArray := prog_1_method_47_code
def yX10_ofGroup : MethodName := ⟨RX10, "ofGroup", "(IIII)I"⟩
abbrev cX10_keep : ByteArray := prog_1_method_48_code
def yX10_keep : MethodName := ⟨RX10, "keep", "()I"⟩
abbrev cX10_pairs : ByteArray := prog_1_method_49_code
def yX10_pairs : MethodName := ⟨RX10, "pairs", "(II)I"⟩
abbrev cX10_costWithout : ByteArray := prog_1_method_50_code
def yX10_costWithout : MethodName := ⟨RX10, "costWithout", "()I"⟩
abbrev cX10_wouldFind : ByteArray := prog_1_method_51_code
def yX10_wouldFind : MethodName := ⟨RX10, "wouldFind", "()I"⟩
abbrev cX10_digest : ByteArray := prog_1_method_53_code
def yX10_digest : MethodName := ⟨RX10, "digest", "()J"⟩
abbrev cX10_needColumn : ByteArray := prog_1_method_54_code
def yX10_needColumn : MethodName := ⟨RX10, "needColumn", "(I)V"⟩
abbrev cX10_needRow : ByteArray := prog_1_method_55_code
def yX10_needRow : MethodName := ⟨RX10, "needRow", "(I)V"⟩
abbrev cX10_needFrame : ByteArray := prog_1_method_56_code
def yX10_needFrame : MethodName := ⟨RX10, "needFrame", "(I)V"⟩
abbrev cX10_needRoom : ByteArray := prog_1_method_57_code
def yX10_needRoom : MethodName := ⟨RX10, "needRoom", "()V"⟩
abbrev cX10_zoneOf : ByteArray := prog_1_method_58_code
def yX10_zoneOf : MethodName := ⟨RX10, "zoneOf", "(II)LColdFrame$Zone;"⟩
abbrev cX10_mixed : ByteArray := prog_1_method_60_code
def yX10_mixed : MethodName := ⟨RX10, "mixed", "(JJ)J"⟩
abbrev cX10_digestOfCounts : ByteArray := prog_1_method_61_code
def yX10_digestOfCounts : MethodName := ⟨RX10, "digestOfCounts", "(J)J"⟩
abbrev cX10_digestOfRows : ByteArray := prog_1_method_62_code
def yX10_digestOfRows : MethodName := ⟨RX10, "digestOfRows", "(J)J"⟩
abbrev cX10_digestOfFrames : ByteArray := prog_1_method_63_code
def yX10_digestOfFrames : MethodName := ⟨RX10, "digestOfFrames", "(J)J"⟩
abbrev cX10_digestOfZone : ByteArray := prog_1_method_64_code
def yX10_digestOfZone : MethodName := ⟨RX10, "digestOfZone", "(JLColdFrame$Zone;)J"⟩
def RX11 : String := "ColdFrameModel"
def TX11 : u_T := fun k => match k with
  | _ => ("", "", "", false)
def tyX11 : Nat → FieldType := fun k => match k with
  | _ => .int
abbrev wsX110 : List Cond := u_ws RX11 TX11 0
theorem nmX11 : ∀ a, a < 0 → ∀ b, b < 0 → a ≠ b → (TX11 a).2.1 ≠ (TX11 b).2.1 := by decide +kernel
theorem tyX11_ok : ∀ k, k < 0 → parseFieldDescriptor (TX11 k).2.2.1 = some (tyX11 k) := by decide +kernel
def RJx145de : String := "java/io/Serializable"
def TJx145de : u_T := fun k => match k with
  | _ => ("", "", "", false)
def tyJx145de : Nat → FieldType := fun k => match k with
  | _ => .int
abbrev wsJx145de0 : List Cond := u_ws RJx145de TJx145de 0
theorem nmJx145de : ∀ a, a < 0 → ∀ b, b < 0 → a ≠ b → (TJx145de a).2.1 ≠ (TJx145de b).2.1 := by decide +kernel
theorem tyJx145de_ok : ∀ k, k < 0 → parseFieldDescriptor (TJx145de k).2.2.1 = some (tyJx145de k) := by decide +kernel
def RJx8e188 : String := "java/lang/Cloneable"
def TJx8e188 : u_T := fun k => match k with
  | _ => ("", "", "", false)
def tyJx8e188 : Nat → FieldType := fun k => match k with
  | _ => .int
abbrev wsJx8e1880 : List Cond := u_ws RJx8e188 TJx8e188 0
theorem nmJx8e188 : ∀ a, a < 0 → ∀ b, b < 0 → a ≠ b → (TJx8e188 a).2.1 ≠ (TJx8e188 b).2.1 := by decide +kernel
theorem tyJx8e188_ok : ∀ k, k < 0 → parseFieldDescriptor (TJx8e188 k).2.2.1 = some (tyJx8e188 k) := by decide +kernel
def RJxab1ab : String := "java/lang/Iterable"
def TJxab1ab : u_T := fun k => match k with
  | _ => ("", "", "", false)
def tyJxab1ab : Nat → FieldType := fun k => match k with
  | _ => .int
abbrev wsJxab1ab0 : List Cond := u_ws RJxab1ab TJxab1ab 0
theorem nmJxab1ab : ∀ a, a < 0 → ∀ b, b < 0 → a ≠ b → (TJxab1ab a).2.1 ≠ (TJxab1ab b).2.1 := by decide +kernel
theorem tyJxab1ab_ok : ∀ k, k < 0 → parseFieldDescriptor (TJxab1ab k).2.2.1 = some (tyJxab1ab k) := by decide +kernel
def RJ9 : String := "java/lang/Math"
def TJ9 : u_T := fun k => match k with
  | _ => ("", "", "", false)
def tyJ9 : Nat → FieldType := fun k => match k with
  | _ => .int
abbrev wsJ90 : List Cond := u_ws RJ9 TJ9 0
theorem nmJ9 : ∀ a, a < 0 → ∀ b, b < 0 → a ≠ b → (TJ9 a).2.1 ≠ (TJ9 b).2.1 := by decide +kernel
theorem tyJ9_ok : ∀ k, k < 0 → parseFieldDescriptor (TJ9 k).2.2.1 = some (tyJ9 k) := by decide +kernel
abbrev cJ9_max_7cf53 : ByteArray := prog_21_method_65_code
def yJ9_max_7cf53 : MethodName := ⟨RJ9, "max", "(II)I"⟩
abbrev cJ9_max_f86c9 : ByteArray := prog_21_method_66_code
def yJ9_max_f86c9 : MethodName := ⟨RJ9, "max", "(JJ)J"⟩
abbrev cJ9_min_7cf53 : ByteArray := prog_21_method_69_code
def yJ9_min_7cf53 : MethodName := ⟨RJ9, "min", "(II)I"⟩
abbrev cJ9_min_f86c9 : ByteArray := prog_21_method_70_code
def yJ9_min_f86c9 : MethodName := ⟨RJ9, "min", "(JJ)J"⟩
def RJ0 : String := "java/lang/String"
def TJ0 : u_T := fun k => match k with
  | _ => ("", "", "", false)
def tyJ0 : Nat → FieldType := fun k => match k with
  | _ => .int
abbrev wsJ00 : List Cond := u_ws RJ0 TJ0 0
theorem nmJ0 : ∀ a, a < 0 → ∀ b, b < 0 → a ≠ b → (TJ0 a).2.1 ≠ (TJ0 b).2.1 := by decide +kernel
theorem tyJ0_ok : ∀ k, k < 0 → parseFieldDescriptor (TJ0 k).2.2.1 = some (tyJ0 k) := by decide +kernel
def RJ10 : String := "java/lang/System"
def TJ10 : u_T := fun k => match k with
  | _ => ("", "", "", false)
def tyJ10 : Nat → FieldType := fun k => match k with
  | _ => .int
abbrev wsJ100 : List Cond := u_ws RJ10 TJ10 0
theorem nmJ10 : ∀ a, a < 0 → ∀ b, b < 0 → a ≠ b → (TJ10 a).2.1 ≠ (TJ10 b).2.1 := by decide +kernel
theorem tyJ10_ok : ∀ k, k < 0 → parseFieldDescriptor (TJ10 k).2.2.1 = some (tyJ10 k) := by decide +kernel
def RJxa1e45 : String := "java/util/AbstractCollection"
def TJxa1e45 : u_T := fun k => match k with
  | _ => ("", "", "", false)
def tyJxa1e45 : Nat → FieldType := fun k => match k with
  | _ => .int
abbrev wsJxa1e450 : List Cond := u_ws RJxa1e45 TJxa1e45 0
theorem nmJxa1e45 : ∀ a, a < 0 → ∀ b, b < 0 → a ≠ b → (TJxa1e45 a).2.1 ≠ (TJxa1e45 b).2.1 := by decide +kernel
theorem tyJxa1e45_ok : ∀ k, k < 0 → parseFieldDescriptor (TJxa1e45 k).2.2.1 = some (tyJxa1e45 k) := by decide +kernel
abbrev cJxa1e45_init_da8c8 : ByteArray := prog_26_method_1_code
def yJxa1e45_init_da8c8 : MethodName := ⟨RJxa1e45, "<init>", "()V"⟩
def RJxc12de : String := "java/util/AbstractList"
def TJxc12de : u_T := fun k => match k with
  | _ => ("", "", "", false)
def tyJxc12de : Nat → FieldType := fun k => match k with
  | _ => .int
abbrev wsJxc12de0 : List Cond := u_ws RJxc12de TJxc12de 0
theorem nmJxc12de : ∀ a, a < 0 → ∀ b, b < 0 → a ≠ b → (TJxc12de a).2.1 ≠ (TJxc12de b).2.1 := by decide +kernel
theorem tyJxc12de_ok : ∀ k, k < 0 → parseFieldDescriptor (TJxc12de k).2.2.1 = some (tyJxc12de k) := by decide +kernel
abbrev cJxc12de_init_da8c8 : ByteArray := prog_27_method_1_code
def yJxc12de_init_da8c8 : MethodName := ⟨RJxc12de, "<init>", "()V"⟩
def RJx4a65c : String := "java/util/ArrayList"
def TJx4a65c : u_T := fun k => match k with
  | 0 => ("java/util/AbstractList", "modCount", "I", false)
  | 1 => ("java/util/ArrayList", "elementData", "[Ljava/lang/Object;", false)
  | _ => ("java/util/ArrayList", "size", "I", false)
def tyJx4a65c : Nat → FieldType := fun k => match k with
  | 0 => .int
  | 1 => .array (.object "java/lang/Object")
  | _ => .int
abbrev wsJx4a65c0 : List Cond := u_ws RJx4a65c TJx4a65c 3
theorem nmJx4a65c : ∀ a, a < 3 → ∀ b, b < 3 → a ≠ b → (TJx4a65c a).2.1 ≠ (TJx4a65c b).2.1 := by decide +kernel
theorem tyJx4a65c_ok : ∀ k, k < 3 → parseFieldDescriptor (TJx4a65c k).2.2.1 = some (tyJx4a65c k) := by decide +kernel
abbrev cJx4a65c_init_da8c8 : ByteArray := prog_28_method_2_code
def yJx4a65c_init_da8c8 : MethodName := ⟨RJx4a65c, "<init>", "()V"⟩
abbrev cJx4a65c_grow_92f84 : ByteArray := prog_28_method_6_code
def yJx4a65c_grow_92f84 : MethodName := ⟨RJx4a65c, "grow", "(I)[Ljava/lang/Object;"⟩
abbrev cJx4a65c_grow_d5877 : ByteArray := prog_28_method_7_code
def yJx4a65c_grow_d5877 : MethodName := ⟨RJx4a65c, "grow", "()[Ljava/lang/Object;"⟩
abbrev cJx4a65c_size_8abf5 : ByteArray := prog_28_method_8_code
def yJx4a65c_size_8abf5 : MethodName := ⟨RJx4a65c, "size", "()I"⟩
abbrev cJx4a65c_isEmpty_aae02 : ByteArray := prog_28_method_9_code
def yJx4a65c_isEmpty_aae02 : MethodName := ⟨RJx4a65c, "isEmpty", "()Z"⟩
abbrev cJx4a65c_elementData_915e3 : ByteArray := prog_28_method_18_code
def yJx4a65c_elementData_915e3 : MethodName := ⟨RJx4a65c, "elementData", "(I)Ljava/lang/Object;"⟩
abbrev cJx4a65c_get_915e3 : ByteArray := prog_28_method_20_code
def yJx4a65c_get_915e3 : MethodName := ⟨RJx4a65c, "get", "(I)Ljava/lang/Object;"⟩
abbrev cJx4a65c_add_72be8 : ByteArray := prog_28_method_24_code
def yJx4a65c_add_72be8 : MethodName := ⟨RJx4a65c, "add", "(Ljava/lang/Object;[Ljava/lang/Object;I)V"⟩
abbrev cJx4a65c_add_9ea2d : ByteArray := prog_28_method_25_code
def yJx4a65c_add_9ea2d : MethodName := ⟨RJx4a65c, "add", "(Ljava/lang/Object;)Z"⟩
abbrev cJx4a65c_remove_915e3 : ByteArray := prog_28_method_29_code
def yJx4a65c_remove_915e3 : MethodName := ⟨RJx4a65c, "remove", "(I)Ljava/lang/Object;"⟩
abbrev cJx4a65c_fastRemove_b59b0 : ByteArray := prog_28_method_39_code
def yJx4a65c_fastRemove_b59b0 : MethodName := ⟨RJx4a65c, "fastRemove", "([Ljava/lang/Object;I)V"⟩
def RJ7 : String := "java/util/Arrays"
def TJ7 : u_T := fun k => match k with
  | _ => ("", "", "", false)
def tyJ7 : Nat → FieldType := fun k => match k with
  | _ => .int
abbrev wsJ70 : List Cond := u_ws RJ7 TJ7 0
theorem nmJ7 : ∀ a, a < 0 → ∀ b, b < 0 → a ≠ b → (TJ7 a).2.1 ≠ (TJ7 b).2.1 := by decide +kernel
theorem tyJ7_ok : ∀ k, k < 0 → parseFieldDescriptor (TJ7 k).2.2.1 = some (tyJ7 k) := by decide +kernel
abbrev cJ7_copyOf_1904c : ByteArray := prog_29_method_119_code
def yJ7_copyOf_1904c : MethodName := ⟨RJ7, "copyOf", "([Ljava/lang/Object;I)[Ljava/lang/Object;"⟩
abbrev cJ7_copyOf_6403c : ByteArray := prog_29_method_120_code
def yJ7_copyOf_6403c : MethodName := ⟨RJ7, "copyOf", "([Ljava/lang/Object;ILjava/lang/Class;)[Ljava/lang/Object;"⟩
def RJx5ef63 : String := "java/util/Collection"
def TJx5ef63 : u_T := fun k => match k with
  | _ => ("", "", "", false)
def tyJx5ef63 : Nat → FieldType := fun k => match k with
  | _ => .int
abbrev wsJx5ef630 : List Cond := u_ws RJx5ef63 TJx5ef63 0
theorem nmJx5ef63 : ∀ a, a < 0 → ∀ b, b < 0 → a ≠ b → (TJx5ef63 a).2.1 ≠ (TJx5ef63 b).2.1 := by decide +kernel
theorem tyJx5ef63_ok : ∀ k, k < 0 → parseFieldDescriptor (TJx5ef63 k).2.2.1 = some (tyJx5ef63 k) := by decide +kernel
def RJxbd725 : String := "java/util/List"
def TJxbd725 : u_T := fun k => match k with
  | _ => ("", "", "", false)
def tyJxbd725 : Nat → FieldType := fun k => match k with
  | _ => .int
abbrev wsJxbd7250 : List Cond := u_ws RJxbd725 TJxbd725 0
theorem nmJxbd725 : ∀ a, a < 0 → ∀ b, b < 0 → a ≠ b → (TJxbd725 a).2.1 ≠ (TJxbd725 b).2.1 := by decide +kernel
theorem tyJxbd725_ok : ∀ k, k < 0 → parseFieldDescriptor (TJxbd725 k).2.2.1 = some (tyJxbd725 k) := by decide +kernel
def RJ15 : String := "java/util/Objects"
def TJ15 : u_T := fun k => match k with
  | _ => ("", "", "", false)
def tyJ15 : Nat → FieldType := fun k => match k with
  | _ => .int
abbrev wsJ150 : List Cond := u_ws RJ15 TJ15 0
theorem nmJ15 : ∀ a, a < 0 → ∀ b, b < 0 → a ≠ b → (TJ15 a).2.1 ≠ (TJ15 b).2.1 := by decide +kernel
theorem tyJ15_ok : ∀ k, k < 0 → parseFieldDescriptor (TJ15 k).2.2.1 = some (tyJ15 k) := by decide +kernel
abbrev cJ15_checkIndex_7cf53 : ByteArray := prog_32_method_17_code
def yJ15_checkIndex_7cf53 : MethodName := ⟨RJ15, "checkIndex", "(II)I"⟩
def RJxf0a74 : String := "java/util/RandomAccess"
def TJxf0a74 : u_T := fun k => match k with
  | _ => ("", "", "", false)
def tyJxf0a74 : Nat → FieldType := fun k => match k with
  | _ => .int
abbrev wsJxf0a740 : List Cond := u_ws RJxf0a74 TJxf0a74 0
theorem nmJxf0a74 : ∀ a, a < 0 → ∀ b, b < 0 → a ≠ b → (TJxf0a74 a).2.1 ≠ (TJxf0a74 b).2.1 := by decide +kernel
theorem tyJxf0a74_ok : ∀ k, k < 0 → parseFieldDescriptor (TJxf0a74 k).2.2.1 = some (tyJxf0a74 k) := by decide +kernel
def RJxa66e6 : String := "java/util/SequencedCollection"
def TJxa66e6 : u_T := fun k => match k with
  | _ => ("", "", "", false)
def tyJxa66e6 : Nat → FieldType := fun k => match k with
  | _ => .int
abbrev wsJxa66e60 : List Cond := u_ws RJxa66e6 TJxa66e6 0
theorem nmJxa66e6 : ∀ a, a < 0 → ∀ b, b < 0 → a ≠ b → (TJxa66e6 a).2.1 ≠ (TJxa66e6 b).2.1 := by decide +kernel
theorem tyJxa66e6_ok : ∀ k, k < 0 → parseFieldDescriptor (TJxa66e6 k).2.2.1 = some (tyJxa66e6 k) := by decide +kernel
def RJ8 : String := "jdk/internal/util/ArraysSupport"
def TJ8 : u_T := fun k => match k with
  | _ => ("", "", "", false)
def tyJ8 : Nat → FieldType := fun k => match k with
  | _ => .int
abbrev wsJ80 : List Cond := u_ws RJ8 TJ8 0
theorem nmJ8 : ∀ a, a < 0 → ∀ b, b < 0 → a ≠ b → (TJ8 a).2.1 ≠ (TJ8 b).2.1 := by decide +kernel
theorem tyJ8_ok : ∀ k, k < 0 → parseFieldDescriptor (TJ8 k).2.2.1 = some (tyJ8 k) := by decide +kernel
abbrev cJ8_newLength_cabcc : ByteArray := prog_35_method_27_code
def yJ8_newLength_cabcc : MethodName := ⟨RJ8, "newLength", "(III)I"⟩
abbrev cJ8_hugeLength_7cf53 : ByteArray := prog_35_method_28_code
def yJ8_hugeLength_7cf53 : MethodName := ⟨RJ8, "hugeLength", "(II)I"⟩
def RJ3 : String := "jdk/internal/util/Preconditions"
def TJ3 : u_T := fun k => match k with
  | _ => ("", "", "", false)
def tyJ3 : Nat → FieldType := fun k => match k with
  | _ => .int
abbrev wsJ30 : List Cond := u_ws RJ3 TJ3 0
theorem nmJ3 : ∀ a, a < 0 → ∀ b, b < 0 → a ≠ b → (TJ3 a).2.1 ≠ (TJ3 b).2.1 := by decide +kernel
theorem tyJ3_ok : ∀ k, k < 0 → parseFieldDescriptor (TJ3 k).2.2.1 = some (tyJ3 k) := by decide +kernel
abbrev cJ3_checkIndex_8e157 : ByteArray := prog_36_method_11_code
def yJ3_checkIndex_8e157 : MethodName := ⟨RJ3, "checkIndex", "(IILjava/util/function/BiFunction;)I"⟩
def RL : String := "ColdFrameLaw"
abbrev cL_below : ByteArray := method_2_code
def yL_below : MethodName := ⟨RL, "below", "(II)I"⟩
abbrev cL_cell : ByteArray := method_3_code
def yL_cell : MethodName := ⟨RL, "cell", "([II)I"⟩
abbrev cL_law : ByteArray := code
def yL_law : MethodName := ⟨RL, "law", "([I)Z"⟩
abbrev cL_act : ByteArray := method_5_code
def yL_act : MethodName := ⟨RL, "act", "(LColdFrame;II)V"⟩
abbrev cL_isTableSound : ByteArray := method_6_code
def yL_isTableSound : MethodName := ⟨RL, "isTableSound", "(LColdFrame;I)Z"⟩
abbrev cL_isSearchSound : ByteArray := method_7_code
def yL_isSearchSound : MethodName := ⟨RL, "isSearchSound", "(LColdFrame;I)Z"⟩
abbrev vwCl : List vw_C := [(RJx4a65c, TJx4a65c, 3), (RX0, TX0, 4), (RX1, TX1, 5), (RX2, TX2, 3), (RX3, TX3, 2), (RX4, TX4, 2), (RX5, TX5, 7), (RX6, TX6, 10), (RX7, TX7, 2), (RX8, TX8, 11), (RX9, TX9, 9), (RX10, TX10, 6)]
end
section
theorem dX0_init_0 : decode cX0_init 0 = .ok (.aload_n 0, 1) := by decide +kernel
theorem dX0_init_1 : decode cX0_init 1 = .ok (.invokespecial 3, 3) := by decide +kernel
theorem dX0_init_4 : decode cX0_init 4 = .ok (.aload_n 0, 1) := by decide +kernel
theorem dX0_init_5 : decode cX0_init 5 = .ok (.bipush 64, 2) := by decide +kernel
theorem dX0_init_7 : decode cX0_init 7 = .ok (.newarray .int, 2) := by decide +kernel
theorem dX0_init_9 : decode cX0_init 9 = .ok (.putfield 9, 3) := by decide +kernel
theorem dX0_init_12 : decode cX0_init 12 = .ok (.aload_n 0, 1) := by decide +kernel
theorem dX0_init_13 : decode cX0_init 13 = .ok (.bipush 8, 2) := by decide +kernel
theorem dX0_init_15 : decode cX0_init 15 = .ok (.anewarray 15, 3) := by decide +kernel
theorem dX0_init_18 : decode cX0_init 18 = .ok (.putfield 17, 3) := by decide +kernel
theorem dX0_init_21 : decode cX0_init 21 = .ok (.iconst 0, 1) := by decide +kernel
theorem dX0_init_22 : decode cX0_init 22 = .ok (.istore_n 1, 1) := by decide +kernel
theorem dX0_init_23 : decode cX0_init 23 = .ok (.iload_n 1, 1) := by decide +kernel
theorem dX0_init_24 : decode cX0_init 24 = .ok (.bipush 8, 2) := by decide +kernel
theorem dX0_init_26 : decode cX0_init 26 = .ok (.if_icmp .ge 22, 3) := by decide +kernel
theorem dX0_init_29 : decode cX0_init 29 = .ok (.aload_n 0, 1) := by decide +kernel
theorem dX0_init_30 : decode cX0_init 30 = .ok (.getfield 17, 3) := by decide +kernel
theorem dX0_init_33 : decode cX0_init 33 = .ok (.iload_n 1, 1) := by decide +kernel
theorem dX0_init_34 : decode cX0_init 34 = .ok (.new 15, 3) := by decide +kernel
theorem dX0_init_37 : decode cX0_init 37 = .ok (.dup, 1) := by decide +kernel
theorem dX0_init_38 : decode cX0_init 38 = .ok (.invokespecial 21, 3) := by decide +kernel
theorem dX0_init_41 : decode cX0_init 41 = .ok (.aastore, 1) := by decide +kernel
theorem dX0_init_42 : decode cX0_init 42 = .ok (.iinc 1 1, 3) := by decide +kernel
theorem dX0_init_45 : decode cX0_init 45 = .ok (.goto (-22), 3) := by decide +kernel
theorem dX0_init_48 : decode cX0_init 48 = .ok (.return_, 1) := by decide +kernel
theorem dX0_append_0 : decode cX0_append 0 = .ok (.aload_n 0, 1) := by decide +kernel
theorem dX0_append_1 : decode cX0_append 1 = .ok (.getfield 22, 3) := by decide +kernel
theorem dX0_append_4 : decode cX0_append 4 = .ok (.bipush 64, 2) := by decide +kernel
theorem dX0_append_6 : decode cX0_append 6 = .ok (.if_icmp .ge 23, 3) := by decide +kernel
theorem dX0_append_9 : decode cX0_append 9 = .ok (.aload_n 0, 1) := by decide +kernel
theorem dX0_append_10 : decode cX0_append 10 = .ok (.getfield 9, 3) := by decide +kernel
theorem dX0_append_13 : decode cX0_append 13 = .ok (.aload_n 0, 1) := by decide +kernel
theorem dX0_append_14 : decode cX0_append 14 = .ok (.getfield 22, 3) := by decide +kernel
theorem dX0_append_17 : decode cX0_append 17 = .ok (.iload_n 1, 1) := by decide +kernel
theorem dX0_append_18 : decode cX0_append 18 = .ok (.iastore, 1) := by decide +kernel
theorem dX0_append_19 : decode cX0_append 19 = .ok (.aload_n 0, 1) := by decide +kernel
theorem dX0_append_20 : decode cX0_append 20 = .ok (.dup, 1) := by decide +kernel
theorem dX0_append_21 : decode cX0_append 21 = .ok (.getfield 22, 3) := by decide +kernel
theorem dX0_append_24 : decode cX0_append 24 = .ok (.iconst 1, 1) := by decide +kernel
theorem dX0_append_25 : decode cX0_append 25 = .ok (.iadd, 1) := by decide +kernel
theorem dX0_append_26 : decode cX0_append 26 = .ok (.putfield 22, 3) := by decide +kernel
theorem dX0_append_29 : decode cX0_append 29 = .ok (.return_, 1) := by decide +kernel
theorem dX0_reckon_0 : decode cX0_reckon 0 = .ok (.aload_n 0, 1) := by decide +kernel
theorem dX0_reckon_1 : decode cX0_reckon 1 = .ok (.iconst 0, 1) := by decide +kernel
theorem dX0_reckon_2 : decode cX0_reckon 2 = .ok (.putfield 26, 3) := by decide +kernel
theorem dX0_reckon_5 : decode cX0_reckon 5 = .ok (.iconst 0, 1) := by decide +kernel
theorem dX0_reckon_6 : decode cX0_reckon 6 = .ok (.istore 4, 2) := by decide +kernel
theorem dX0_reckon_8 : decode cX0_reckon 8 = .ok (.iload 4, 2) := by decide +kernel
theorem dX0_reckon_10 : decode cX0_reckon 10 = .ok (.aload_n 1, 1) := by decide +kernel
theorem dX0_reckon_11 : decode cX0_reckon 11 = .ok (.invokevirtual 29, 3) := by decide +kernel
theorem dX0_reckon_14 : decode cX0_reckon 14 = .ok (.if_icmp .ge 97, 3) := by decide +kernel
theorem dX0_reckon_17 : decode cX0_reckon 17 = .ok (.aload_n 1, 1) := by decide +kernel
theorem dX0_reckon_18 : decode cX0_reckon 18 = .ok (.iload 4, 2) := by decide +kernel
theorem dX0_reckon_20 : decode cX0_reckon 20 = .ok (.invokevirtual 35, 3) := by decide +kernel
theorem dX0_reckon_23 : decode cX0_reckon 23 = .ok (.checkcast 39, 3) := by decide +kernel
theorem dX0_reckon_26 : decode cX0_reckon 26 = .ok (.astore 5, 2) := by decide +kernel
theorem dX0_reckon_28 : decode cX0_reckon 28 = .ok (.aload_n 0, 1) := by decide +kernel
theorem dX0_reckon_29 : decode cX0_reckon 29 = .ok (.getfield 9, 3) := by decide +kernel
theorem dX0_reckon_32 : decode cX0_reckon 32 = .ok (.iconst 0, 1) := by decide +kernel
theorem dX0_reckon_33 : decode cX0_reckon 33 = .ok (.aload_n 2, 1) := by decide +kernel
theorem dX0_reckon_34 : decode cX0_reckon 34 = .ok (.iconst 0, 1) := by decide +kernel
theorem dX0_reckon_35 : decode cX0_reckon 35 = .ok (.aload_n 0, 1) := by decide +kernel
theorem dX0_reckon_36 : decode cX0_reckon 36 = .ok (.getfield 22, 3) := by decide +kernel
theorem dX0_reckon_39 : decode cX0_reckon 39 = .ok (.invokestatic 41, 3) := by decide +kernel
theorem dX0_reckon_42 : decode cX0_reckon 42 = .ok (.aload_n 3, 1) := by decide +kernel
theorem dX0_reckon_43 : decode cX0_reckon 43 = .ok (.aload_n 2, 1) := by decide +kernel
theorem dX0_reckon_44 : decode cX0_reckon 44 = .ok (.aload_n 0, 1) := by decide +kernel
theorem dX0_reckon_45 : decode cX0_reckon 45 = .ok (.getfield 22, 3) := by decide +kernel
theorem dX0_reckon_48 : decode cX0_reckon 48 = .ok (.aload 5, 2) := by decide +kernel
theorem dX0_reckon_50 : decode cX0_reckon 50 = .ok (.iconst 0, 1) := by decide +kernel
theorem dX0_reckon_51 : decode cX0_reckon 51 = .ok (.iconst 1, 1) := by decide +kernel
theorem dX0_reckon_52 : decode cX0_reckon 52 = .ok (.invokevirtual 47, 3) := by decide +kernel
theorem dX0_reckon_55 : decode cX0_reckon 55 = .ok (.aload_n 0, 1) := by decide +kernel
theorem dX0_reckon_56 : decode cX0_reckon 56 = .ok (.getfield 17, 3) := by decide +kernel
theorem dX0_reckon_59 : decode cX0_reckon 59 = .ok (.iload 4, 2) := by decide +kernel
theorem dX0_reckon_61 : decode cX0_reckon 61 = .ok (.aaload, 1) := by decide +kernel
theorem dX0_reckon_62 : decode cX0_reckon 62 = .ok (.aload 5, 2) := by decide +kernel
theorem dX0_reckon_64 : decode cX0_reckon 64 = .ok (.aload_n 0, 1) := by decide +kernel
theorem dX0_reckon_65 : decode cX0_reckon 65 = .ok (.getfield 9, 3) := by decide +kernel
theorem dX0_reckon_68 : decode cX0_reckon 68 = .ok (.aload_n 2, 1) := by decide +kernel
theorem dX0_reckon_69 : decode cX0_reckon 69 = .ok (.aload_n 0, 1) := by decide +kernel
theorem dX0_reckon_70 : decode cX0_reckon 70 = .ok (.getfield 22, 3) := by decide +kernel
theorem dX0_reckon_73 : decode cX0_reckon 73 = .ok (.invokevirtual 53, 3) := by decide +kernel
theorem dX0_reckon_76 : decode cX0_reckon 76 = .ok (.aload_n 0, 1) := by decide +kernel
theorem dX0_reckon_77 : decode cX0_reckon 77 = .ok (.dup, 1) := by decide +kernel
theorem dX0_reckon_78 : decode cX0_reckon 78 = .ok (.getfield 26, 3) := by decide +kernel
theorem dX0_reckon_81 : decode cX0_reckon 81 = .ok (.aload_n 0, 1) := by decide +kernel
theorem dX0_reckon_82 : decode cX0_reckon 82 = .ok (.getfield 17, 3) := by decide +kernel
theorem dX0_reckon_85 : decode cX0_reckon 85 = .ok (.iload 4, 2) := by decide +kernel
theorem dX0_reckon_87 : decode cX0_reckon 87 = .ok (.aaload, 1) := by decide +kernel
theorem dX0_reckon_88 : decode cX0_reckon 88 = .ok (.aload_n 0, 1) := by decide +kernel
theorem dX0_reckon_89 : decode cX0_reckon 89 = .ok (.getfield 17, 3) := by decide +kernel
theorem dX0_reckon_92 : decode cX0_reckon 92 = .ok (.iload 4, 2) := by decide +kernel
theorem dX0_reckon_94 : decode cX0_reckon 94 = .ok (.aaload, 1) := by decide +kernel
theorem dX0_reckon_95 : decode cX0_reckon 95 = .ok (.getfield 57, 3) := by decide +kernel
theorem dX0_reckon_98 : decode cX0_reckon 98 = .ok (.invokevirtual 60, 3) := by decide +kernel
theorem dX0_reckon_101 : decode cX0_reckon 101 = .ok (.iadd, 1) := by decide +kernel
theorem dX0_reckon_102 : decode cX0_reckon 102 = .ok (.putfield 26, 3) := by decide +kernel
theorem dX0_reckon_105 : decode cX0_reckon 105 = .ok (.iinc 4 1, 3) := by decide +kernel
theorem dX0_reckon_108 : decode cX0_reckon 108 = .ok (.goto (-100), 3) := by decide +kernel
theorem dX0_reckon_111 : decode cX0_reckon 111 = .ok (.return_, 1) := by decide +kernel
theorem dX1_init_0 : decode cX1_init 0 = .ok (.aload_n 0, 1) := by decide +kernel
theorem dX1_init_1 : decode cX1_init 1 = .ok (.invokespecial 3, 3) := by decide +kernel
theorem dX1_init_4 : decode cX1_init 4 = .ok (.aload_n 0, 1) := by decide +kernel
theorem dX1_init_5 : decode cX1_init 5 = .ok (.sipush 600, 3) := by decide +kernel
theorem dX1_init_8 : decode cX1_init 8 = .ok (.newarray .int, 2) := by decide +kernel
theorem dX1_init_10 : decode cX1_init 10 = .ok (.putfield 9, 3) := by decide +kernel
theorem dX1_init_13 : decode cX1_init 13 = .ok (.aload_n 0, 1) := by decide +kernel
theorem dX1_init_14 : decode cX1_init 14 = .ok (.sipush 600, 3) := by decide +kernel
theorem dX1_init_17 : decode cX1_init 17 = .ok (.newarray .boolean, 2) := by decide +kernel
theorem dX1_init_19 : decode cX1_init 19 = .ok (.putfield 15, 3) := by decide +kernel
theorem dX1_init_22 : decode cX1_init 22 = .ok (.return_, 1) := by decide +kernel
theorem dX1_giveNext_0 : decode cX1_giveNext 0 = .ok (.aload_n 0, 1) := by decide +kernel
theorem dX1_giveNext_1 : decode cX1_giveNext 1 = .ok (.iload_n 1, 1) := by decide +kernel
theorem dX1_giveNext_2 : decode cX1_giveNext 2 = .ok (.putfield 19, 3) := by decide +kernel
theorem dX1_giveNext_5 : decode cX1_giveNext 5 = .ok (.aload_n 0, 1) := by decide +kernel
theorem dX1_giveNext_6 : decode cX1_giveNext 6 = .ok (.iconst 1, 1) := by decide +kernel
theorem dX1_giveNext_7 : decode cX1_giveNext 7 = .ok (.putfield 23, 3) := by decide +kernel
theorem dX1_giveNext_10 : decode cX1_giveNext 10 = .ok (.return_, 1) := by decide +kernel
theorem dX1_takeGiven_0 : decode cX1_takeGiven 0 = .ok (.aload_n 0, 1) := by decide +kernel
theorem dX1_takeGiven_1 : decode cX1_takeGiven 1 = .ok (.getfield 9, 3) := by decide +kernel
theorem dX1_takeGiven_4 : decode cX1_takeGiven 4 = .ok (.iload_n 1, 1) := by decide +kernel
theorem dX1_takeGiven_5 : decode cX1_takeGiven 5 = .ok (.aload_n 0, 1) := by decide +kernel
theorem dX1_takeGiven_6 : decode cX1_takeGiven 6 = .ok (.getfield 23, 3) := by decide +kernel
theorem dX1_takeGiven_9 : decode cX1_takeGiven 9 = .ok (.ifCond .eq 10, 3) := by decide +kernel
theorem dX1_takeGiven_12 : decode cX1_takeGiven 12 = .ok (.aload_n 0, 1) := by decide +kernel
theorem dX1_takeGiven_13 : decode cX1_takeGiven 13 = .ok (.getfield 19, 3) := by decide +kernel
theorem dX1_takeGiven_16 : decode cX1_takeGiven 16 = .ok (.goto 4, 3) := by decide +kernel
theorem dX1_takeGiven_19 : decode cX1_takeGiven 19 = .ok (.iconst 0, 1) := by decide +kernel
theorem dX1_takeGiven_20 : decode cX1_takeGiven 20 = .ok (.iastore, 1) := by decide +kernel
theorem dX1_takeGiven_21 : decode cX1_takeGiven 21 = .ok (.aload_n 0, 1) := by decide +kernel
theorem dX1_takeGiven_22 : decode cX1_takeGiven 22 = .ok (.getfield 15, 3) := by decide +kernel
theorem dX1_takeGiven_25 : decode cX1_takeGiven 25 = .ok (.iload_n 1, 1) := by decide +kernel
theorem dX1_takeGiven_26 : decode cX1_takeGiven 26 = .ok (.aload_n 0, 1) := by decide +kernel
theorem dX1_takeGiven_27 : decode cX1_takeGiven 27 = .ok (.getfield 23, 3) := by decide +kernel
theorem dX1_takeGiven_30 : decode cX1_takeGiven 30 = .ok (.ifCond .ne 7, 3) := by decide +kernel
theorem dX1_takeGiven_33 : decode cX1_takeGiven 33 = .ok (.iconst 1, 1) := by decide +kernel
theorem dX1_takeGiven_34 : decode cX1_takeGiven 34 = .ok (.goto 4, 3) := by decide +kernel
theorem dX1_takeGiven_37 : decode cX1_takeGiven 37 = .ok (.iconst 0, 1) := by decide +kernel
theorem dX1_takeGiven_38 : decode cX1_takeGiven 38 = .ok (.bastore, 1) := by decide +kernel
theorem dX1_takeGiven_39 : decode cX1_takeGiven 39 = .ok (.aload_n 0, 1) := by decide +kernel
theorem dX1_takeGiven_40 : decode cX1_takeGiven 40 = .ok (.iconst 0, 1) := by decide +kernel
theorem dX1_takeGiven_41 : decode cX1_takeGiven 41 = .ok (.putfield 23, 3) := by decide +kernel
theorem dX1_takeGiven_44 : decode cX1_takeGiven 44 = .ok (.return_, 1) := by decide +kernel
theorem dX1_put_0 : decode cX1_put 0 = .ok (.aload_n 0, 1) := by decide +kernel
theorem dX1_put_1 : decode cX1_put 1 = .ok (.getfield 9, 3) := by decide +kernel
theorem dX1_put_4 : decode cX1_put 4 = .ok (.iload_n 1, 1) := by decide +kernel
theorem dX1_put_5 : decode cX1_put 5 = .ok (.iload_n 2, 1) := by decide +kernel
theorem dX1_put_6 : decode cX1_put 6 = .ok (.iastore, 1) := by decide +kernel
theorem dX1_put_7 : decode cX1_put 7 = .ok (.aload_n 0, 1) := by decide +kernel
theorem dX1_put_8 : decode cX1_put 8 = .ok (.getfield 15, 3) := by decide +kernel
theorem dX1_put_11 : decode cX1_put 11 = .ok (.iload_n 1, 1) := by decide +kernel
theorem dX1_put_12 : decode cX1_put 12 = .ok (.iconst 0, 1) := by decide +kernel
theorem dX1_put_13 : decode cX1_put 13 = .ok (.bastore, 1) := by decide +kernel
theorem dX1_put_14 : decode cX1_put 14 = .ok (.return_, 1) := by decide +kernel
theorem dX1_copy_0 : decode cX1_copy 0 = .ok (.aload_n 0, 1) := by decide +kernel
theorem dX1_copy_1 : decode cX1_copy 1 = .ok (.getfield 9, 3) := by decide +kernel
theorem dX1_copy_4 : decode cX1_copy 4 = .ok (.iload_n 2, 1) := by decide +kernel
theorem dX1_copy_5 : decode cX1_copy 5 = .ok (.aload_n 0, 1) := by decide +kernel
theorem dX1_copy_6 : decode cX1_copy 6 = .ok (.getfield 9, 3) := by decide +kernel
theorem dX1_copy_9 : decode cX1_copy 9 = .ok (.iload_n 1, 1) := by decide +kernel
theorem dX1_copy_10 : decode cX1_copy 10 = .ok (.iaload, 1) := by decide +kernel
theorem dX1_copy_11 : decode cX1_copy 11 = .ok (.iastore, 1) := by decide +kernel
theorem dX1_copy_12 : decode cX1_copy 12 = .ok (.aload_n 0, 1) := by decide +kernel
theorem dX1_copy_13 : decode cX1_copy 13 = .ok (.getfield 15, 3) := by decide +kernel
theorem dX1_copy_16 : decode cX1_copy 16 = .ok (.iload_n 2, 1) := by decide +kernel
theorem dX1_copy_17 : decode cX1_copy 17 = .ok (.aload_n 0, 1) := by decide +kernel
theorem dX1_copy_18 : decode cX1_copy 18 = .ok (.getfield 15, 3) := by decide +kernel
theorem dX1_copy_21 : decode cX1_copy 21 = .ok (.iload_n 1, 1) := by decide +kernel
theorem dX1_copy_22 : decode cX1_copy 22 = .ok (.baload, 1) := by decide +kernel
theorem dX1_copy_23 : decode cX1_copy 23 = .ok (.bastore, 1) := by decide +kernel
theorem dX1_copy_24 : decode cX1_copy 24 = .ok (.return_, 1) := by decide +kernel
theorem dX1_isSame_0 : decode cX1_isSame 0 = .ok (.aload_n 0, 1) := by decide +kernel
theorem dX1_isSame_1 : decode cX1_isSame 1 = .ok (.getfield 15, 3) := by decide +kernel
theorem dX1_isSame_4 : decode cX1_isSame 4 = .ok (.iload_n 1, 1) := by decide +kernel
theorem dX1_isSame_5 : decode cX1_isSame 5 = .ok (.baload, 1) := by decide +kernel
theorem dX1_isSame_6 : decode cX1_isSame 6 = .ok (.aload_n 0, 1) := by decide +kernel
theorem dX1_isSame_7 : decode cX1_isSame 7 = .ok (.getfield 15, 3) := by decide +kernel
theorem dX1_isSame_10 : decode cX1_isSame 10 = .ok (.iload_n 2, 1) := by decide +kernel
theorem dX1_isSame_11 : decode cX1_isSame 11 = .ok (.baload, 1) := by decide +kernel
theorem dX1_isSame_12 : decode cX1_isSame 12 = .ok (.if_icmp .ne 22, 3) := by decide +kernel
theorem dX1_isSame_15 : decode cX1_isSame 15 = .ok (.aload_n 0, 1) := by decide +kernel
theorem dX1_isSame_16 : decode cX1_isSame 16 = .ok (.getfield 9, 3) := by decide +kernel
theorem dX1_isSame_19 : decode cX1_isSame 19 = .ok (.iload_n 1, 1) := by decide +kernel
theorem dX1_isSame_20 : decode cX1_isSame 20 = .ok (.iaload, 1) := by decide +kernel
theorem dX1_isSame_21 : decode cX1_isSame 21 = .ok (.aload_n 0, 1) := by decide +kernel
theorem dX1_isSame_22 : decode cX1_isSame 22 = .ok (.getfield 9, 3) := by decide +kernel
theorem dX1_isSame_25 : decode cX1_isSame 25 = .ok (.iload_n 2, 1) := by decide +kernel
theorem dX1_isSame_26 : decode cX1_isSame 26 = .ok (.iaload, 1) := by decide +kernel
theorem dX1_isSame_27 : decode cX1_isSame 27 = .ok (.if_icmp .ne 7, 3) := by decide +kernel
theorem dX1_isSame_30 : decode cX1_isSame 30 = .ok (.iconst 1, 1) := by decide +kernel
theorem dX1_isSame_31 : decode cX1_isSame 31 = .ok (.goto 4, 3) := by decide +kernel
theorem dX1_isSame_34 : decode cX1_isSame 34 = .ok (.iconst 0, 1) := by decide +kernel
theorem dX1_isSame_35 : decode cX1_isSame 35 = .ok (.ireturn, 1) := by decide +kernel
theorem dX2_init_0 : decode cX2_init 0 = .ok (.aload_n 0, 1) := by decide +kernel
theorem dX2_init_1 : decode cX2_init 1 = .ok (.invokespecial 3, 3) := by decide +kernel
theorem dX2_init_4 : decode cX2_init 4 = .ok (.return_, 1) := by decide +kernel
theorem dX2_state_0 : decode cX2_state 0 = .ok (.aload_n 0, 1) := by decide +kernel
theorem dX2_state_1 : decode cX2_state 1 = .ok (.iload_n 1, 1) := by decide +kernel
theorem dX2_state_2 : decode cX2_state 2 = .ok (.putfield 9, 3) := by decide +kernel
theorem dX2_state_5 : decode cX2_state 5 = .ok (.aload_n 0, 1) := by decide +kernel
theorem dX2_state_6 : decode cX2_state 6 = .ok (.iload_n 2, 1) := by decide +kernel
theorem dX2_state_7 : decode cX2_state 7 = .ok (.putfield 15, 3) := by decide +kernel
theorem dX2_state_10 : decode cX2_state 10 = .ok (.aload_n 0, 1) := by decide +kernel
theorem dX2_state_11 : decode cX2_state 11 = .ok (.iload_n 3, 1) := by decide +kernel
theorem dX2_state_12 : decode cX2_state 12 = .ok (.putfield 18, 3) := by decide +kernel
theorem dX2_state_15 : decode cX2_state 15 = .ok (.return_, 1) := by decide +kernel
theorem dX2_isMetBy_0 : decode cX2_isMetBy 0 = .ok (.aload_n 0, 1) := by decide +kernel
theorem dX2_isMetBy_1 : decode cX2_isMetBy 1 = .ok (.getfield 15, 3) := by decide +kernel
theorem dX2_isMetBy_4 : decode cX2_isMetBy 4 = .ok (.tableswitch 168 0 7 #[48, 66, 84, 102, 120, 138, 156, 158], 48) := by decide +kernel
theorem dX2_isMetBy_52 : decode cX2_isMetBy 52 = .ok (.iload_n 1, 1) := by decide +kernel
theorem dX2_isMetBy_53 : decode cX2_isMetBy 53 = .ok (.ifCond .ne 15, 3) := by decide +kernel
theorem dX2_isMetBy_56 : decode cX2_isMetBy 56 = .ok (.iload_n 2, 1) := by decide +kernel
theorem dX2_isMetBy_57 : decode cX2_isMetBy 57 = .ok (.aload_n 0, 1) := by decide +kernel
theorem dX2_isMetBy_58 : decode cX2_isMetBy 58 = .ok (.getfield 18, 3) := by decide +kernel
theorem dX2_isMetBy_61 : decode cX2_isMetBy 61 = .ok (.if_icmp .ne 7, 3) := by decide +kernel
theorem dX2_isMetBy_64 : decode cX2_isMetBy 64 = .ok (.iconst 1, 1) := by decide +kernel
theorem dX2_isMetBy_65 : decode cX2_isMetBy 65 = .ok (.goto 4, 3) := by decide +kernel
theorem dX2_isMetBy_68 : decode cX2_isMetBy 68 = .ok (.iconst 0, 1) := by decide +kernel
theorem dX2_isMetBy_69 : decode cX2_isMetBy 69 = .ok (.ireturn, 1) := by decide +kernel
theorem dX2_isMetBy_70 : decode cX2_isMetBy 70 = .ok (.iload_n 1, 1) := by decide +kernel
theorem dX2_isMetBy_71 : decode cX2_isMetBy 71 = .ok (.ifCond .ne 15, 3) := by decide +kernel
theorem dX2_isMetBy_74 : decode cX2_isMetBy 74 = .ok (.iload_n 2, 1) := by decide +kernel
theorem dX2_isMetBy_75 : decode cX2_isMetBy 75 = .ok (.aload_n 0, 1) := by decide +kernel
theorem dX2_isMetBy_76 : decode cX2_isMetBy 76 = .ok (.getfield 18, 3) := by decide +kernel
theorem dX2_isMetBy_79 : decode cX2_isMetBy 79 = .ok (.if_icmp .eq 7, 3) := by decide +kernel
theorem dX2_isMetBy_82 : decode cX2_isMetBy 82 = .ok (.iconst 1, 1) := by decide +kernel
theorem dX2_isMetBy_83 : decode cX2_isMetBy 83 = .ok (.goto 4, 3) := by decide +kernel
theorem dX2_isMetBy_86 : decode cX2_isMetBy 86 = .ok (.iconst 0, 1) := by decide +kernel
theorem dX2_isMetBy_87 : decode cX2_isMetBy 87 = .ok (.ireturn, 1) := by decide +kernel
theorem dX2_isMetBy_88 : decode cX2_isMetBy 88 = .ok (.iload_n 1, 1) := by decide +kernel
theorem dX2_isMetBy_89 : decode cX2_isMetBy 89 = .ok (.ifCond .ne 15, 3) := by decide +kernel
theorem dX2_isMetBy_92 : decode cX2_isMetBy 92 = .ok (.iload_n 2, 1) := by decide +kernel
theorem dX2_isMetBy_93 : decode cX2_isMetBy 93 = .ok (.aload_n 0, 1) := by decide +kernel
theorem dX2_isMetBy_94 : decode cX2_isMetBy 94 = .ok (.getfield 18, 3) := by decide +kernel
theorem dX2_isMetBy_97 : decode cX2_isMetBy 97 = .ok (.if_icmp .ge 7, 3) := by decide +kernel
theorem dX2_isMetBy_100 : decode cX2_isMetBy 100 = .ok (.iconst 1, 1) := by decide +kernel
theorem dX2_isMetBy_101 : decode cX2_isMetBy 101 = .ok (.goto 4, 3) := by decide +kernel
theorem dX2_isMetBy_104 : decode cX2_isMetBy 104 = .ok (.iconst 0, 1) := by decide +kernel
theorem dX2_isMetBy_105 : decode cX2_isMetBy 105 = .ok (.ireturn, 1) := by decide +kernel
theorem dX2_isMetBy_106 : decode cX2_isMetBy 106 = .ok (.iload_n 1, 1) := by decide +kernel
theorem dX2_isMetBy_107 : decode cX2_isMetBy 107 = .ok (.ifCond .ne 15, 3) := by decide +kernel
theorem dX2_isMetBy_110 : decode cX2_isMetBy 110 = .ok (.iload_n 2, 1) := by decide +kernel
theorem dX2_isMetBy_111 : decode cX2_isMetBy 111 = .ok (.aload_n 0, 1) := by decide +kernel
theorem dX2_isMetBy_112 : decode cX2_isMetBy 112 = .ok (.getfield 18, 3) := by decide +kernel
theorem dX2_isMetBy_115 : decode cX2_isMetBy 115 = .ok (.if_icmp .gt 7, 3) := by decide +kernel
theorem dX2_isMetBy_118 : decode cX2_isMetBy 118 = .ok (.iconst 1, 1) := by decide +kernel
theorem dX2_isMetBy_119 : decode cX2_isMetBy 119 = .ok (.goto 4, 3) := by decide +kernel
theorem dX2_isMetBy_122 : decode cX2_isMetBy 122 = .ok (.iconst 0, 1) := by decide +kernel
theorem dX2_isMetBy_123 : decode cX2_isMetBy 123 = .ok (.ireturn, 1) := by decide +kernel
theorem dX2_isMetBy_124 : decode cX2_isMetBy 124 = .ok (.iload_n 1, 1) := by decide +kernel
theorem dX2_isMetBy_125 : decode cX2_isMetBy 125 = .ok (.ifCond .ne 15, 3) := by decide +kernel
theorem dX2_isMetBy_128 : decode cX2_isMetBy 128 = .ok (.iload_n 2, 1) := by decide +kernel
theorem dX2_isMetBy_129 : decode cX2_isMetBy 129 = .ok (.aload_n 0, 1) := by decide +kernel
theorem dX2_isMetBy_130 : decode cX2_isMetBy 130 = .ok (.getfield 18, 3) := by decide +kernel
theorem dX2_isMetBy_133 : decode cX2_isMetBy 133 = .ok (.if_icmp .le 7, 3) := by decide +kernel
theorem dX2_isMetBy_136 : decode cX2_isMetBy 136 = .ok (.iconst 1, 1) := by decide +kernel
theorem dX2_isMetBy_137 : decode cX2_isMetBy 137 = .ok (.goto 4, 3) := by decide +kernel
theorem dX2_isMetBy_140 : decode cX2_isMetBy 140 = .ok (.iconst 0, 1) := by decide +kernel
theorem dX2_isMetBy_141 : decode cX2_isMetBy 141 = .ok (.ireturn, 1) := by decide +kernel
theorem dX2_isMetBy_142 : decode cX2_isMetBy 142 = .ok (.iload_n 1, 1) := by decide +kernel
theorem dX2_isMetBy_143 : decode cX2_isMetBy 143 = .ok (.ifCond .ne 15, 3) := by decide +kernel
theorem dX2_isMetBy_146 : decode cX2_isMetBy 146 = .ok (.iload_n 2, 1) := by decide +kernel
theorem dX2_isMetBy_147 : decode cX2_isMetBy 147 = .ok (.aload_n 0, 1) := by decide +kernel
theorem dX2_isMetBy_148 : decode cX2_isMetBy 148 = .ok (.getfield 18, 3) := by decide +kernel
theorem dX2_isMetBy_151 : decode cX2_isMetBy 151 = .ok (.if_icmp .lt 7, 3) := by decide +kernel
theorem dX2_isMetBy_154 : decode cX2_isMetBy 154 = .ok (.iconst 1, 1) := by decide +kernel
theorem dX2_isMetBy_155 : decode cX2_isMetBy 155 = .ok (.goto 4, 3) := by decide +kernel
theorem dX2_isMetBy_158 : decode cX2_isMetBy 158 = .ok (.iconst 0, 1) := by decide +kernel
theorem dX2_isMetBy_159 : decode cX2_isMetBy 159 = .ok (.ireturn, 1) := by decide +kernel
theorem dX2_isMetBy_160 : decode cX2_isMetBy 160 = .ok (.iload_n 1, 1) := by decide +kernel
theorem dX2_isMetBy_161 : decode cX2_isMetBy 161 = .ok (.ireturn, 1) := by decide +kernel
theorem dX2_isMetBy_162 : decode cX2_isMetBy 162 = .ok (.iload_n 1, 1) := by decide +kernel
theorem dX2_isMetBy_163 : decode cX2_isMetBy 163 = .ok (.ifCond .ne 7, 3) := by decide +kernel
theorem dX2_isMetBy_166 : decode cX2_isMetBy 166 = .ok (.iconst 1, 1) := by decide +kernel
theorem dX2_isMetBy_167 : decode cX2_isMetBy 167 = .ok (.goto 4, 3) := by decide +kernel
theorem dX2_isMetBy_170 : decode cX2_isMetBy 170 = .ok (.iconst 0, 1) := by decide +kernel
theorem dX2_isMetBy_171 : decode cX2_isMetBy 171 = .ok (.ireturn, 1) := by decide +kernel
theorem dX2_isMetBy_172 : decode cX2_isMetBy 172 = .ok (.iconst 0, 1) := by decide +kernel
theorem dX2_isMetBy_173 : decode cX2_isMetBy 173 = .ok (.ireturn, 1) := by decide +kernel
theorem dX2_isMetByNone_0 : decode cX2_isMetByNone 0 = .ok (.aload_n 1, 1) := by decide +kernel
theorem dX2_isMetByNone_1 : decode cX2_isMetByNone 1 = .ok (.getfield 21, 3) := by decide +kernel
theorem dX2_isMetByNone_4 : decode cX2_isMetByNone 4 = .ok (.aload_n 1, 1) := by decide +kernel
theorem dX2_isMetByNone_5 : decode cX2_isMetByNone 5 = .ok (.getfield 26, 3) := by decide +kernel
theorem dX2_isMetByNone_8 : decode cX2_isMetByNone 8 = .ok (.if_icmp .ne 7, 3) := by decide +kernel
theorem dX2_isMetByNone_11 : decode cX2_isMetByNone 11 = .ok (.iconst 1, 1) := by decide +kernel
theorem dX2_isMetByNone_12 : decode cX2_isMetByNone 12 = .ok (.goto 4, 3) := by decide +kernel
theorem dX2_isMetByNone_15 : decode cX2_isMetByNone 15 = .ok (.iconst 0, 1) := by decide +kernel
theorem dX2_isMetByNone_16 : decode cX2_isMetByNone 16 = .ok (.istore_n 2, 1) := by decide +kernel
theorem dX2_isMetByNone_17 : decode cX2_isMetByNone 17 = .ok (.aload_n 0, 1) := by decide +kernel
theorem dX2_isMetByNone_18 : decode cX2_isMetByNone 18 = .ok (.getfield 15, 3) := by decide +kernel
theorem dX2_isMetByNone_21 : decode cX2_isMetByNone 21 = .ok (.tableswitch 210 0 7 #[47, 79, 111, 132, 153, 174, 195, 208], 47) := by decide +kernel
theorem dX2_isMetByNone_68 : decode cX2_isMetByNone 68 = .ok (.iload_n 2, 1) := by decide +kernel
theorem dX2_isMetByNone_69 : decode cX2_isMetByNone 69 = .ok (.ifCond .ne 25, 3) := by decide +kernel
theorem dX2_isMetByNone_72 : decode cX2_isMetByNone 72 = .ok (.aload_n 0, 1) := by decide +kernel
theorem dX2_isMetByNone_73 : decode cX2_isMetByNone 73 = .ok (.getfield 18, 3) := by decide +kernel
theorem dX2_isMetByNone_76 : decode cX2_isMetByNone 76 = .ok (.aload_n 1, 1) := by decide +kernel
theorem dX2_isMetByNone_77 : decode cX2_isMetByNone 77 = .ok (.getfield 29, 3) := by decide +kernel
theorem dX2_isMetByNone_80 : decode cX2_isMetByNone 80 = .ok (.if_icmp .lt 14, 3) := by decide +kernel
theorem dX2_isMetByNone_83 : decode cX2_isMetByNone 83 = .ok (.aload_n 0, 1) := by decide +kernel
theorem dX2_isMetByNone_84 : decode cX2_isMetByNone 84 = .ok (.getfield 18, 3) := by decide +kernel
theorem dX2_isMetByNone_87 : decode cX2_isMetByNone 87 = .ok (.aload_n 1, 1) := by decide +kernel
theorem dX2_isMetByNone_88 : decode cX2_isMetByNone 88 = .ok (.getfield 32, 3) := by decide +kernel
theorem dX2_isMetByNone_91 : decode cX2_isMetByNone 91 = .ok (.if_icmp .le 7, 3) := by decide +kernel
theorem dX2_isMetByNone_94 : decode cX2_isMetByNone 94 = .ok (.iconst 1, 1) := by decide +kernel
theorem dX2_isMetByNone_95 : decode cX2_isMetByNone 95 = .ok (.goto 4, 3) := by decide +kernel
theorem dX2_isMetByNone_98 : decode cX2_isMetByNone 98 = .ok (.iconst 0, 1) := by decide +kernel
theorem dX2_isMetByNone_99 : decode cX2_isMetByNone 99 = .ok (.ireturn, 1) := by decide +kernel
theorem dX2_isMetByNone_100 : decode cX2_isMetByNone 100 = .ok (.iload_n 2, 1) := by decide +kernel
theorem dX2_isMetByNone_101 : decode cX2_isMetByNone 101 = .ok (.ifCond .ne 25, 3) := by decide +kernel
theorem dX2_isMetByNone_104 : decode cX2_isMetByNone 104 = .ok (.aload_n 1, 1) := by decide +kernel
theorem dX2_isMetByNone_105 : decode cX2_isMetByNone 105 = .ok (.getfield 29, 3) := by decide +kernel
theorem dX2_isMetByNone_108 : decode cX2_isMetByNone 108 = .ok (.aload_n 0, 1) := by decide +kernel
theorem dX2_isMetByNone_109 : decode cX2_isMetByNone 109 = .ok (.getfield 18, 3) := by decide +kernel
theorem dX2_isMetByNone_112 : decode cX2_isMetByNone 112 = .ok (.if_icmp .ne 18, 3) := by decide +kernel
theorem dX2_isMetByNone_115 : decode cX2_isMetByNone 115 = .ok (.aload_n 1, 1) := by decide +kernel
theorem dX2_isMetByNone_116 : decode cX2_isMetByNone 116 = .ok (.getfield 32, 3) := by decide +kernel
theorem dX2_isMetByNone_119 : decode cX2_isMetByNone 119 = .ok (.aload_n 0, 1) := by decide +kernel
theorem dX2_isMetByNone_120 : decode cX2_isMetByNone 120 = .ok (.getfield 18, 3) := by decide +kernel
theorem dX2_isMetByNone_123 : decode cX2_isMetByNone 123 = .ok (.if_icmp .ne 7, 3) := by decide +kernel
theorem dX2_isMetByNone_126 : decode cX2_isMetByNone 126 = .ok (.iconst 1, 1) := by decide +kernel
theorem dX2_isMetByNone_127 : decode cX2_isMetByNone 127 = .ok (.goto 4, 3) := by decide +kernel
theorem dX2_isMetByNone_130 : decode cX2_isMetByNone 130 = .ok (.iconst 0, 1) := by decide +kernel
theorem dX2_isMetByNone_131 : decode cX2_isMetByNone 131 = .ok (.ireturn, 1) := by decide +kernel
theorem dX2_isMetByNone_132 : decode cX2_isMetByNone 132 = .ok (.iload_n 2, 1) := by decide +kernel
theorem dX2_isMetByNone_133 : decode cX2_isMetByNone 133 = .ok (.ifCond .ne 14, 3) := by decide +kernel
theorem dX2_isMetByNone_136 : decode cX2_isMetByNone 136 = .ok (.aload_n 1, 1) := by decide +kernel
theorem dX2_isMetByNone_137 : decode cX2_isMetByNone 137 = .ok (.getfield 29, 3) := by decide +kernel
theorem dX2_isMetByNone_140 : decode cX2_isMetByNone 140 = .ok (.aload_n 0, 1) := by decide +kernel
theorem dX2_isMetByNone_141 : decode cX2_isMetByNone 141 = .ok (.getfield 18, 3) := by decide +kernel
theorem dX2_isMetByNone_144 : decode cX2_isMetByNone 144 = .ok (.if_icmp .lt 7, 3) := by decide +kernel
theorem dX2_isMetByNone_147 : decode cX2_isMetByNone 147 = .ok (.iconst 1, 1) := by decide +kernel
theorem dX2_isMetByNone_148 : decode cX2_isMetByNone 148 = .ok (.goto 4, 3) := by decide +kernel
theorem dX2_isMetByNone_151 : decode cX2_isMetByNone 151 = .ok (.iconst 0, 1) := by decide +kernel
theorem dX2_isMetByNone_152 : decode cX2_isMetByNone 152 = .ok (.ireturn, 1) := by decide +kernel
theorem dX2_isMetByNone_153 : decode cX2_isMetByNone 153 = .ok (.iload_n 2, 1) := by decide +kernel
theorem dX2_isMetByNone_154 : decode cX2_isMetByNone 154 = .ok (.ifCond .ne 14, 3) := by decide +kernel
theorem dX2_isMetByNone_157 : decode cX2_isMetByNone 157 = .ok (.aload_n 1, 1) := by decide +kernel
theorem dX2_isMetByNone_158 : decode cX2_isMetByNone 158 = .ok (.getfield 29, 3) := by decide +kernel
theorem dX2_isMetByNone_161 : decode cX2_isMetByNone 161 = .ok (.aload_n 0, 1) := by decide +kernel
theorem dX2_isMetByNone_162 : decode cX2_isMetByNone 162 = .ok (.getfield 18, 3) := by decide +kernel
theorem dX2_isMetByNone_165 : decode cX2_isMetByNone 165 = .ok (.if_icmp .le 7, 3) := by decide +kernel
theorem dX2_isMetByNone_168 : decode cX2_isMetByNone 168 = .ok (.iconst 1, 1) := by decide +kernel
theorem dX2_isMetByNone_169 : decode cX2_isMetByNone 169 = .ok (.goto 4, 3) := by decide +kernel
theorem dX2_isMetByNone_172 : decode cX2_isMetByNone 172 = .ok (.iconst 0, 1) := by decide +kernel
theorem dX2_isMetByNone_173 : decode cX2_isMetByNone 173 = .ok (.ireturn, 1) := by decide +kernel
theorem dX2_isMetByNone_174 : decode cX2_isMetByNone 174 = .ok (.iload_n 2, 1) := by decide +kernel
theorem dX2_isMetByNone_175 : decode cX2_isMetByNone 175 = .ok (.ifCond .ne 14, 3) := by decide +kernel
theorem dX2_isMetByNone_178 : decode cX2_isMetByNone 178 = .ok (.aload_n 1, 1) := by decide +kernel
theorem dX2_isMetByNone_179 : decode cX2_isMetByNone 179 = .ok (.getfield 32, 3) := by decide +kernel
theorem dX2_isMetByNone_182 : decode cX2_isMetByNone 182 = .ok (.aload_n 0, 1) := by decide +kernel
theorem dX2_isMetByNone_183 : decode cX2_isMetByNone 183 = .ok (.getfield 18, 3) := by decide +kernel
theorem dX2_isMetByNone_186 : decode cX2_isMetByNone 186 = .ok (.if_icmp .gt 7, 3) := by decide +kernel
theorem dX2_isMetByNone_189 : decode cX2_isMetByNone 189 = .ok (.iconst 1, 1) := by decide +kernel
theorem dX2_isMetByNone_190 : decode cX2_isMetByNone 190 = .ok (.goto 4, 3) := by decide +kernel
theorem dX2_isMetByNone_193 : decode cX2_isMetByNone 193 = .ok (.iconst 0, 1) := by decide +kernel
theorem dX2_isMetByNone_194 : decode cX2_isMetByNone 194 = .ok (.ireturn, 1) := by decide +kernel
theorem dX2_isMetByNone_195 : decode cX2_isMetByNone 195 = .ok (.iload_n 2, 1) := by decide +kernel
theorem dX2_isMetByNone_196 : decode cX2_isMetByNone 196 = .ok (.ifCond .ne 14, 3) := by decide +kernel
theorem dX2_isMetByNone_199 : decode cX2_isMetByNone 199 = .ok (.aload_n 1, 1) := by decide +kernel
theorem dX2_isMetByNone_200 : decode cX2_isMetByNone 200 = .ok (.getfield 32, 3) := by decide +kernel
theorem dX2_isMetByNone_203 : decode cX2_isMetByNone 203 = .ok (.aload_n 0, 1) := by decide +kernel
theorem dX2_isMetByNone_204 : decode cX2_isMetByNone 204 = .ok (.getfield 18, 3) := by decide +kernel
theorem dX2_isMetByNone_207 : decode cX2_isMetByNone 207 = .ok (.if_icmp .ge 7, 3) := by decide +kernel
theorem dX2_isMetByNone_210 : decode cX2_isMetByNone 210 = .ok (.iconst 1, 1) := by decide +kernel
theorem dX2_isMetByNone_211 : decode cX2_isMetByNone 211 = .ok (.goto 4, 3) := by decide +kernel
theorem dX2_isMetByNone_214 : decode cX2_isMetByNone 214 = .ok (.iconst 0, 1) := by decide +kernel
theorem dX2_isMetByNone_215 : decode cX2_isMetByNone 215 = .ok (.ireturn, 1) := by decide +kernel
theorem dX2_isMetByNone_216 : decode cX2_isMetByNone 216 = .ok (.aload_n 1, 1) := by decide +kernel
theorem dX2_isMetByNone_217 : decode cX2_isMetByNone 217 = .ok (.getfield 21, 3) := by decide +kernel
theorem dX2_isMetByNone_220 : decode cX2_isMetByNone 220 = .ok (.ifCond .ne 7, 3) := by decide +kernel
theorem dX2_isMetByNone_223 : decode cX2_isMetByNone 223 = .ok (.iconst 1, 1) := by decide +kernel
theorem dX2_isMetByNone_224 : decode cX2_isMetByNone 224 = .ok (.goto 4, 3) := by decide +kernel
theorem dX2_isMetByNone_227 : decode cX2_isMetByNone 227 = .ok (.iconst 0, 1) := by decide +kernel
theorem dX2_isMetByNone_228 : decode cX2_isMetByNone 228 = .ok (.ireturn, 1) := by decide +kernel
theorem dX2_isMetByNone_229 : decode cX2_isMetByNone 229 = .ok (.iload_n 2, 1) := by decide +kernel
theorem dX2_isMetByNone_230 : decode cX2_isMetByNone 230 = .ok (.ireturn, 1) := by decide +kernel
theorem dX2_isMetByNone_231 : decode cX2_isMetByNone 231 = .ok (.iconst 1, 1) := by decide +kernel
theorem dX2_isMetByNone_232 : decode cX2_isMetByNone 232 = .ok (.ireturn, 1) := by decide +kernel
theorem dX2_isMetByAll_0 : decode cX2_isMetByAll 0 = .ok (.aload_n 1, 1) := by decide +kernel
theorem dX2_isMetByAll_1 : decode cX2_isMetByAll 1 = .ok (.getfield 21, 3) := by decide +kernel
theorem dX2_isMetByAll_4 : decode cX2_isMetByAll 4 = .ok (.ifCond .ne 7, 3) := by decide +kernel
theorem dX2_isMetByAll_7 : decode cX2_isMetByAll 7 = .ok (.iconst 1, 1) := by decide +kernel
theorem dX2_isMetByAll_8 : decode cX2_isMetByAll 8 = .ok (.goto 4, 3) := by decide +kernel
theorem dX2_isMetByAll_11 : decode cX2_isMetByAll 11 = .ok (.iconst 0, 1) := by decide +kernel
theorem dX2_isMetByAll_12 : decode cX2_isMetByAll 12 = .ok (.istore_n 2, 1) := by decide +kernel
theorem dX2_isMetByAll_13 : decode cX2_isMetByAll 13 = .ok (.aload_n 0, 1) := by decide +kernel
theorem dX2_isMetByAll_14 : decode cX2_isMetByAll 14 = .ok (.getfield 15, 3) := by decide +kernel
theorem dX2_isMetByAll_17 : decode cX2_isMetByAll 17 = .ok (.tableswitch 214 0 7 #[47, 79, 111, 132, 153, 174, 195, 212], 47) := by decide +kernel
theorem dX2_isMetByAll_64 : decode cX2_isMetByAll 64 = .ok (.iload_n 2, 1) := by decide +kernel
theorem dX2_isMetByAll_65 : decode cX2_isMetByAll 65 = .ok (.ifCond .eq 29, 3) := by decide +kernel
theorem dX2_isMetByAll_68 : decode cX2_isMetByAll 68 = .ok (.aload_n 1, 1) := by decide +kernel
theorem dX2_isMetByAll_69 : decode cX2_isMetByAll 69 = .ok (.getfield 29, 3) := by decide +kernel
theorem dX2_isMetByAll_72 : decode cX2_isMetByAll 72 = .ok (.aload_n 0, 1) := by decide +kernel
theorem dX2_isMetByAll_73 : decode cX2_isMetByAll 73 = .ok (.getfield 18, 3) := by decide +kernel
theorem dX2_isMetByAll_76 : decode cX2_isMetByAll 76 = .ok (.if_icmp .ne 18, 3) := by decide +kernel
theorem dX2_isMetByAll_79 : decode cX2_isMetByAll 79 = .ok (.aload_n 1, 1) := by decide +kernel
theorem dX2_isMetByAll_80 : decode cX2_isMetByAll 80 = .ok (.getfield 32, 3) := by decide +kernel
theorem dX2_isMetByAll_83 : decode cX2_isMetByAll 83 = .ok (.aload_n 0, 1) := by decide +kernel
theorem dX2_isMetByAll_84 : decode cX2_isMetByAll 84 = .ok (.getfield 18, 3) := by decide +kernel
theorem dX2_isMetByAll_87 : decode cX2_isMetByAll 87 = .ok (.if_icmp .ne 7, 3) := by decide +kernel
theorem dX2_isMetByAll_90 : decode cX2_isMetByAll 90 = .ok (.iconst 1, 1) := by decide +kernel
theorem dX2_isMetByAll_91 : decode cX2_isMetByAll 91 = .ok (.goto 4, 3) := by decide +kernel
theorem dX2_isMetByAll_94 : decode cX2_isMetByAll 94 = .ok (.iconst 0, 1) := by decide +kernel
theorem dX2_isMetByAll_95 : decode cX2_isMetByAll 95 = .ok (.ireturn, 1) := by decide +kernel
theorem dX2_isMetByAll_96 : decode cX2_isMetByAll 96 = .ok (.iload_n 2, 1) := by decide +kernel
theorem dX2_isMetByAll_97 : decode cX2_isMetByAll 97 = .ok (.ifCond .eq 29, 3) := by decide +kernel
theorem dX2_isMetByAll_100 : decode cX2_isMetByAll 100 = .ok (.aload_n 0, 1) := by decide +kernel
theorem dX2_isMetByAll_101 : decode cX2_isMetByAll 101 = .ok (.getfield 18, 3) := by decide +kernel
theorem dX2_isMetByAll_104 : decode cX2_isMetByAll 104 = .ok (.aload_n 1, 1) := by decide +kernel
theorem dX2_isMetByAll_105 : decode cX2_isMetByAll 105 = .ok (.getfield 29, 3) := by decide +kernel
theorem dX2_isMetByAll_108 : decode cX2_isMetByAll 108 = .ok (.if_icmp .lt 14, 3) := by decide +kernel
theorem dX2_isMetByAll_111 : decode cX2_isMetByAll 111 = .ok (.aload_n 0, 1) := by decide +kernel
theorem dX2_isMetByAll_112 : decode cX2_isMetByAll 112 = .ok (.getfield 18, 3) := by decide +kernel
theorem dX2_isMetByAll_115 : decode cX2_isMetByAll 115 = .ok (.aload_n 1, 1) := by decide +kernel
theorem dX2_isMetByAll_116 : decode cX2_isMetByAll 116 = .ok (.getfield 32, 3) := by decide +kernel
theorem dX2_isMetByAll_119 : decode cX2_isMetByAll 119 = .ok (.if_icmp .le 7, 3) := by decide +kernel
theorem dX2_isMetByAll_122 : decode cX2_isMetByAll 122 = .ok (.iconst 1, 1) := by decide +kernel
theorem dX2_isMetByAll_123 : decode cX2_isMetByAll 123 = .ok (.goto 4, 3) := by decide +kernel
theorem dX2_isMetByAll_126 : decode cX2_isMetByAll 126 = .ok (.iconst 0, 1) := by decide +kernel
theorem dX2_isMetByAll_127 : decode cX2_isMetByAll 127 = .ok (.ireturn, 1) := by decide +kernel
theorem dX2_isMetByAll_128 : decode cX2_isMetByAll 128 = .ok (.iload_n 2, 1) := by decide +kernel
theorem dX2_isMetByAll_129 : decode cX2_isMetByAll 129 = .ok (.ifCond .eq 18, 3) := by decide +kernel
theorem dX2_isMetByAll_132 : decode cX2_isMetByAll 132 = .ok (.aload_n 1, 1) := by decide +kernel
theorem dX2_isMetByAll_133 : decode cX2_isMetByAll 133 = .ok (.getfield 32, 3) := by decide +kernel
theorem dX2_isMetByAll_136 : decode cX2_isMetByAll 136 = .ok (.aload_n 0, 1) := by decide +kernel
theorem dX2_isMetByAll_137 : decode cX2_isMetByAll 137 = .ok (.getfield 18, 3) := by decide +kernel
theorem dX2_isMetByAll_140 : decode cX2_isMetByAll 140 = .ok (.if_icmp .ge 7, 3) := by decide +kernel
theorem dX2_isMetByAll_143 : decode cX2_isMetByAll 143 = .ok (.iconst 1, 1) := by decide +kernel
theorem dX2_isMetByAll_144 : decode cX2_isMetByAll 144 = .ok (.goto 4, 3) := by decide +kernel
theorem dX2_isMetByAll_147 : decode cX2_isMetByAll 147 = .ok (.iconst 0, 1) := by decide +kernel
theorem dX2_isMetByAll_148 : decode cX2_isMetByAll 148 = .ok (.ireturn, 1) := by decide +kernel
theorem dX2_isMetByAll_149 : decode cX2_isMetByAll 149 = .ok (.iload_n 2, 1) := by decide +kernel
theorem dX2_isMetByAll_150 : decode cX2_isMetByAll 150 = .ok (.ifCond .eq 18, 3) := by decide +kernel
theorem dX2_isMetByAll_153 : decode cX2_isMetByAll 153 = .ok (.aload_n 1, 1) := by decide +kernel
theorem dX2_isMetByAll_154 : decode cX2_isMetByAll 154 = .ok (.getfield 32, 3) := by decide +kernel
theorem dX2_isMetByAll_157 : decode cX2_isMetByAll 157 = .ok (.aload_n 0, 1) := by decide +kernel
theorem dX2_isMetByAll_158 : decode cX2_isMetByAll 158 = .ok (.getfield 18, 3) := by decide +kernel
theorem dX2_isMetByAll_161 : decode cX2_isMetByAll 161 = .ok (.if_icmp .gt 7, 3) := by decide +kernel
theorem dX2_isMetByAll_164 : decode cX2_isMetByAll 164 = .ok (.iconst 1, 1) := by decide +kernel
theorem dX2_isMetByAll_165 : decode cX2_isMetByAll 165 = .ok (.goto 4, 3) := by decide +kernel
theorem dX2_isMetByAll_168 : decode cX2_isMetByAll 168 = .ok (.iconst 0, 1) := by decide +kernel
theorem dX2_isMetByAll_169 : decode cX2_isMetByAll 169 = .ok (.ireturn, 1) := by decide +kernel
theorem dX2_isMetByAll_170 : decode cX2_isMetByAll 170 = .ok (.iload_n 2, 1) := by decide +kernel
theorem dX2_isMetByAll_171 : decode cX2_isMetByAll 171 = .ok (.ifCond .eq 18, 3) := by decide +kernel
theorem dX2_isMetByAll_174 : decode cX2_isMetByAll 174 = .ok (.aload_n 1, 1) := by decide +kernel
theorem dX2_isMetByAll_175 : decode cX2_isMetByAll 175 = .ok (.getfield 29, 3) := by decide +kernel
theorem dX2_isMetByAll_178 : decode cX2_isMetByAll 178 = .ok (.aload_n 0, 1) := by decide +kernel
theorem dX2_isMetByAll_179 : decode cX2_isMetByAll 179 = .ok (.getfield 18, 3) := by decide +kernel
theorem dX2_isMetByAll_182 : decode cX2_isMetByAll 182 = .ok (.if_icmp .le 7, 3) := by decide +kernel
theorem dX2_isMetByAll_185 : decode cX2_isMetByAll 185 = .ok (.iconst 1, 1) := by decide +kernel
theorem dX2_isMetByAll_186 : decode cX2_isMetByAll 186 = .ok (.goto 4, 3) := by decide +kernel
theorem dX2_isMetByAll_189 : decode cX2_isMetByAll 189 = .ok (.iconst 0, 1) := by decide +kernel
theorem dX2_isMetByAll_190 : decode cX2_isMetByAll 190 = .ok (.ireturn, 1) := by decide +kernel
theorem dX2_isMetByAll_191 : decode cX2_isMetByAll 191 = .ok (.iload_n 2, 1) := by decide +kernel
theorem dX2_isMetByAll_192 : decode cX2_isMetByAll 192 = .ok (.ifCond .eq 18, 3) := by decide +kernel
theorem dX2_isMetByAll_195 : decode cX2_isMetByAll 195 = .ok (.aload_n 1, 1) := by decide +kernel
theorem dX2_isMetByAll_196 : decode cX2_isMetByAll 196 = .ok (.getfield 29, 3) := by decide +kernel
theorem dX2_isMetByAll_199 : decode cX2_isMetByAll 199 = .ok (.aload_n 0, 1) := by decide +kernel
theorem dX2_isMetByAll_200 : decode cX2_isMetByAll 200 = .ok (.getfield 18, 3) := by decide +kernel
theorem dX2_isMetByAll_203 : decode cX2_isMetByAll 203 = .ok (.if_icmp .lt 7, 3) := by decide +kernel
theorem dX2_isMetByAll_206 : decode cX2_isMetByAll 206 = .ok (.iconst 1, 1) := by decide +kernel
theorem dX2_isMetByAll_207 : decode cX2_isMetByAll 207 = .ok (.goto 4, 3) := by decide +kernel
theorem dX2_isMetByAll_210 : decode cX2_isMetByAll 210 = .ok (.iconst 0, 1) := by decide +kernel
theorem dX2_isMetByAll_211 : decode cX2_isMetByAll 211 = .ok (.ireturn, 1) := by decide +kernel
theorem dX2_isMetByAll_212 : decode cX2_isMetByAll 212 = .ok (.aload_n 1, 1) := by decide +kernel
theorem dX2_isMetByAll_213 : decode cX2_isMetByAll 213 = .ok (.getfield 21, 3) := by decide +kernel
theorem dX2_isMetByAll_216 : decode cX2_isMetByAll 216 = .ok (.aload_n 1, 1) := by decide +kernel
theorem dX2_isMetByAll_217 : decode cX2_isMetByAll 217 = .ok (.getfield 26, 3) := by decide +kernel
theorem dX2_isMetByAll_220 : decode cX2_isMetByAll 220 = .ok (.if_icmp .ne 7, 3) := by decide +kernel
theorem dX2_isMetByAll_223 : decode cX2_isMetByAll 223 = .ok (.iconst 1, 1) := by decide +kernel
theorem dX2_isMetByAll_224 : decode cX2_isMetByAll 224 = .ok (.goto 4, 3) := by decide +kernel
theorem dX2_isMetByAll_227 : decode cX2_isMetByAll 227 = .ok (.iconst 0, 1) := by decide +kernel
theorem dX2_isMetByAll_228 : decode cX2_isMetByAll 228 = .ok (.ireturn, 1) := by decide +kernel
theorem dX2_isMetByAll_229 : decode cX2_isMetByAll 229 = .ok (.iload_n 2, 1) := by decide +kernel
theorem dX2_isMetByAll_230 : decode cX2_isMetByAll 230 = .ok (.ireturn, 1) := by decide +kernel
theorem dX2_isMetByAll_231 : decode cX2_isMetByAll 231 = .ok (.iconst 0, 1) := by decide +kernel
theorem dX2_isMetByAll_232 : decode cX2_isMetByAll 232 = .ok (.ireturn, 1) := by decide +kernel
theorem dX2_methodIn_0 : decode cX2_methodIn 0 = .ok (.aload_n 0, 1) := by decide +kernel
theorem dX2_methodIn_1 : decode cX2_methodIn 1 = .ok (.aload_n 1, 1) := by decide +kernel
theorem dX2_methodIn_2 : decode cX2_methodIn 2 = .ok (.invokevirtual 35, 3) := by decide +kernel
theorem dX2_methodIn_5 : decode cX2_methodIn 5 = .ok (.ifCond .eq 5, 3) := by decide +kernel
theorem dX2_methodIn_8 : decode cX2_methodIn 8 = .ok (.iconst 0, 1) := by decide +kernel
theorem dX2_methodIn_9 : decode cX2_methodIn 9 = .ok (.ireturn, 1) := by decide +kernel
theorem dX2_methodIn_10 : decode cX2_methodIn 10 = .ok (.aload_n 0, 1) := by decide +kernel
theorem dX2_methodIn_11 : decode cX2_methodIn 11 = .ok (.aload_n 1, 1) := by decide +kernel
theorem dX2_methodIn_12 : decode cX2_methodIn 12 = .ok (.invokevirtual 39, 3) := by decide +kernel
theorem dX2_methodIn_15 : decode cX2_methodIn 15 = .ok (.ifCond .eq 5, 3) := by decide +kernel
theorem dX2_methodIn_18 : decode cX2_methodIn 18 = .ok (.iconst 1, 1) := by decide +kernel
theorem dX2_methodIn_19 : decode cX2_methodIn 19 = .ok (.ireturn, 1) := by decide +kernel
theorem dX2_methodIn_20 : decode cX2_methodIn 20 = .ok (.iload_n 2, 1) := by decide +kernel
theorem dX2_methodIn_21 : decode cX2_methodIn 21 = .ok (.ifCond .eq 21, 3) := by decide +kernel
theorem dX2_methodIn_24 : decode cX2_methodIn 24 = .ok (.aload_n 1, 1) := by decide +kernel
theorem dX2_methodIn_25 : decode cX2_methodIn 25 = .ok (.invokevirtual 42, 3) := by decide +kernel
theorem dX2_methodIn_28 : decode cX2_methodIn 28 = .ok (.ifCond .eq 14, 3) := by decide +kernel
theorem dX2_methodIn_31 : decode cX2_methodIn 31 = .ok (.aload_n 0, 1) := by decide +kernel
theorem dX2_methodIn_32 : decode cX2_methodIn 32 = .ok (.getfield 15, 3) := by decide +kernel
theorem dX2_methodIn_35 : decode cX2_methodIn 35 = .ok (.bipush 6, 2) := by decide +kernel
theorem dX2_methodIn_37 : decode cX2_methodIn 37 = .ok (.if_icmp .ge 5, 3) := by decide +kernel
theorem dX2_methodIn_40 : decode cX2_methodIn 40 = .ok (.iconst 2, 1) := by decide +kernel
theorem dX2_methodIn_41 : decode cX2_methodIn 41 = .ok (.ireturn, 1) := by decide +kernel
theorem dX2_methodIn_42 : decode cX2_methodIn 42 = .ok (.aload_n 1, 1) := by decide +kernel
theorem dX2_methodIn_43 : decode cX2_methodIn 43 = .ok (.getfield 46, 3) := by decide +kernel
theorem dX2_methodIn_46 : decode cX2_methodIn 46 = .ok (.iconst 2, 1) := by decide +kernel
theorem dX2_methodIn_47 : decode cX2_methodIn 47 = .ok (.if_icmp .ne 5, 3) := by decide +kernel
theorem dX2_methodIn_50 : decode cX2_methodIn 50 = .ok (.iconst 3, 1) := by decide +kernel
theorem dX2_methodIn_51 : decode cX2_methodIn 51 = .ok (.ireturn, 1) := by decide +kernel
theorem dX2_methodIn_52 : decode cX2_methodIn 52 = .ok (.aload_n 1, 1) := by decide +kernel
theorem dX2_methodIn_53 : decode cX2_methodIn 53 = .ok (.getfield 46, 3) := by decide +kernel
theorem dX2_methodIn_56 : decode cX2_methodIn 56 = .ok (.iconst 3, 1) := by decide +kernel
theorem dX2_methodIn_57 : decode cX2_methodIn 57 = .ok (.if_icmp .ne 7, 3) := by decide +kernel
theorem dX2_methodIn_60 : decode cX2_methodIn 60 = .ok (.iconst 4, 1) := by decide +kernel
theorem dX2_methodIn_61 : decode cX2_methodIn 61 = .ok (.goto 4, 3) := by decide +kernel
theorem dX2_methodIn_64 : decode cX2_methodIn 64 = .ok (.iconst 5, 1) := by decide +kernel
theorem dX2_methodIn_65 : decode cX2_methodIn 65 = .ok (.ireturn, 1) := by decide +kernel
theorem dX2_guessIn_0 : decode cX2_guessIn 0 = .ok (.aload_n 0, 1) := by decide +kernel
theorem dX2_guessIn_1 : decode cX2_guessIn 1 = .ok (.aload_n 1, 1) := by decide +kernel
theorem dX2_guessIn_2 : decode cX2_guessIn 2 = .ok (.invokevirtual 35, 3) := by decide +kernel
theorem dX2_guessIn_5 : decode cX2_guessIn 5 = .ok (.ifCond .eq 5, 3) := by decide +kernel
theorem dX2_guessIn_8 : decode cX2_guessIn 8 = .ok (.iconst 0, 1) := by decide +kernel
theorem dX2_guessIn_9 : decode cX2_guessIn 9 = .ok (.ireturn, 1) := by decide +kernel
theorem dX2_guessIn_10 : decode cX2_guessIn 10 = .ok (.aload_n 0, 1) := by decide +kernel
theorem dX2_guessIn_11 : decode cX2_guessIn 11 = .ok (.aload_n 1, 1) := by decide +kernel
theorem dX2_guessIn_12 : decode cX2_guessIn 12 = .ok (.invokevirtual 39, 3) := by decide +kernel
theorem dX2_guessIn_15 : decode cX2_guessIn 15 = .ok (.ifCond .eq 8, 3) := by decide +kernel
theorem dX2_guessIn_18 : decode cX2_guessIn 18 = .ok (.aload_n 1, 1) := by decide +kernel
theorem dX2_guessIn_19 : decode cX2_guessIn 19 = .ok (.getfield 26, 3) := by decide +kernel
theorem dX2_guessIn_22 : decode cX2_guessIn 22 = .ok (.ireturn, 1) := by decide +kernel
theorem dX2_guessIn_23 : decode cX2_guessIn 23 = .ok (.aload_n 1, 1) := by decide +kernel
theorem dX2_guessIn_24 : decode cX2_guessIn 24 = .ok (.getfield 26, 3) := by decide +kernel
theorem dX2_guessIn_27 : decode cX2_guessIn 27 = .ok (.aload_n 1, 1) := by decide +kernel
theorem dX2_guessIn_28 : decode cX2_guessIn 28 = .ok (.getfield 21, 3) := by decide +kernel
theorem dX2_guessIn_31 : decode cX2_guessIn 31 = .ok (.isub, 1) := by decide +kernel
theorem dX2_guessIn_32 : decode cX2_guessIn 32 = .ok (.istore_n 2, 1) := by decide +kernel
theorem dX2_guessIn_33 : decode cX2_guessIn 33 = .ok (.aload_n 1, 1) := by decide +kernel
theorem dX2_guessIn_34 : decode cX2_guessIn 34 = .ok (.getfield 49, 3) := by decide +kernel
theorem dX2_guessIn_37 : decode cX2_guessIn 37 = .ok (.ifCond .ne 7, 3) := by decide +kernel
theorem dX2_guessIn_40 : decode cX2_guessIn 40 = .ok (.iconst 0, 1) := by decide +kernel
theorem dX2_guessIn_41 : decode cX2_guessIn 41 = .ok (.goto 9, 3) := by decide +kernel
theorem dX2_guessIn_44 : decode cX2_guessIn 44 = .ok (.iload_n 2, 1) := by decide +kernel
theorem dX2_guessIn_45 : decode cX2_guessIn 45 = .ok (.aload_n 1, 1) := by decide +kernel
theorem dX2_guessIn_46 : decode cX2_guessIn 46 = .ok (.getfield 49, 3) := by decide +kernel
theorem dX2_guessIn_49 : decode cX2_guessIn 49 = .ok (.idiv, 1) := by decide +kernel
theorem dX2_guessIn_50 : decode cX2_guessIn 50 = .ok (.istore_n 3, 1) := by decide +kernel
theorem dX2_guessIn_51 : decode cX2_guessIn 51 = .ok (.aload_n 0, 1) := by decide +kernel
theorem dX2_guessIn_52 : decode cX2_guessIn 52 = .ok (.getfield 15, 3) := by decide +kernel
theorem dX2_guessIn_55 : decode cX2_guessIn 55 = .ok (.tableswitch 92 0 7 #[45, 47, 51, 51, 68, 68, 85, 90], 45) := by decide +kernel
theorem dX2_guessIn_100 : decode cX2_guessIn 100 = .ok (.iload_n 3, 1) := by decide +kernel
theorem dX2_guessIn_101 : decode cX2_guessIn 101 = .ok (.ireturn, 1) := by decide +kernel
theorem dX2_guessIn_102 : decode cX2_guessIn 102 = .ok (.iload_n 2, 1) := by decide +kernel
theorem dX2_guessIn_103 : decode cX2_guessIn 103 = .ok (.iload_n 3, 1) := by decide +kernel
theorem dX2_guessIn_104 : decode cX2_guessIn 104 = .ok (.isub, 1) := by decide +kernel
theorem dX2_guessIn_105 : decode cX2_guessIn 105 = .ok (.ireturn, 1) := by decide +kernel
theorem dX2_guessIn_106 : decode cX2_guessIn 106 = .ok (.iload_n 2, 1) := by decide +kernel
theorem dX2_guessIn_107 : decode cX2_guessIn 107 = .ok (.aload_n 0, 1) := by decide +kernel
theorem dX2_guessIn_108 : decode cX2_guessIn 108 = .ok (.getfield 18, 3) := by decide +kernel
theorem dX2_guessIn_111 : decode cX2_guessIn 111 = .ok (.i2l, 1) := by decide +kernel
theorem dX2_guessIn_112 : decode cX2_guessIn 112 = .ok (.aload_n 1, 1) := by decide +kernel
theorem dX2_guessIn_113 : decode cX2_guessIn 113 = .ok (.getfield 29, 3) := by decide +kernel
theorem dX2_guessIn_116 : decode cX2_guessIn 116 = .ok (.i2l, 1) := by decide +kernel
theorem dX2_guessIn_117 : decode cX2_guessIn 117 = .ok (.lsub, 1) := by decide +kernel
theorem dX2_guessIn_118 : decode cX2_guessIn 118 = .ok (.aload_n 1, 1) := by decide +kernel
theorem dX2_guessIn_119 : decode cX2_guessIn 119 = .ok (.invokestatic 52, 3) := by decide +kernel
theorem dX2_guessIn_122 : decode cX2_guessIn 122 = .ok (.ireturn, 1) := by decide +kernel
theorem dX2_guessIn_123 : decode cX2_guessIn 123 = .ok (.iload_n 2, 1) := by decide +kernel
theorem dX2_guessIn_124 : decode cX2_guessIn 124 = .ok (.aload_n 1, 1) := by decide +kernel
theorem dX2_guessIn_125 : decode cX2_guessIn 125 = .ok (.getfield 32, 3) := by decide +kernel
theorem dX2_guessIn_128 : decode cX2_guessIn 128 = .ok (.i2l, 1) := by decide +kernel
theorem dX2_guessIn_129 : decode cX2_guessIn 129 = .ok (.aload_n 0, 1) := by decide +kernel
theorem dX2_guessIn_130 : decode cX2_guessIn 130 = .ok (.getfield 18, 3) := by decide +kernel
theorem dX2_guessIn_133 : decode cX2_guessIn 133 = .ok (.i2l, 1) := by decide +kernel
theorem dX2_guessIn_134 : decode cX2_guessIn 134 = .ok (.lsub, 1) := by decide +kernel
theorem dX2_guessIn_135 : decode cX2_guessIn 135 = .ok (.aload_n 1, 1) := by decide +kernel
theorem dX2_guessIn_136 : decode cX2_guessIn 136 = .ok (.invokestatic 52, 3) := by decide +kernel
theorem dX2_guessIn_139 : decode cX2_guessIn 139 = .ok (.ireturn, 1) := by decide +kernel
theorem dX2_guessIn_140 : decode cX2_guessIn 140 = .ok (.aload_n 1, 1) := by decide +kernel
theorem dX2_guessIn_141 : decode cX2_guessIn 141 = .ok (.getfield 21, 3) := by decide +kernel
theorem dX2_guessIn_144 : decode cX2_guessIn 144 = .ok (.ireturn, 1) := by decide +kernel
theorem dX2_guessIn_145 : decode cX2_guessIn 145 = .ok (.iload_n 2, 1) := by decide +kernel
theorem dX2_guessIn_146 : decode cX2_guessIn 146 = .ok (.ireturn, 1) := by decide +kernel
theorem dX2_guessIn_147 : decode cX2_guessIn 147 = .ok (.iconst 0, 1) := by decide +kernel
theorem dX2_guessIn_148 : decode cX2_guessIn 148 = .ok (.ireturn, 1) := by decide +kernel
theorem dX2_shareOf_0 : decode cX2_shareOf 0 = .ok (.aload_n 3, 1) := by decide +kernel
theorem dX2_shareOf_1 : decode cX2_shareOf 1 = .ok (.getfield 32, 3) := by decide +kernel
theorem dX2_shareOf_4 : decode cX2_shareOf 4 = .ok (.i2l, 1) := by decide +kernel
theorem dX2_shareOf_5 : decode cX2_shareOf 5 = .ok (.aload_n 3, 1) := by decide +kernel
theorem dX2_shareOf_6 : decode cX2_shareOf 6 = .ok (.getfield 29, 3) := by decide +kernel
theorem dX2_shareOf_9 : decode cX2_shareOf 9 = .ok (.i2l, 1) := by decide +kernel
theorem dX2_shareOf_10 : decode cX2_shareOf 10 = .ok (.lsub, 1) := by decide +kernel
theorem dX2_shareOf_11 : decode cX2_shareOf 11 = .ok (.lconst 1, 1) := by decide +kernel
theorem dX2_shareOf_12 : decode cX2_shareOf 12 = .ok (.ladd, 1) := by decide +kernel
theorem dX2_shareOf_13 : decode cX2_shareOf 13 = .ok (.lstore 4, 2) := by decide +kernel
theorem dX2_shareOf_15 : decode cX2_shareOf 15 = .ok (.lload 4, 2) := by decide +kernel
theorem dX2_shareOf_17 : decode cX2_shareOf 17 = .ok (.lconst 1, 1) := by decide +kernel
theorem dX2_shareOf_18 : decode cX2_shareOf 18 = .ok (.lcmp, 1) := by decide +kernel
theorem dX2_shareOf_19 : decode cX2_shareOf 19 = .ok (.ifCond .ge 7, 3) := by decide +kernel
theorem dX2_shareOf_22 : decode cX2_shareOf 22 = .ok (.iconst 0, 1) := by decide +kernel
theorem dX2_shareOf_23 : decode cX2_shareOf 23 = .ok (.goto 16, 3) := by decide +kernel
theorem dX2_shareOf_26 : decode cX2_shareOf 26 = .ok (.iload_n 0, 1) := by decide +kernel
theorem dX2_shareOf_27 : decode cX2_shareOf 27 = .ok (.i2l, 1) := by decide +kernel
theorem dX2_shareOf_28 : decode cX2_shareOf 28 = .ok (.iload_n 0, 1) := by decide +kernel
theorem dX2_shareOf_29 : decode cX2_shareOf 29 = .ok (.i2l, 1) := by decide +kernel
theorem dX2_shareOf_30 : decode cX2_shareOf 30 = .ok (.lload_n 1, 1) := by decide +kernel
theorem dX2_shareOf_31 : decode cX2_shareOf 31 = .ok (.lmul, 1) := by decide +kernel
theorem dX2_shareOf_32 : decode cX2_shareOf 32 = .ok (.lload 4, 2) := by decide +kernel
theorem dX2_shareOf_34 : decode cX2_shareOf 34 = .ok (.ldiv, 1) := by decide +kernel
theorem dX2_shareOf_35 : decode cX2_shareOf 35 = .ok (.invokestatic 56, 3) := by decide +kernel
theorem dX2_shareOf_38 : decode cX2_shareOf 38 = .ok (.l2i, 1) := by decide +kernel
theorem dX2_shareOf_39 : decode cX2_shareOf 39 = .ok (.ireturn, 1) := by decide +kernel
theorem dX3_init_0 : decode cX3_init 0 = .ok (.aload_n 0, 1) := by decide +kernel
theorem dX3_init_1 : decode cX3_init 1 = .ok (.invokespecial 3, 3) := by decide +kernel
theorem dX3_init_4 : decode cX3_init 4 = .ok (.aload_n 0, 1) := by decide +kernel
theorem dX3_init_5 : decode cX3_init 5 = .ok (.iconst 4, 1) := by decide +kernel
theorem dX3_init_6 : decode cX3_init 6 = .ok (.anewarray 9, 3) := by decide +kernel
theorem dX3_init_9 : decode cX3_init 9 = .ok (.putfield 11, 3) := by decide +kernel
theorem dX3_init_12 : decode cX3_init 12 = .ok (.iconst 0, 1) := by decide +kernel
theorem dX3_init_13 : decode cX3_init 13 = .ok (.istore_n 1, 1) := by decide +kernel
theorem dX3_init_14 : decode cX3_init 14 = .ok (.iload_n 1, 1) := by decide +kernel
theorem dX3_init_15 : decode cX3_init 15 = .ok (.iconst 4, 1) := by decide +kernel
theorem dX3_init_16 : decode cX3_init 16 = .ok (.if_icmp .ge 22, 3) := by decide +kernel
theorem dX3_init_19 : decode cX3_init 19 = .ok (.aload_n 0, 1) := by decide +kernel
theorem dX3_init_20 : decode cX3_init 20 = .ok (.getfield 11, 3) := by decide +kernel
theorem dX3_init_23 : decode cX3_init 23 = .ok (.iload_n 1, 1) := by decide +kernel
theorem dX3_init_24 : decode cX3_init 24 = .ok (.new 9, 3) := by decide +kernel
theorem dX3_init_27 : decode cX3_init 27 = .ok (.dup, 1) := by decide +kernel
theorem dX3_init_28 : decode cX3_init 28 = .ok (.invokespecial 17, 3) := by decide +kernel
theorem dX3_init_31 : decode cX3_init 31 = .ok (.aastore, 1) := by decide +kernel
theorem dX3_init_32 : decode cX3_init 32 = .ok (.iinc 1 1, 3) := by decide +kernel
theorem dX3_init_35 : decode cX3_init 35 = .ok (.goto (-21), 3) := by decide +kernel
theorem dX3_init_38 : decode cX3_init 38 = .ok (.return_, 1) := by decide +kernel
theorem dX3_state_0 : decode cX3_state 0 = .ok (.aload_n 0, 1) := by decide +kernel
theorem dX3_state_1 : decode cX3_state 1 = .ok (.getfield 18, 3) := by decide +kernel
theorem dX3_state_4 : decode cX3_state 4 = .ok (.iconst 4, 1) := by decide +kernel
theorem dX3_state_5 : decode cX3_state 5 = .ok (.if_icmp .ge 28, 3) := by decide +kernel
theorem dX3_state_8 : decode cX3_state 8 = .ok (.aload_n 0, 1) := by decide +kernel
theorem dX3_state_9 : decode cX3_state 9 = .ok (.getfield 11, 3) := by decide +kernel
theorem dX3_state_12 : decode cX3_state 12 = .ok (.aload_n 0, 1) := by decide +kernel
theorem dX3_state_13 : decode cX3_state 13 = .ok (.getfield 18, 3) := by decide +kernel
theorem dX3_state_16 : decode cX3_state 16 = .ok (.aaload, 1) := by decide +kernel
theorem dX3_state_17 : decode cX3_state 17 = .ok (.iload_n 1, 1) := by decide +kernel
theorem dX3_state_18 : decode cX3_state 18 = .ok (.iload_n 2, 1) := by decide +kernel
theorem dX3_state_19 : decode cX3_state 19 = .ok (.iload_n 3, 1) := by decide +kernel
theorem dX3_state_20 : decode cX3_state 20 = .ok (.invokevirtual 22, 3) := by decide +kernel
theorem dX3_state_23 : decode cX3_state 23 = .ok (.aload_n 0, 1) := by decide +kernel
theorem dX3_state_24 : decode cX3_state 24 = .ok (.dup, 1) := by decide +kernel
theorem dX3_state_25 : decode cX3_state 25 = .ok (.getfield 18, 3) := by decide +kernel
theorem dX3_state_28 : decode cX3_state 28 = .ok (.iconst 1, 1) := by decide +kernel
theorem dX3_state_29 : decode cX3_state 29 = .ok (.iadd, 1) := by decide +kernel
theorem dX3_state_30 : decode cX3_state 30 = .ok (.putfield 18, 3) := by decide +kernel
theorem dX3_state_33 : decode cX3_state 33 = .ok (.aload_n 0, 1) := by decide +kernel
theorem dX3_state_34 : decode cX3_state 34 = .ok (.getfield 18, 3) := by decide +kernel
theorem dX3_state_37 : decode cX3_state 37 = .ok (.ireturn, 1) := by decide +kernel
theorem dX4_init_0 : decode cX4_init 0 = .ok (.aload_n 0, 1) := by decide +kernel
theorem dX4_init_1 : decode cX4_init 1 = .ok (.invokespecial 3, 3) := by decide +kernel
theorem dX4_init_4 : decode cX4_init 4 = .ok (.aload_n 0, 1) := by decide +kernel
theorem dX4_init_5 : decode cX4_init 5 = .ok (.iconst 4, 1) := by decide +kernel
theorem dX4_init_6 : decode cX4_init 6 = .ok (.anewarray 9, 3) := by decide +kernel
theorem dX4_init_9 : decode cX4_init 9 = .ok (.putfield 11, 3) := by decide +kernel
theorem dX4_init_12 : decode cX4_init 12 = .ok (.aload_n 0, 1) := by decide +kernel
theorem dX4_init_13 : decode cX4_init 13 = .ok (.iconst 1, 1) := by decide +kernel
theorem dX4_init_14 : decode cX4_init 14 = .ok (.putfield 17, 3) := by decide +kernel
theorem dX4_init_17 : decode cX4_init 17 = .ok (.iconst 0, 1) := by decide +kernel
theorem dX4_init_18 : decode cX4_init 18 = .ok (.istore_n 1, 1) := by decide +kernel
theorem dX4_init_19 : decode cX4_init 19 = .ok (.iload_n 1, 1) := by decide +kernel
theorem dX4_init_20 : decode cX4_init 20 = .ok (.iconst 4, 1) := by decide +kernel
theorem dX4_init_21 : decode cX4_init 21 = .ok (.if_icmp .ge 22, 3) := by decide +kernel
theorem dX4_init_24 : decode cX4_init 24 = .ok (.aload_n 0, 1) := by decide +kernel
theorem dX4_init_25 : decode cX4_init 25 = .ok (.getfield 11, 3) := by decide +kernel
theorem dX4_init_28 : decode cX4_init 28 = .ok (.iload_n 1, 1) := by decide +kernel
theorem dX4_init_29 : decode cX4_init 29 = .ok (.new 9, 3) := by decide +kernel
theorem dX4_init_32 : decode cX4_init 32 = .ok (.dup, 1) := by decide +kernel
theorem dX4_init_33 : decode cX4_init 33 = .ok (.invokespecial 21, 3) := by decide +kernel
theorem dX4_init_36 : decode cX4_init 36 = .ok (.aastore, 1) := by decide +kernel
theorem dX4_init_37 : decode cX4_init 37 = .ok (.iinc 1 1, 3) := by decide +kernel
theorem dX4_init_40 : decode cX4_init 40 = .ok (.goto (-21), 3) := by decide +kernel
theorem dX4_init_43 : decode cX4_init 43 = .ok (.return_, 1) := by decide +kernel
theorem dX4_latest_0 : decode cX4_latest 0 = .ok (.aload_n 0, 1) := by decide +kernel
theorem dX4_latest_1 : decode cX4_latest 1 = .ok (.getfield 11, 3) := by decide +kernel
theorem dX4_latest_4 : decode cX4_latest 4 = .ok (.aload_n 0, 1) := by decide +kernel
theorem dX4_latest_5 : decode cX4_latest 5 = .ok (.getfield 17, 3) := by decide +kernel
theorem dX4_latest_8 : decode cX4_latest 8 = .ok (.iconst 1, 1) := by decide +kernel
theorem dX4_latest_9 : decode cX4_latest 9 = .ok (.isub, 1) := by decide +kernel
theorem dX4_latest_10 : decode cX4_latest 10 = .ok (.aaload, 1) := by decide +kernel
theorem dX4_latest_11 : decode cX4_latest 11 = .ok (.areturn, 1) := by decide +kernel
theorem dX4_begin_0 : decode cX4_begin 0 = .ok (.aload_n 0, 1) := by decide +kernel
theorem dX4_begin_1 : decode cX4_begin 1 = .ok (.getfield 17, 3) := by decide +kernel
theorem dX4_begin_4 : decode cX4_begin 4 = .ok (.iconst 4, 1) := by decide +kernel
theorem dX4_begin_5 : decode cX4_begin 5 = .ok (.if_icmp .ge 21, 3) := by decide +kernel
theorem dX4_begin_8 : decode cX4_begin 8 = .ok (.aload_n 0, 1) := by decide +kernel
theorem dX4_begin_9 : decode cX4_begin 9 = .ok (.dup, 1) := by decide +kernel
theorem dX4_begin_10 : decode cX4_begin 10 = .ok (.getfield 17, 3) := by decide +kernel
theorem dX4_begin_13 : decode cX4_begin 13 = .ok (.iconst 1, 1) := by decide +kernel
theorem dX4_begin_14 : decode cX4_begin 14 = .ok (.iadd, 1) := by decide +kernel
theorem dX4_begin_15 : decode cX4_begin 15 = .ok (.putfield 17, 3) := by decide +kernel
theorem dX4_begin_18 : decode cX4_begin 18 = .ok (.aload_n 0, 1) := by decide +kernel
theorem dX4_begin_19 : decode cX4_begin 19 = .ok (.invokevirtual 22, 3) := by decide +kernel
theorem dX4_begin_22 : decode cX4_begin 22 = .ok (.iconst 0, 1) := by decide +kernel
theorem dX4_begin_23 : decode cX4_begin 23 = .ok (.putfield 26, 3) := by decide +kernel
theorem dX4_begin_26 : decode cX4_begin 26 = .ok (.aload_n 0, 1) := by decide +kernel
theorem dX4_begin_27 : decode cX4_begin 27 = .ok (.getfield 17, 3) := by decide +kernel
theorem dX4_begin_30 : decode cX4_begin 30 = .ok (.iconst 1, 1) := by decide +kernel
theorem dX4_begin_31 : decode cX4_begin 31 = .ok (.isub, 1) := by decide +kernel
theorem dX4_begin_32 : decode cX4_begin 32 = .ok (.ireturn, 1) := by decide +kernel
theorem dX4_reset_0 : decode cX4_reset 0 = .ok (.aload_n 0, 1) := by decide +kernel
theorem dX4_reset_1 : decode cX4_reset 1 = .ok (.iconst 1, 1) := by decide +kernel
theorem dX4_reset_2 : decode cX4_reset 2 = .ok (.putfield 17, 3) := by decide +kernel
theorem dX4_reset_5 : decode cX4_reset 5 = .ok (.aload_n 0, 1) := by decide +kernel
theorem dX4_reset_6 : decode cX4_reset 6 = .ok (.invokevirtual 22, 3) := by decide +kernel
theorem dX4_reset_9 : decode cX4_reset 9 = .ok (.iconst 0, 1) := by decide +kernel
theorem dX4_reset_10 : decode cX4_reset 10 = .ok (.putfield 26, 3) := by decide +kernel
theorem dX4_reset_13 : decode cX4_reset 13 = .ok (.return_, 1) := by decide +kernel
theorem dX4_conditionCount_0 : decode cX4_conditionCount 0 = .ok (.iconst 0, 1) := by decide +kernel
theorem dX4_conditionCount_1 : decode cX4_conditionCount 1 = .ok (.istore_n 1, 1) := by decide +kernel
theorem dX4_conditionCount_2 : decode cX4_conditionCount 2 = .ok (.iconst 0, 1) := by decide +kernel
theorem dX4_conditionCount_3 : decode cX4_conditionCount 3 = .ok (.istore_n 2, 1) := by decide +kernel
theorem dX4_conditionCount_4 : decode cX4_conditionCount 4 = .ok (.iload_n 2, 1) := by decide +kernel
theorem dX4_conditionCount_5 : decode cX4_conditionCount 5 = .ok (.aload_n 0, 1) := by decide +kernel
theorem dX4_conditionCount_6 : decode cX4_conditionCount 6 = .ok (.getfield 17, 3) := by decide +kernel
theorem dX4_conditionCount_9 : decode cX4_conditionCount 9 = .ok (.if_icmp .ge 21, 3) := by decide +kernel
theorem dX4_conditionCount_12 : decode cX4_conditionCount 12 = .ok (.iload_n 1, 1) := by decide +kernel
theorem dX4_conditionCount_13 : decode cX4_conditionCount 13 = .ok (.aload_n 0, 1) := by decide +kernel
theorem dX4_conditionCount_14 : decode cX4_conditionCount 14 = .ok (.getfield 11, 3) := by decide +kernel
theorem dX4_conditionCount_17 : decode cX4_conditionCount 17 = .ok (.iload_n 2, 1) := by decide +kernel
theorem dX4_conditionCount_18 : decode cX4_conditionCount 18 = .ok (.aaload, 1) := by decide +kernel
theorem dX4_conditionCount_19 : decode cX4_conditionCount 19 = .ok (.getfield 26, 3) := by decide +kernel
theorem dX4_conditionCount_22 : decode cX4_conditionCount 22 = .ok (.iadd, 1) := by decide +kernel
theorem dX4_conditionCount_23 : decode cX4_conditionCount 23 = .ok (.istore_n 1, 1) := by decide +kernel
theorem dX4_conditionCount_24 : decode cX4_conditionCount 24 = .ok (.iinc 2 1, 3) := by decide +kernel
theorem dX4_conditionCount_27 : decode cX4_conditionCount 27 = .ok (.goto (-23), 3) := by decide +kernel
theorem dX4_conditionCount_30 : decode cX4_conditionCount 30 = .ok (.iload_n 1, 1) := by decide +kernel
theorem dX4_conditionCount_31 : decode cX4_conditionCount 31 = .ok (.ireturn, 1) := by decide +kernel
theorem dX5_init_0 : decode cX5_init 0 = .ok (.aload_n 0, 1) := by decide +kernel
theorem dX5_init_1 : decode cX5_init 1 = .ok (.invokespecial 3, 3) := by decide +kernel
theorem dX5_init_4 : decode cX5_init 4 = .ok (.aload_n 0, 1) := by decide +kernel
theorem dX5_init_5 : decode cX5_init 5 = .ok (.sipush 600, 3) := by decide +kernel
theorem dX5_init_8 : decode cX5_init 8 = .ok (.newarray .int, 2) := by decide +kernel
theorem dX5_init_10 : decode cX5_init 10 = .ok (.putfield 9, 3) := by decide +kernel
theorem dX5_init_13 : decode cX5_init 13 = .ok (.aload_n 0, 1) := by decide +kernel
theorem dX5_init_14 : decode cX5_init 14 = .ok (.sipush 600, 3) := by decide +kernel
theorem dX5_init_17 : decode cX5_init 17 = .ok (.newarray .int, 2) := by decide +kernel
theorem dX5_init_19 : decode cX5_init 19 = .ok (.putfield 15, 3) := by decide +kernel
theorem dX5_init_22 : decode cX5_init 22 = .ok (.aload_n 0, 1) := by decide +kernel
theorem dX5_init_23 : decode cX5_init 23 = .ok (.sipush 600, 3) := by decide +kernel
theorem dX5_init_26 : decode cX5_init 26 = .ok (.newarray .int, 2) := by decide +kernel
theorem dX5_init_28 : decode cX5_init 28 = .ok (.putfield 18, 3) := by decide +kernel
theorem dX5_init_31 : decode cX5_init 31 = .ok (.aload_n 0, 1) := by decide +kernel
theorem dX5_init_32 : decode cX5_init 32 = .ok (.sipush 601, 3) := by decide +kernel
theorem dX5_init_35 : decode cX5_init 35 = .ok (.newarray .int, 2) := by decide +kernel
theorem dX5_init_37 : decode cX5_init 37 = .ok (.putfield 21, 3) := by decide +kernel
theorem dX5_init_40 : decode cX5_init 40 = .ok (.return_, 1) := by decide +kernel
theorem dX5_take_0 : decode cX5_take 0 = .ok (.aload_n 1, 1) := by decide +kernel
theorem dX5_take_1 : decode cX5_take 1 = .ok (.iconst 0, 1) := by decide +kernel
theorem dX5_take_2 : decode cX5_take 2 = .ok (.aload_n 0, 1) := by decide +kernel
theorem dX5_take_3 : decode cX5_take 3 = .ok (.getfield 9, 3) := by decide +kernel
theorem dX5_take_6 : decode cX5_take 6 = .ok (.iconst 0, 1) := by decide +kernel
theorem dX5_take_7 : decode cX5_take 7 = .ok (.iload_n 2, 1) := by decide +kernel
theorem dX5_take_8 : decode cX5_take 8 = .ok (.invokestatic 24, 3) := by decide +kernel
theorem dX5_take_11 : decode cX5_take 11 = .ok (.aload_n 0, 1) := by decide +kernel
theorem dX5_take_12 : decode cX5_take 12 = .ok (.iload_n 2, 1) := by decide +kernel
theorem dX5_take_13 : decode cX5_take 13 = .ok (.putfield 30, 3) := by decide +kernel
theorem dX5_take_16 : decode cX5_take 16 = .ok (.return_, 1) := by decide +kernel
theorem dX5_keepRows_0 : decode cX5_keepRows 0 = .ok (.aload_n 0, 1) := by decide +kernel
theorem dX5_keepRows_1 : decode cX5_keepRows 1 = .ok (.getfield 9, 3) := by decide +kernel
theorem dX5_keepRows_4 : decode cX5_keepRows 4 = .ok (.iconst 0, 1) := by decide +kernel
theorem dX5_keepRows_5 : decode cX5_keepRows 5 = .ok (.aload_n 0, 1) := by decide +kernel
theorem dX5_keepRows_6 : decode cX5_keepRows 6 = .ok (.getfield 15, 3) := by decide +kernel
theorem dX5_keepRows_9 : decode cX5_keepRows 9 = .ok (.iconst 0, 1) := by decide +kernel
theorem dX5_keepRows_10 : decode cX5_keepRows 10 = .ok (.aload_n 0, 1) := by decide +kernel
theorem dX5_keepRows_11 : decode cX5_keepRows 11 = .ok (.getfield 30, 3) := by decide +kernel
theorem dX5_keepRows_14 : decode cX5_keepRows 14 = .ok (.invokestatic 24, 3) := by decide +kernel
theorem dX5_keepRows_17 : decode cX5_keepRows 17 = .ok (.aload_n 0, 1) := by decide +kernel
theorem dX5_keepRows_18 : decode cX5_keepRows 18 = .ok (.aload_n 0, 1) := by decide +kernel
theorem dX5_keepRows_19 : decode cX5_keepRows 19 = .ok (.getfield 30, 3) := by decide +kernel
theorem dX5_keepRows_22 : decode cX5_keepRows 22 = .ok (.putfield 34, 3) := by decide +kernel
theorem dX5_keepRows_25 : decode cX5_keepRows 25 = .ok (.aload_n 0, 1) := by decide +kernel
theorem dX5_keepRows_26 : decode cX5_keepRows 26 = .ok (.getfield 34, 3) := by decide +kernel
theorem dX5_keepRows_29 : decode cX5_keepRows 29 = .ok (.ireturn, 1) := by decide +kernel
theorem dX5_total_0 : decode cX5_total 0 = .ok (.lconst 0, 1) := by decide +kernel
theorem dX5_total_1 : decode cX5_total 1 = .ok (.lstore_n 2, 1) := by decide +kernel
theorem dX5_total_2 : decode cX5_total 2 = .ok (.iconst 0, 1) := by decide +kernel
theorem dX5_total_3 : decode cX5_total 3 = .ok (.istore 4, 2) := by decide +kernel
theorem dX5_total_5 : decode cX5_total 5 = .ok (.iload 4, 2) := by decide +kernel
theorem dX5_total_7 : decode cX5_total 7 = .ok (.aload_n 0, 1) := by decide +kernel
theorem dX5_total_8 : decode cX5_total 8 = .ok (.getfield 30, 3) := by decide +kernel
theorem dX5_total_11 : decode cX5_total 11 = .ok (.if_icmp .ge 25, 3) := by decide +kernel
theorem dX5_total_14 : decode cX5_total 14 = .ok (.lload_n 2, 1) := by decide +kernel
theorem dX5_total_15 : decode cX5_total 15 = .ok (.aload_n 1, 1) := by decide +kernel
theorem dX5_total_16 : decode cX5_total 16 = .ok (.getfield 37, 3) := by decide +kernel
theorem dX5_total_19 : decode cX5_total 19 = .ok (.aload_n 0, 1) := by decide +kernel
theorem dX5_total_20 : decode cX5_total 20 = .ok (.getfield 9, 3) := by decide +kernel
theorem dX5_total_23 : decode cX5_total 23 = .ok (.iload 4, 2) := by decide +kernel
theorem dX5_total_25 : decode cX5_total 25 = .ok (.iaload, 1) := by decide +kernel
theorem dX5_total_26 : decode cX5_total 26 = .ok (.iaload, 1) := by decide +kernel
theorem dX5_total_27 : decode cX5_total 27 = .ok (.i2l, 1) := by decide +kernel
theorem dX5_total_28 : decode cX5_total 28 = .ok (.ladd, 1) := by decide +kernel
theorem dX5_total_29 : decode cX5_total 29 = .ok (.lstore_n 2, 1) := by decide +kernel
theorem dX5_total_30 : decode cX5_total 30 = .ok (.iinc 4 1, 3) := by decide +kernel
theorem dX5_total_33 : decode cX5_total 33 = .ok (.goto (-28), 3) := by decide +kernel
theorem dX5_total_36 : decode cX5_total 36 = .ok (.lload_n 2, 1) := by decide +kernel
theorem dX5_total_37 : decode cX5_total 37 = .ok (.lreturn, 1) := by decide +kernel
theorem dX5_arrangeGroups_0 : decode cX5_arrangeGroups 0 = .ok (.aload_n 0, 1) := by decide +kernel
theorem dX5_arrangeGroups_1 : decode cX5_arrangeGroups 1 = .ok (.getfield 9, 3) := by decide +kernel
theorem dX5_arrangeGroups_4 : decode cX5_arrangeGroups 4 = .ok (.iconst 0, 1) := by decide +kernel
theorem dX5_arrangeGroups_5 : decode cX5_arrangeGroups 5 = .ok (.aload_n 0, 1) := by decide +kernel
theorem dX5_arrangeGroups_6 : decode cX5_arrangeGroups 6 = .ok (.getfield 18, 3) := by decide +kernel
theorem dX5_arrangeGroups_9 : decode cX5_arrangeGroups 9 = .ok (.iconst 0, 1) := by decide +kernel
theorem dX5_arrangeGroups_10 : decode cX5_arrangeGroups 10 = .ok (.aload_n 0, 1) := by decide +kernel
theorem dX5_arrangeGroups_11 : decode cX5_arrangeGroups 11 = .ok (.getfield 30, 3) := by decide +kernel
theorem dX5_arrangeGroups_14 : decode cX5_arrangeGroups 14 = .ok (.invokestatic 24, 3) := by decide +kernel
theorem dX5_arrangeGroups_17 : decode cX5_arrangeGroups 17 = .ok (.aload_n 2, 1) := by decide +kernel
theorem dX5_arrangeGroups_18 : decode cX5_arrangeGroups 18 = .ok (.aload_n 0, 1) := by decide +kernel
theorem dX5_arrangeGroups_19 : decode cX5_arrangeGroups 19 = .ok (.getfield 18, 3) := by decide +kernel
theorem dX5_arrangeGroups_22 : decode cX5_arrangeGroups 22 = .ok (.aload_n 0, 1) := by decide +kernel
theorem dX5_arrangeGroups_23 : decode cX5_arrangeGroups 23 = .ok (.getfield 30, 3) := by decide +kernel
theorem dX5_arrangeGroups_26 : decode cX5_arrangeGroups 26 = .ok (.aload_n 1, 1) := by decide +kernel
theorem dX5_arrangeGroups_27 : decode cX5_arrangeGroups 27 = .ok (.iconst 0, 1) := by decide +kernel
theorem dX5_arrangeGroups_28 : decode cX5_arrangeGroups 28 = .ok (.iconst 0, 1) := by decide +kernel
theorem dX5_arrangeGroups_29 : decode cX5_arrangeGroups 29 = .ok (.invokevirtual 50, 3) := by decide +kernel
theorem dX5_arrangeGroups_32 : decode cX5_arrangeGroups 32 = .ok (.aload_n 0, 1) := by decide +kernel
theorem dX5_arrangeGroups_33 : decode cX5_arrangeGroups 33 = .ok (.iconst 0, 1) := by decide +kernel
theorem dX5_arrangeGroups_34 : decode cX5_arrangeGroups 34 = .ok (.putfield 56, 3) := by decide +kernel
theorem dX5_arrangeGroups_37 : decode cX5_arrangeGroups 37 = .ok (.iconst 0, 1) := by decide +kernel
theorem dX5_arrangeGroups_38 : decode cX5_arrangeGroups 38 = .ok (.istore_n 3, 1) := by decide +kernel
theorem dX5_arrangeGroups_39 : decode cX5_arrangeGroups 39 = .ok (.iload_n 3, 1) := by decide +kernel
theorem dX5_arrangeGroups_40 : decode cX5_arrangeGroups 40 = .ok (.aload_n 0, 1) := by decide +kernel
theorem dX5_arrangeGroups_41 : decode cX5_arrangeGroups 41 = .ok (.getfield 30, 3) := by decide +kernel
theorem dX5_arrangeGroups_44 : decode cX5_arrangeGroups 44 = .ok (.if_icmp .ge 54, 3) := by decide +kernel
theorem dX5_arrangeGroups_47 : decode cX5_arrangeGroups 47 = .ok (.iload_n 3, 1) := by decide +kernel
theorem dX5_arrangeGroups_48 : decode cX5_arrangeGroups 48 = .ok (.ifCond .eq 24, 3) := by decide +kernel
theorem dX5_arrangeGroups_51 : decode cX5_arrangeGroups 51 = .ok (.aload_n 1, 1) := by decide +kernel
theorem dX5_arrangeGroups_52 : decode cX5_arrangeGroups 52 = .ok (.aload_n 0, 1) := by decide +kernel
theorem dX5_arrangeGroups_53 : decode cX5_arrangeGroups 53 = .ok (.getfield 18, 3) := by decide +kernel
theorem dX5_arrangeGroups_56 : decode cX5_arrangeGroups 56 = .ok (.iload_n 3, 1) := by decide +kernel
theorem dX5_arrangeGroups_57 : decode cX5_arrangeGroups 57 = .ok (.iconst 1, 1) := by decide +kernel
theorem dX5_arrangeGroups_58 : decode cX5_arrangeGroups 58 = .ok (.isub, 1) := by decide +kernel
theorem dX5_arrangeGroups_59 : decode cX5_arrangeGroups 59 = .ok (.iaload, 1) := by decide +kernel
theorem dX5_arrangeGroups_60 : decode cX5_arrangeGroups 60 = .ok (.aload_n 0, 1) := by decide +kernel
theorem dX5_arrangeGroups_61 : decode cX5_arrangeGroups 61 = .ok (.getfield 18, 3) := by decide +kernel
theorem dX5_arrangeGroups_64 : decode cX5_arrangeGroups 64 = .ok (.iload_n 3, 1) := by decide +kernel
theorem dX5_arrangeGroups_65 : decode cX5_arrangeGroups 65 = .ok (.iaload, 1) := by decide +kernel
theorem dX5_arrangeGroups_66 : decode cX5_arrangeGroups 66 = .ok (.invokevirtual 59, 3) := by decide +kernel
theorem dX5_arrangeGroups_69 : decode cX5_arrangeGroups 69 = .ok (.ifCond .ne 23, 3) := by decide +kernel
theorem dX5_arrangeGroups_72 : decode cX5_arrangeGroups 72 = .ok (.aload_n 0, 1) := by decide +kernel
theorem dX5_arrangeGroups_73 : decode cX5_arrangeGroups 73 = .ok (.getfield 21, 3) := by decide +kernel
theorem dX5_arrangeGroups_76 : decode cX5_arrangeGroups 76 = .ok (.aload_n 0, 1) := by decide +kernel
theorem dX5_arrangeGroups_77 : decode cX5_arrangeGroups 77 = .ok (.getfield 56, 3) := by decide +kernel
theorem dX5_arrangeGroups_80 : decode cX5_arrangeGroups 80 = .ok (.iload_n 3, 1) := by decide +kernel
theorem dX5_arrangeGroups_81 : decode cX5_arrangeGroups 81 = .ok (.iastore, 1) := by decide +kernel
theorem dX5_arrangeGroups_82 : decode cX5_arrangeGroups 82 = .ok (.aload_n 0, 1) := by decide +kernel
theorem dX5_arrangeGroups_83 : decode cX5_arrangeGroups 83 = .ok (.dup, 1) := by decide +kernel
theorem dX5_arrangeGroups_84 : decode cX5_arrangeGroups 84 = .ok (.getfield 56, 3) := by decide +kernel
theorem dX5_arrangeGroups_87 : decode cX5_arrangeGroups 87 = .ok (.iconst 1, 1) := by decide +kernel
theorem dX5_arrangeGroups_88 : decode cX5_arrangeGroups 88 = .ok (.iadd, 1) := by decide +kernel
theorem dX5_arrangeGroups_89 : decode cX5_arrangeGroups 89 = .ok (.putfield 56, 3) := by decide +kernel
theorem dX5_arrangeGroups_92 : decode cX5_arrangeGroups 92 = .ok (.iinc 3 1, 3) := by decide +kernel
theorem dX5_arrangeGroups_95 : decode cX5_arrangeGroups 95 = .ok (.goto (-56), 3) := by decide +kernel
theorem dX5_arrangeGroups_98 : decode cX5_arrangeGroups 98 = .ok (.aload_n 0, 1) := by decide +kernel
theorem dX5_arrangeGroups_99 : decode cX5_arrangeGroups 99 = .ok (.getfield 21, 3) := by decide +kernel
theorem dX5_arrangeGroups_102 : decode cX5_arrangeGroups 102 = .ok (.aload_n 0, 1) := by decide +kernel
theorem dX5_arrangeGroups_103 : decode cX5_arrangeGroups 103 = .ok (.getfield 56, 3) := by decide +kernel
theorem dX5_arrangeGroups_106 : decode cX5_arrangeGroups 106 = .ok (.aload_n 0, 1) := by decide +kernel
theorem dX5_arrangeGroups_107 : decode cX5_arrangeGroups 107 = .ok (.getfield 30, 3) := by decide +kernel
theorem dX5_arrangeGroups_110 : decode cX5_arrangeGroups 110 = .ok (.iastore, 1) := by decide +kernel
theorem dX5_arrangeGroups_111 : decode cX5_arrangeGroups 111 = .ok (.return_, 1) := by decide +kernel
theorem dX5_accountOf_0 : decode cX5_accountOf 0 = .ok (.aload_n 0, 1) := by decide +kernel
theorem dX5_accountOf_1 : decode cX5_accountOf 1 = .ok (.getfield 21, 3) := by decide +kernel
theorem dX5_accountOf_4 : decode cX5_accountOf 4 = .ok (.iload_n 1, 1) := by decide +kernel
theorem dX5_accountOf_5 : decode cX5_accountOf 5 = .ok (.iaload, 1) := by decide +kernel
theorem dX5_accountOf_6 : decode cX5_accountOf 6 = .ok (.istore 5, 2) := by decide +kernel
theorem dX5_accountOf_8 : decode cX5_accountOf 8 = .ok (.aload_n 0, 1) := by decide +kernel
theorem dX5_accountOf_9 : decode cX5_accountOf 9 = .ok (.getfield 21, 3) := by decide +kernel
theorem dX5_accountOf_12 : decode cX5_accountOf 12 = .ok (.iload_n 1, 1) := by decide +kernel
theorem dX5_accountOf_13 : decode cX5_accountOf 13 = .ok (.iconst 1, 1) := by decide +kernel
theorem dX5_accountOf_14 : decode cX5_accountOf 14 = .ok (.iadd, 1) := by decide +kernel
theorem dX5_accountOf_15 : decode cX5_accountOf 15 = .ok (.iaload, 1) := by decide +kernel
theorem dX5_accountOf_16 : decode cX5_accountOf 16 = .ok (.istore 6, 2) := by decide +kernel
theorem dX5_accountOf_18 : decode cX5_accountOf 18 = .ok (.iload 4, 2) := by decide +kernel
theorem dX5_accountOf_20 : decode cX5_accountOf 20 = .ok (.tableswitch 57 0 2 #[28, 41, 47], 28) := by decide +kernel
theorem dX5_accountOf_48 : decode cX5_accountOf 48 = .ok (.aload_n 2, 1) := by decide +kernel
theorem dX5_accountOf_49 : decode cX5_accountOf 49 = .ok (.getfield 37, 3) := by decide +kernel
theorem dX5_accountOf_52 : decode cX5_accountOf 52 = .ok (.aload_n 0, 1) := by decide +kernel
theorem dX5_accountOf_53 : decode cX5_accountOf 53 = .ok (.getfield 18, 3) := by decide +kernel
theorem dX5_accountOf_56 : decode cX5_accountOf 56 = .ok (.iload 5, 2) := by decide +kernel
theorem dX5_accountOf_58 : decode cX5_accountOf 58 = .ok (.iaload, 1) := by decide +kernel
theorem dX5_accountOf_59 : decode cX5_accountOf 59 = .ok (.iaload, 1) := by decide +kernel
theorem dX5_accountOf_60 : decode cX5_accountOf 60 = .ok (.ireturn, 1) := by decide +kernel
theorem dX5_accountOf_61 : decode cX5_accountOf 61 = .ok (.iload 6, 2) := by decide +kernel
theorem dX5_accountOf_63 : decode cX5_accountOf 63 = .ok (.iload 5, 2) := by decide +kernel
theorem dX5_accountOf_65 : decode cX5_accountOf 65 = .ok (.isub, 1) := by decide +kernel
theorem dX5_accountOf_66 : decode cX5_accountOf 66 = .ok (.ireturn, 1) := by decide +kernel
theorem dX5_accountOf_67 : decode cX5_accountOf 67 = .ok (.aload_n 0, 1) := by decide +kernel
theorem dX5_accountOf_68 : decode cX5_accountOf 68 = .ok (.aload_n 3, 1) := by decide +kernel
theorem dX5_accountOf_69 : decode cX5_accountOf 69 = .ok (.iload 5, 2) := by decide +kernel
theorem dX5_accountOf_71 : decode cX5_accountOf 71 = .ok (.iload 6, 2) := by decide +kernel
theorem dX5_accountOf_73 : decode cX5_accountOf 73 = .ok (.invokevirtual 63, 3) := by decide +kernel
theorem dX5_accountOf_76 : decode cX5_accountOf 76 = .ok (.ireturn, 1) := by decide +kernel
theorem dX5_accountOf_77 : decode cX5_accountOf 77 = .ok (.aload_n 0, 1) := by decide +kernel
theorem dX5_accountOf_78 : decode cX5_accountOf 78 = .ok (.aload_n 3, 1) := by decide +kernel
theorem dX5_accountOf_79 : decode cX5_accountOf 79 = .ok (.iload 5, 2) := by decide +kernel
theorem dX5_accountOf_81 : decode cX5_accountOf 81 = .ok (.iload 6, 2) := by decide +kernel
theorem dX5_accountOf_83 : decode cX5_accountOf 83 = .ok (.iload 4, 2) := by decide +kernel
theorem dX5_accountOf_85 : decode cX5_accountOf 85 = .ok (.iconst 3, 1) := by decide +kernel
theorem dX5_accountOf_86 : decode cX5_accountOf 86 = .ok (.if_icmp .ne 7, 3) := by decide +kernel
theorem dX5_accountOf_89 : decode cX5_accountOf 89 = .ok (.iconst 1, 1) := by decide +kernel
theorem dX5_accountOf_90 : decode cX5_accountOf 90 = .ok (.goto 4, 3) := by decide +kernel
theorem dX5_accountOf_93 : decode cX5_accountOf 93 = .ok (.iconst 0, 1) := by decide +kernel
theorem dX5_accountOf_94 : decode cX5_accountOf 94 = .ok (.invokevirtual 67, 3) := by decide +kernel
theorem dX5_accountOf_97 : decode cX5_accountOf 97 = .ok (.ireturn, 1) := by decide +kernel
theorem dX5_sumOf_0 : decode cX5_sumOf 0 = .ok (.iconst 0, 1) := by decide +kernel
theorem dX5_sumOf_1 : decode cX5_sumOf 1 = .ok (.istore 4, 2) := by decide +kernel
theorem dX5_sumOf_3 : decode cX5_sumOf 3 = .ok (.iload_n 2, 1) := by decide +kernel
theorem dX5_sumOf_4 : decode cX5_sumOf 4 = .ok (.istore 5, 2) := by decide +kernel
theorem dX5_sumOf_6 : decode cX5_sumOf 6 = .ok (.iload 5, 2) := by decide +kernel
theorem dX5_sumOf_8 : decode cX5_sumOf 8 = .ok (.iload_n 3, 1) := by decide +kernel
theorem dX5_sumOf_9 : decode cX5_sumOf 9 = .ok (.if_icmp .ge 26, 3) := by decide +kernel
theorem dX5_sumOf_12 : decode cX5_sumOf 12 = .ok (.iload 4, 2) := by decide +kernel
theorem dX5_sumOf_14 : decode cX5_sumOf 14 = .ok (.aload_n 1, 1) := by decide +kernel
theorem dX5_sumOf_15 : decode cX5_sumOf 15 = .ok (.getfield 37, 3) := by decide +kernel
theorem dX5_sumOf_18 : decode cX5_sumOf 18 = .ok (.aload_n 0, 1) := by decide +kernel
theorem dX5_sumOf_19 : decode cX5_sumOf 19 = .ok (.getfield 18, 3) := by decide +kernel
theorem dX5_sumOf_22 : decode cX5_sumOf 22 = .ok (.iload 5, 2) := by decide +kernel
theorem dX5_sumOf_24 : decode cX5_sumOf 24 = .ok (.iaload, 1) := by decide +kernel
theorem dX5_sumOf_25 : decode cX5_sumOf 25 = .ok (.iaload, 1) := by decide +kernel
theorem dX5_sumOf_26 : decode cX5_sumOf 26 = .ok (.iadd, 1) := by decide +kernel
theorem dX5_sumOf_27 : decode cX5_sumOf 27 = .ok (.istore 4, 2) := by decide +kernel
theorem dX5_sumOf_29 : decode cX5_sumOf 29 = .ok (.iinc 5 1, 3) := by decide +kernel
theorem dX5_sumOf_32 : decode cX5_sumOf 32 = .ok (.goto (-26), 3) := by decide +kernel
theorem dX5_sumOf_35 : decode cX5_sumOf 35 = .ok (.iload 4, 2) := by decide +kernel
theorem dX5_sumOf_37 : decode cX5_sumOf 37 = .ok (.ireturn, 1) := by decide +kernel
theorem dX5_endOf_0 : decode cX5_endOf 0 = .ok (.iconst 0, 1) := by decide +kernel
theorem dX5_endOf_1 : decode cX5_endOf 1 = .ok (.istore 5, 2) := by decide +kernel
theorem dX5_endOf_3 : decode cX5_endOf 3 = .ok (.iconst 0, 1) := by decide +kernel
theorem dX5_endOf_4 : decode cX5_endOf 4 = .ok (.istore 6, 2) := by decide +kernel
theorem dX5_endOf_6 : decode cX5_endOf 6 = .ok (.iload_n 2, 1) := by decide +kernel
theorem dX5_endOf_7 : decode cX5_endOf 7 = .ok (.istore 7, 2) := by decide +kernel
theorem dX5_endOf_9 : decode cX5_endOf 9 = .ok (.iload 7, 2) := by decide +kernel
theorem dX5_endOf_11 : decode cX5_endOf 11 = .ok (.iload_n 3, 1) := by decide +kernel
theorem dX5_endOf_12 : decode cX5_endOf 12 = .ok (.if_icmp .ge 93, 3) := by decide +kernel
theorem dX5_endOf_15 : decode cX5_endOf 15 = .ok (.aload_n 0, 1) := by decide +kernel
theorem dX5_endOf_16 : decode cX5_endOf 16 = .ok (.getfield 18, 3) := by decide +kernel
theorem dX5_endOf_19 : decode cX5_endOf 19 = .ok (.iload 7, 2) := by decide +kernel
theorem dX5_endOf_21 : decode cX5_endOf 21 = .ok (.iaload, 1) := by decide +kernel
theorem dX5_endOf_22 : decode cX5_endOf 22 = .ok (.istore 8, 2) := by decide +kernel
theorem dX5_endOf_24 : decode cX5_endOf 24 = .ok (.aload_n 1, 1) := by decide +kernel
theorem dX5_endOf_25 : decode cX5_endOf 25 = .ok (.getfield 42, 3) := by decide +kernel
theorem dX5_endOf_28 : decode cX5_endOf 28 = .ok (.iload 8, 2) := by decide +kernel
theorem dX5_endOf_30 : decode cX5_endOf 30 = .ok (.baload, 1) := by decide +kernel
theorem dX5_endOf_31 : decode cX5_endOf 31 = .ok (.ifCond .ne 68, 3) := by decide +kernel
theorem dX5_endOf_34 : decode cX5_endOf 34 = .ok (.aload_n 1, 1) := by decide +kernel
theorem dX5_endOf_35 : decode cX5_endOf 35 = .ok (.getfield 37, 3) := by decide +kernel
theorem dX5_endOf_38 : decode cX5_endOf 38 = .ok (.iload 8, 2) := by decide +kernel
theorem dX5_endOf_40 : decode cX5_endOf 40 = .ok (.iaload, 1) := by decide +kernel
theorem dX5_endOf_41 : decode cX5_endOf 41 = .ok (.istore 9, 2) := by decide +kernel
theorem dX5_endOf_43 : decode cX5_endOf 43 = .ok (.iload 4, 2) := by decide +kernel
theorem dX5_endOf_45 : decode cX5_endOf 45 = .ok (.ifCond .eq 18, 3) := by decide +kernel
theorem dX5_endOf_48 : decode cX5_endOf 48 = .ok (.iload 9, 2) := by decide +kernel
theorem dX5_endOf_50 : decode cX5_endOf 50 = .ok (.iload 6, 2) := by decide +kernel
theorem dX5_endOf_52 : decode cX5_endOf 52 = .ok (.if_icmp .ge 7, 3) := by decide +kernel
theorem dX5_endOf_55 : decode cX5_endOf 55 = .ok (.iconst 1, 1) := by decide +kernel
theorem dX5_endOf_56 : decode cX5_endOf 56 = .ok (.goto 19, 3) := by decide +kernel
theorem dX5_endOf_59 : decode cX5_endOf 59 = .ok (.iconst 0, 1) := by decide +kernel
theorem dX5_endOf_60 : decode cX5_endOf 60 = .ok (.goto 15, 3) := by decide +kernel
theorem dX5_endOf_63 : decode cX5_endOf 63 = .ok (.iload 9, 2) := by decide +kernel
theorem dX5_endOf_65 : decode cX5_endOf 65 = .ok (.iload 6, 2) := by decide +kernel
theorem dX5_endOf_67 : decode cX5_endOf 67 = .ok (.if_icmp .le 7, 3) := by decide +kernel
theorem dX5_endOf_70 : decode cX5_endOf 70 = .ok (.iconst 1, 1) := by decide +kernel
theorem dX5_endOf_71 : decode cX5_endOf 71 = .ok (.goto 4, 3) := by decide +kernel
theorem dX5_endOf_74 : decode cX5_endOf 74 = .ok (.iconst 0, 1) := by decide +kernel
theorem dX5_endOf_75 : decode cX5_endOf 75 = .ok (.istore 10, 2) := by decide +kernel
theorem dX5_endOf_77 : decode cX5_endOf 77 = .ok (.iload 5, 2) := by decide +kernel
theorem dX5_endOf_79 : decode cX5_endOf 79 = .ok (.ifCond .eq 8, 3) := by decide +kernel
theorem dX5_endOf_82 : decode cX5_endOf 82 = .ok (.iload 10, 2) := by decide +kernel
theorem dX5_endOf_84 : decode cX5_endOf 84 = .ok (.ifCond .eq 8, 3) := by decide +kernel
theorem dX5_endOf_87 : decode cX5_endOf 87 = .ok (.iload 9, 2) := by decide +kernel
theorem dX5_endOf_89 : decode cX5_endOf 89 = .ok (.goto 5, 3) := by decide +kernel
theorem dX5_endOf_92 : decode cX5_endOf 92 = .ok (.iload 6, 2) := by decide +kernel
theorem dX5_endOf_94 : decode cX5_endOf 94 = .ok (.istore 6, 2) := by decide +kernel
theorem dX5_endOf_96 : decode cX5_endOf 96 = .ok (.iconst 1, 1) := by decide +kernel
theorem dX5_endOf_97 : decode cX5_endOf 97 = .ok (.istore 5, 2) := by decide +kernel
theorem dX5_endOf_99 : decode cX5_endOf 99 = .ok (.iinc 7 1, 3) := by decide +kernel
theorem dX5_endOf_102 : decode cX5_endOf 102 = .ok (.goto (-93), 3) := by decide +kernel
theorem dX5_endOf_105 : decode cX5_endOf 105 = .ok (.iload 6, 2) := by decide +kernel
theorem dX5_endOf_107 : decode cX5_endOf 107 = .ok (.ireturn, 1) := by decide +kernel
theorem dX5_pairCount_0 : decode cX5_pairCount 0 = .ok (.iconst 0, 1) := by decide +kernel
theorem dX5_pairCount_1 : decode cX5_pairCount 1 = .ok (.istore_n 3, 1) := by decide +kernel
theorem dX5_pairCount_2 : decode cX5_pairCount 2 = .ok (.iconst 0, 1) := by decide +kernel
theorem dX5_pairCount_3 : decode cX5_pairCount 3 = .ok (.istore 4, 2) := by decide +kernel
theorem dX5_pairCount_5 : decode cX5_pairCount 5 = .ok (.iload 4, 2) := by decide +kernel
theorem dX5_pairCount_7 : decode cX5_pairCount 7 = .ok (.aload_n 0, 1) := by decide +kernel
theorem dX5_pairCount_8 : decode cX5_pairCount 8 = .ok (.getfield 30, 3) := by decide +kernel
theorem dX5_pairCount_11 : decode cX5_pairCount 11 = .ok (.if_icmp .ge 85, 3) := by decide +kernel
theorem dX5_pairCount_14 : decode cX5_pairCount 14 = .ok (.aload_n 0, 1) := by decide +kernel
theorem dX5_pairCount_15 : decode cX5_pairCount 15 = .ok (.getfield 9, 3) := by decide +kernel
theorem dX5_pairCount_18 : decode cX5_pairCount 18 = .ok (.iload 4, 2) := by decide +kernel
theorem dX5_pairCount_20 : decode cX5_pairCount 20 = .ok (.iaload, 1) := by decide +kernel
theorem dX5_pairCount_21 : decode cX5_pairCount 21 = .ok (.istore 5, 2) := by decide +kernel
theorem dX5_pairCount_23 : decode cX5_pairCount 23 = .ok (.iconst 0, 1) := by decide +kernel
theorem dX5_pairCount_24 : decode cX5_pairCount 24 = .ok (.istore 6, 2) := by decide +kernel
theorem dX5_pairCount_26 : decode cX5_pairCount 26 = .ok (.iload 6, 2) := by decide +kernel
theorem dX5_pairCount_28 : decode cX5_pairCount 28 = .ok (.aload_n 0, 1) := by decide +kernel
theorem dX5_pairCount_29 : decode cX5_pairCount 29 = .ok (.getfield 34, 3) := by decide +kernel
theorem dX5_pairCount_32 : decode cX5_pairCount 32 = .ok (.if_icmp .ge 58, 3) := by decide +kernel
theorem dX5_pairCount_35 : decode cX5_pairCount 35 = .ok (.aload_n 1, 1) := by decide +kernel
theorem dX5_pairCount_36 : decode cX5_pairCount 36 = .ok (.getfield 42, 3) := by decide +kernel
theorem dX5_pairCount_39 : decode cX5_pairCount 39 = .ok (.iload 5, 2) := by decide +kernel
theorem dX5_pairCount_41 : decode cX5_pairCount 41 = .ok (.baload, 1) := by decide +kernel
theorem dX5_pairCount_42 : decode cX5_pairCount 42 = .ok (.ifCond .ne 48, 3) := by decide +kernel
theorem dX5_pairCount_45 : decode cX5_pairCount 45 = .ok (.aload_n 0, 1) := by decide +kernel
theorem dX5_pairCount_46 : decode cX5_pairCount 46 = .ok (.getfield 15, 3) := by decide +kernel
theorem dX5_pairCount_49 : decode cX5_pairCount 49 = .ok (.iload 6, 2) := by decide +kernel
theorem dX5_pairCount_51 : decode cX5_pairCount 51 = .ok (.iaload, 1) := by decide +kernel
theorem dX5_pairCount_52 : decode cX5_pairCount 52 = .ok (.istore 7, 2) := by decide +kernel
theorem dX5_pairCount_54 : decode cX5_pairCount 54 = .ok (.aload_n 2, 1) := by decide +kernel
theorem dX5_pairCount_55 : decode cX5_pairCount 55 = .ok (.getfield 42, 3) := by decide +kernel
theorem dX5_pairCount_58 : decode cX5_pairCount 58 = .ok (.iload 7, 2) := by decide +kernel
theorem dX5_pairCount_60 : decode cX5_pairCount 60 = .ok (.baload, 1) := by decide +kernel
theorem dX5_pairCount_61 : decode cX5_pairCount 61 = .ok (.ifCond .ne 23, 3) := by decide +kernel
theorem dX5_pairCount_64 : decode cX5_pairCount 64 = .ok (.aload_n 2, 1) := by decide +kernel
theorem dX5_pairCount_65 : decode cX5_pairCount 65 = .ok (.getfield 37, 3) := by decide +kernel
theorem dX5_pairCount_68 : decode cX5_pairCount 68 = .ok (.iload 7, 2) := by decide +kernel
theorem dX5_pairCount_70 : decode cX5_pairCount 70 = .ok (.iaload, 1) := by decide +kernel
theorem dX5_pairCount_71 : decode cX5_pairCount 71 = .ok (.aload_n 1, 1) := by decide +kernel
theorem dX5_pairCount_72 : decode cX5_pairCount 72 = .ok (.getfield 37, 3) := by decide +kernel
theorem dX5_pairCount_75 : decode cX5_pairCount 75 = .ok (.iload 5, 2) := by decide +kernel
theorem dX5_pairCount_77 : decode cX5_pairCount 77 = .ok (.iaload, 1) := by decide +kernel
theorem dX5_pairCount_78 : decode cX5_pairCount 78 = .ok (.if_icmp .ne 6, 3) := by decide +kernel
theorem dX5_pairCount_81 : decode cX5_pairCount 81 = .ok (.iinc 3 1, 3) := by decide +kernel
theorem dX5_pairCount_84 : decode cX5_pairCount 84 = .ok (.iinc 6 1, 3) := by decide +kernel
theorem dX5_pairCount_87 : decode cX5_pairCount 87 = .ok (.goto (-61), 3) := by decide +kernel
theorem dX5_pairCount_90 : decode cX5_pairCount 90 = .ok (.iinc 4 1, 3) := by decide +kernel
theorem dX5_pairCount_93 : decode cX5_pairCount 93 = .ok (.goto (-88), 3) := by decide +kernel
theorem dX5_pairCount_96 : decode cX5_pairCount 96 = .ok (.iload_n 3, 1) := by decide +kernel
theorem dX5_pairCount_97 : decode cX5_pairCount 97 = .ok (.ireturn, 1) := by decide +kernel
theorem dX6_init_0 : decode cX6_init 0 = .ok (.aload_n 0, 1) := by decide +kernel
theorem dX6_init_1 : decode cX6_init 1 = .ok (.invokespecial 3, 3) := by decide +kernel
theorem dX6_init_4 : decode cX6_init 4 = .ok (.aload_n 0, 1) := by decide +kernel
theorem dX6_init_5 : decode cX6_init 5 = .ok (.sipush 600, 3) := by decide +kernel
theorem dX6_init_8 : decode cX6_init 8 = .ok (.newarray .int, 2) := by decide +kernel
theorem dX6_init_10 : decode cX6_init 10 = .ok (.putfield 9, 3) := by decide +kernel
theorem dX6_init_13 : decode cX6_init 13 = .ok (.aload_n 0, 1) := by decide +kernel
theorem dX6_init_14 : decode cX6_init 14 = .ok (.bipush 64, 2) := by decide +kernel
theorem dX6_init_16 : decode cX6_init 16 = .ok (.newarray .boolean, 2) := by decide +kernel
theorem dX6_init_18 : decode cX6_init 18 = .ok (.putfield 15, 3) := by decide +kernel
theorem dX6_init_21 : decode cX6_init 21 = .ok (.aload_n 0, 1) := by decide +kernel
theorem dX6_init_22 : decode cX6_init 22 = .ok (.bipush 64, 2) := by decide +kernel
theorem dX6_init_24 : decode cX6_init 24 = .ok (.newarray .boolean, 2) := by decide +kernel
theorem dX6_init_26 : decode cX6_init 26 = .ok (.putfield 19, 3) := by decide +kernel
theorem dX6_init_29 : decode cX6_init 29 = .ok (.aload_n 0, 1) := by decide +kernel
theorem dX6_init_30 : decode cX6_init 30 = .ok (.iconst 4, 1) := by decide +kernel
theorem dX6_init_31 : decode cX6_init 31 = .ok (.newarray .int, 2) := by decide +kernel
theorem dX6_init_33 : decode cX6_init 33 = .ok (.putfield 22, 3) := by decide +kernel
theorem dX6_init_36 : decode cX6_init 36 = .ok (.aload_n 0, 1) := by decide +kernel
theorem dX6_init_37 : decode cX6_init 37 = .ok (.iconst 4, 1) := by decide +kernel
theorem dX6_init_38 : decode cX6_init 38 = .ok (.newarray .int, 2) := by decide +kernel
theorem dX6_init_40 : decode cX6_init 40 = .ok (.putfield 25, 3) := by decide +kernel
theorem dX6_init_43 : decode cX6_init 43 = .ok (.return_, 1) := by decide +kernel
theorem dX6_run_0 : decode cX6_run 0 = .ok (.aload_n 0, 1) := by decide +kernel
theorem dX6_run_1 : decode cX6_run 1 = .ok (.iconst 0, 1) := by decide +kernel
theorem dX6_run_2 : decode cX6_run 2 = .ok (.putfield 28, 3) := by decide +kernel
theorem dX6_run_5 : decode cX6_run 5 = .ok (.aload_n 0, 1) := by decide +kernel
theorem dX6_run_6 : decode cX6_run 6 = .ok (.iconst 0, 1) := by decide +kernel
theorem dX6_run_7 : decode cX6_run 7 = .ok (.putfield 32, 3) := by decide +kernel
theorem dX6_run_10 : decode cX6_run 10 = .ok (.aload_n 0, 1) := by decide +kernel
theorem dX6_run_11 : decode cX6_run 11 = .ok (.iconst 0, 1) := by decide +kernel
theorem dX6_run_12 : decode cX6_run 12 = .ok (.putfield 35, 3) := by decide +kernel
theorem dX6_run_15 : decode cX6_run 15 = .ok (.aload_n 0, 1) := by decide +kernel
theorem dX6_run_16 : decode cX6_run 16 = .ok (.iload_n 3, 1) := by decide +kernel
theorem dX6_run_17 : decode cX6_run 17 = .ok (.putfield 38, 3) := by decide +kernel
theorem dX6_run_20 : decode cX6_run 20 = .ok (.aload_n 2, 1) := by decide +kernel
theorem dX6_run_21 : decode cX6_run 21 = .ok (.invokevirtual 42, 3) := by decide +kernel
theorem dX6_run_24 : decode cX6_run 24 = .ok (.ifCond .ne 7, 3) := by decide +kernel
theorem dX6_run_27 : decode cX6_run 27 = .ok (.iconst 1, 1) := by decide +kernel
theorem dX6_run_28 : decode cX6_run 28 = .ok (.goto 4, 3) := by decide +kernel
theorem dX6_run_31 : decode cX6_run 31 = .ok (.iconst 0, 1) := by decide +kernel
theorem dX6_run_32 : decode cX6_run 32 = .ok (.istore 4, 2) := by decide +kernel
theorem dX6_run_34 : decode cX6_run 34 = .ok (.iconst 0, 1) := by decide +kernel
theorem dX6_run_35 : decode cX6_run 35 = .ok (.istore 5, 2) := by decide +kernel
theorem dX6_run_37 : decode cX6_run 37 = .ok (.iload 5, 2) := by decide +kernel
theorem dX6_run_39 : decode cX6_run 39 = .ok (.aload_n 1, 1) := by decide +kernel
theorem dX6_run_40 : decode cX6_run 40 = .ok (.getfield 48, 3) := by decide +kernel
theorem dX6_run_43 : decode cX6_run 43 = .ok (.invokevirtual 54, 3) := by decide +kernel
theorem dX6_run_46 : decode cX6_run 46 = .ok (.if_icmp .ge 69, 3) := by decide +kernel
theorem dX6_run_49 : decode cX6_run 49 = .ok (.aload_n 0, 1) := by decide +kernel
theorem dX6_run_50 : decode cX6_run 50 = .ok (.aload_n 1, 1) := by decide +kernel
theorem dX6_run_51 : decode cX6_run 51 = .ok (.aload_n 2, 1) := by decide +kernel
theorem dX6_run_52 : decode cX6_run 52 = .ok (.aload_n 1, 1) := by decide +kernel
theorem dX6_run_53 : decode cX6_run 53 = .ok (.getfield 48, 3) := by decide +kernel
theorem dX6_run_56 : decode cX6_run 56 = .ok (.iload 5, 2) := by decide +kernel
theorem dX6_run_58 : decode cX6_run 58 = .ok (.invokevirtual 59, 3) := by decide +kernel
theorem dX6_run_61 : decode cX6_run 61 = .ok (.checkcast 63, 3) := by decide +kernel
theorem dX6_run_64 : decode cX6_run 64 = .ok (.iconst 1, 1) := by decide +kernel
theorem dX6_run_65 : decode cX6_run 65 = .ok (.invokevirtual 65, 3) := by decide +kernel
theorem dX6_run_68 : decode cX6_run 68 = .ok (.istore 6, 2) := by decide +kernel
theorem dX6_run_70 : decode cX6_run 70 = .ok (.iload 6, 2) := by decide +kernel
theorem dX6_run_72 : decode cX6_run 72 = .ok (.ifCond .ne 18, 3) := by decide +kernel
theorem dX6_run_75 : decode cX6_run 75 = .ok (.iload 4, 2) := by decide +kernel
theorem dX6_run_77 : decode cX6_run 77 = .ok (.ifCond .ne 13, 3) := by decide +kernel
theorem dX6_run_80 : decode cX6_run 80 = .ok (.aload_n 0, 1) := by decide +kernel
theorem dX6_run_81 : decode cX6_run 81 = .ok (.dup, 1) := by decide +kernel
theorem dX6_run_82 : decode cX6_run 82 = .ok (.getfield 35, 3) := by decide +kernel
theorem dX6_run_85 : decode cX6_run 85 = .ok (.iconst 1, 1) := by decide +kernel
theorem dX6_run_86 : decode cX6_run 86 = .ok (.iadd, 1) := by decide +kernel
theorem dX6_run_87 : decode cX6_run 87 = .ok (.putfield 35, 3) := by decide +kernel
theorem dX6_run_90 : decode cX6_run 90 = .ok (.aload_n 0, 1) := by decide +kernel
theorem dX6_run_91 : decode cX6_run 91 = .ok (.aload_n 1, 1) := by decide +kernel
theorem dX6_run_92 : decode cX6_run 92 = .ok (.aload_n 1, 1) := by decide +kernel
theorem dX6_run_93 : decode cX6_run 93 = .ok (.getfield 48, 3) := by decide +kernel
theorem dX6_run_96 : decode cX6_run 96 = .ok (.iload 5, 2) := by decide +kernel
theorem dX6_run_98 : decode cX6_run 98 = .ok (.invokevirtual 59, 3) := by decide +kernel
theorem dX6_run_101 : decode cX6_run 101 = .ok (.checkcast 63, 3) := by decide +kernel
theorem dX6_run_104 : decode cX6_run 104 = .ok (.iload 4, 2) := by decide +kernel
theorem dX6_run_106 : decode cX6_run 106 = .ok (.invokevirtual 69, 3) := by decide +kernel
theorem dX6_run_109 : decode cX6_run 109 = .ok (.iinc 5 1, 3) := by decide +kernel
theorem dX6_run_112 : decode cX6_run 112 = .ok (.goto (-75), 3) := by decide +kernel
theorem dX6_run_115 : decode cX6_run 115 = .ok (.aload_n 0, 1) := by decide +kernel
theorem dX6_run_116 : decode cX6_run 116 = .ok (.aload_n 1, 1) := by decide +kernel
theorem dX6_run_117 : decode cX6_run 117 = .ok (.aload_n 2, 1) := by decide +kernel
theorem dX6_run_118 : decode cX6_run 118 = .ok (.aload_n 1, 1) := by decide +kernel
theorem dX6_run_119 : decode cX6_run 119 = .ok (.getfield 73, 3) := by decide +kernel
theorem dX6_run_122 : decode cX6_run 122 = .ok (.iconst 0, 1) := by decide +kernel
theorem dX6_run_123 : decode cX6_run 123 = .ok (.invokevirtual 65, 3) := by decide +kernel
theorem dX6_run_126 : decode cX6_run 126 = .ok (.pop, 1) := by decide +kernel
theorem dX6_run_127 : decode cX6_run 127 = .ok (.aload_n 0, 1) := by decide +kernel
theorem dX6_run_128 : decode cX6_run 128 = .ok (.aload_n 1, 1) := by decide +kernel
theorem dX6_run_129 : decode cX6_run 129 = .ok (.aload_n 1, 1) := by decide +kernel
theorem dX6_run_130 : decode cX6_run 130 = .ok (.getfield 73, 3) := by decide +kernel
theorem dX6_run_133 : decode cX6_run 133 = .ok (.iload 4, 2) := by decide +kernel
theorem dX6_run_135 : decode cX6_run 135 = .ok (.invokevirtual 69, 3) := by decide +kernel
theorem dX6_run_138 : decode cX6_run 138 = .ok (.return_, 1) := by decide +kernel
theorem dX6_lookThrough_0 : decode cX6_lookThrough 0 = .ok (.iconst 0, 1) := by decide +kernel
theorem dX6_lookThrough_1 : decode cX6_lookThrough 1 = .ok (.istore 5, 2) := by decide +kernel
theorem dX6_lookThrough_3 : decode cX6_lookThrough 3 = .ok (.iconst 0, 1) := by decide +kernel
end
section
theorem dX6_lookThrough_4 : decode cX6_lookThrough 4 = .ok (.istore 6, 2) := by decide +kernel
theorem dX6_lookThrough_6 : decode cX6_lookThrough 6 = .ok (.iload 6, 2) := by decide +kernel
theorem dX6_lookThrough_8 : decode cX6_lookThrough 8 = .ok (.aload_n 3, 1) := by decide +kernel
theorem dX6_lookThrough_9 : decode cX6_lookThrough 9 = .ok (.getfield 77, 3) := by decide +kernel
theorem dX6_lookThrough_12 : decode cX6_lookThrough 12 = .ok (.if_icmp .ge 17, 3) := by decide +kernel
theorem dX6_lookThrough_15 : decode cX6_lookThrough 15 = .ok (.aload_n 0, 1) := by decide +kernel
theorem dX6_lookThrough_16 : decode cX6_lookThrough 16 = .ok (.getfield 19, 3) := by decide +kernel
theorem dX6_lookThrough_19 : decode cX6_lookThrough 19 = .ok (.iload 6, 2) := by decide +kernel
theorem dX6_lookThrough_21 : decode cX6_lookThrough 21 = .ok (.iconst 0, 1) := by decide +kernel
theorem dX6_lookThrough_22 : decode cX6_lookThrough 22 = .ok (.bastore, 1) := by decide +kernel
theorem dX6_lookThrough_23 : decode cX6_lookThrough 23 = .ok (.iinc 6 1, 3) := by decide +kernel
theorem dX6_lookThrough_26 : decode cX6_lookThrough 26 = .ok (.goto (-20), 3) := by decide +kernel
theorem dX6_lookThrough_29 : decode cX6_lookThrough 29 = .ok (.iconst 0, 1) := by decide +kernel
theorem dX6_lookThrough_30 : decode cX6_lookThrough 30 = .ok (.istore 6, 2) := by decide +kernel
theorem dX6_lookThrough_32 : decode cX6_lookThrough 32 = .ok (.iload 6, 2) := by decide +kernel
theorem dX6_lookThrough_34 : decode cX6_lookThrough 34 = .ok (.aload_n 2, 1) := by decide +kernel
theorem dX6_lookThrough_35 : decode cX6_lookThrough 35 = .ok (.getfield 78, 3) := by decide +kernel
theorem dX6_lookThrough_38 : decode cX6_lookThrough 38 = .ok (.if_icmp .ge 105, 3) := by decide +kernel
theorem dX6_lookThrough_41 : decode cX6_lookThrough 41 = .ok (.aload_n 2, 1) := by decide +kernel
theorem dX6_lookThrough_42 : decode cX6_lookThrough 42 = .ok (.getfield 79, 3) := by decide +kernel
theorem dX6_lookThrough_45 : decode cX6_lookThrough 45 = .ok (.iload 6, 2) := by decide +kernel
theorem dX6_lookThrough_47 : decode cX6_lookThrough 47 = .ok (.aaload, 1) := by decide +kernel
theorem dX6_lookThrough_48 : decode cX6_lookThrough 48 = .ok (.astore 7, 2) := by decide +kernel
theorem dX6_lookThrough_50 : decode cX6_lookThrough 50 = .ok (.aload 7, 2) := by decide +kernel
theorem dX6_lookThrough_52 : decode cX6_lookThrough 52 = .ok (.getfield 83, 3) := by decide +kernel
theorem dX6_lookThrough_55 : decode cX6_lookThrough 55 = .ok (.ifCond .le 82, 3) := by decide +kernel
theorem dX6_lookThrough_58 : decode cX6_lookThrough 58 = .ok (.aload_n 0, 1) := by decide +kernel
theorem dX6_lookThrough_59 : decode cX6_lookThrough 59 = .ok (.aload_n 1, 1) := by decide +kernel
theorem dX6_lookThrough_60 : decode cX6_lookThrough 60 = .ok (.aload 7, 2) := by decide +kernel
theorem dX6_lookThrough_62 : decode cX6_lookThrough 62 = .ok (.aload_n 3, 1) := by decide +kernel
theorem dX6_lookThrough_63 : decode cX6_lookThrough 63 = .ok (.iload 4, 2) := by decide +kernel
theorem dX6_lookThrough_65 : decode cX6_lookThrough 65 = .ok (.invokevirtual 86, 3) := by decide +kernel
theorem dX6_lookThrough_68 : decode cX6_lookThrough 68 = .ok (.iload 5, 2) := by decide +kernel
theorem dX6_lookThrough_70 : decode cX6_lookThrough 70 = .ok (.ifCond .ne 10, 3) := by decide +kernel
theorem dX6_lookThrough_73 : decode cX6_lookThrough 73 = .ok (.aload_n 0, 1) := by decide +kernel
theorem dX6_lookThrough_74 : decode cX6_lookThrough 74 = .ok (.getfield 90, 3) := by decide +kernel
theorem dX6_lookThrough_77 : decode cX6_lookThrough 77 = .ok (.ifCond .le 7, 3) := by decide +kernel
theorem dX6_lookThrough_80 : decode cX6_lookThrough 80 = .ok (.iconst 1, 1) := by decide +kernel
theorem dX6_lookThrough_81 : decode cX6_lookThrough 81 = .ok (.goto 4, 3) := by decide +kernel
theorem dX6_lookThrough_84 : decode cX6_lookThrough 84 = .ok (.iconst 0, 1) := by decide +kernel
theorem dX6_lookThrough_85 : decode cX6_lookThrough 85 = .ok (.istore 5, 2) := by decide +kernel
theorem dX6_lookThrough_87 : decode cX6_lookThrough 87 = .ok (.iconst 0, 1) := by decide +kernel
theorem dX6_lookThrough_88 : decode cX6_lookThrough 88 = .ok (.istore 8, 2) := by decide +kernel
theorem dX6_lookThrough_90 : decode cX6_lookThrough 90 = .ok (.iload 8, 2) := by decide +kernel
theorem dX6_lookThrough_92 : decode cX6_lookThrough 92 = .ok (.aload_n 3, 1) := by decide +kernel
theorem dX6_lookThrough_93 : decode cX6_lookThrough 93 = .ok (.getfield 77, 3) := by decide +kernel
theorem dX6_lookThrough_96 : decode cX6_lookThrough 96 = .ok (.if_icmp .ge 41, 3) := by decide +kernel
theorem dX6_lookThrough_99 : decode cX6_lookThrough 99 = .ok (.aload_n 0, 1) := by decide +kernel
theorem dX6_lookThrough_100 : decode cX6_lookThrough 100 = .ok (.getfield 19, 3) := by decide +kernel
theorem dX6_lookThrough_103 : decode cX6_lookThrough 103 = .ok (.iload 8, 2) := by decide +kernel
theorem dX6_lookThrough_105 : decode cX6_lookThrough 105 = .ok (.aload_n 0, 1) := by decide +kernel
theorem dX6_lookThrough_106 : decode cX6_lookThrough 106 = .ok (.getfield 19, 3) := by decide +kernel
theorem dX6_lookThrough_109 : decode cX6_lookThrough 109 = .ok (.iload 8, 2) := by decide +kernel
theorem dX6_lookThrough_111 : decode cX6_lookThrough 111 = .ok (.baload, 1) := by decide +kernel
theorem dX6_lookThrough_112 : decode cX6_lookThrough 112 = .ok (.ifCond .ne 13, 3) := by decide +kernel
theorem dX6_lookThrough_115 : decode cX6_lookThrough 115 = .ok (.aload_n 0, 1) := by decide +kernel
theorem dX6_lookThrough_116 : decode cX6_lookThrough 116 = .ok (.getfield 15, 3) := by decide +kernel
theorem dX6_lookThrough_119 : decode cX6_lookThrough 119 = .ok (.iload 8, 2) := by decide +kernel
theorem dX6_lookThrough_121 : decode cX6_lookThrough 121 = .ok (.baload, 1) := by decide +kernel
theorem dX6_lookThrough_122 : decode cX6_lookThrough 122 = .ok (.ifCond .eq 7, 3) := by decide +kernel
theorem dX6_lookThrough_125 : decode cX6_lookThrough 125 = .ok (.iconst 1, 1) := by decide +kernel
theorem dX6_lookThrough_126 : decode cX6_lookThrough 126 = .ok (.goto 4, 3) := by decide +kernel
theorem dX6_lookThrough_129 : decode cX6_lookThrough 129 = .ok (.iconst 0, 1) := by decide +kernel
theorem dX6_lookThrough_130 : decode cX6_lookThrough 130 = .ok (.bastore, 1) := by decide +kernel
theorem dX6_lookThrough_131 : decode cX6_lookThrough 131 = .ok (.iinc 8 1, 3) := by decide +kernel
theorem dX6_lookThrough_134 : decode cX6_lookThrough 134 = .ok (.goto (-44), 3) := by decide +kernel
theorem dX6_lookThrough_137 : decode cX6_lookThrough 137 = .ok (.iinc 6 1, 3) := by decide +kernel
theorem dX6_lookThrough_140 : decode cX6_lookThrough 140 = .ok (.goto (-108), 3) := by decide +kernel
theorem dX6_lookThrough_143 : decode cX6_lookThrough 143 = .ok (.iload 5, 2) := by decide +kernel
theorem dX6_lookThrough_145 : decode cX6_lookThrough 145 = .ok (.ireturn, 1) := by decide +kernel
theorem dX6_select_0 : decode cX6_select 0 = .ok (.aload_n 0, 1) := by decide +kernel
theorem dX6_select_1 : decode cX6_select 1 = .ok (.aload_n 2, 1) := by decide +kernel
theorem dX6_select_2 : decode cX6_select 2 = .ok (.aload_n 3, 1) := by decide +kernel
theorem dX6_select_3 : decode cX6_select 3 = .ok (.iload 4, 2) := by decide +kernel
theorem dX6_select_5 : decode cX6_select 5 = .ok (.invokevirtual 93, 3) := by decide +kernel
theorem dX6_select_8 : decode cX6_select 8 = .ok (.aload_n 0, 1) := by decide +kernel
theorem dX6_select_9 : decode cX6_select 9 = .ok (.aload_n 3, 1) := by decide +kernel
theorem dX6_select_10 : decode cX6_select 10 = .ok (.getfield 77, 3) := by decide +kernel
theorem dX6_select_13 : decode cX6_select 13 = .ok (.putfield 90, 3) := by decide +kernel
theorem dX6_select_16 : decode cX6_select 16 = .ok (.iconst 0, 1) := by decide +kernel
theorem dX6_select_17 : decode cX6_select 17 = .ok (.istore 5, 2) := by decide +kernel
theorem dX6_select_19 : decode cX6_select 19 = .ok (.iload 5, 2) := by decide +kernel
theorem dX6_select_21 : decode cX6_select 21 = .ok (.aload_n 3, 1) := by decide +kernel
theorem dX6_select_22 : decode cX6_select 22 = .ok (.getfield 77, 3) := by decide +kernel
theorem dX6_select_25 : decode cX6_select 25 = .ok (.if_icmp .ge 17, 3) := by decide +kernel
theorem dX6_select_28 : decode cX6_select 28 = .ok (.aload_n 0, 1) := by decide +kernel
theorem dX6_select_29 : decode cX6_select 29 = .ok (.getfield 15, 3) := by decide +kernel
theorem dX6_select_32 : decode cX6_select 32 = .ok (.iload 5, 2) := by decide +kernel
theorem dX6_select_34 : decode cX6_select 34 = .ok (.iconst 1, 1) := by decide +kernel
theorem dX6_select_35 : decode cX6_select 35 = .ok (.bastore, 1) := by decide +kernel
theorem dX6_select_36 : decode cX6_select 36 = .ok (.iinc 5 1, 3) := by decide +kernel
theorem dX6_select_39 : decode cX6_select 39 = .ok (.goto (-20), 3) := by decide +kernel
theorem dX6_select_42 : decode cX6_select 42 = .ok (.iconst 0, 1) := by decide +kernel
theorem dX6_select_43 : decode cX6_select 43 = .ok (.istore 5, 2) := by decide +kernel
theorem dX6_select_45 : decode cX6_select 45 = .ok (.iload 5, 2) := by decide +kernel
theorem dX6_select_47 : decode cX6_select 47 = .ok (.aload_n 2, 1) := by decide +kernel
theorem dX6_select_48 : decode cX6_select 48 = .ok (.getfield 83, 3) := by decide +kernel
theorem dX6_select_51 : decode cX6_select 51 = .ok (.if_icmp .ge 95, 3) := by decide +kernel
theorem dX6_select_54 : decode cX6_select 54 = .ok (.aload_n 0, 1) := by decide +kernel
theorem dX6_select_55 : decode cX6_select 55 = .ok (.getfield 90, 3) := by decide +kernel
theorem dX6_select_58 : decode cX6_select 58 = .ok (.ifCond .le 88, 3) := by decide +kernel
theorem dX6_select_61 : decode cX6_select 61 = .ok (.aload_n 2, 1) := by decide +kernel
theorem dX6_select_62 : decode cX6_select 62 = .ok (.getfield 97, 3) := by decide +kernel
theorem dX6_select_65 : decode cX6_select 65 = .ok (.aload_n 0, 1) := by decide +kernel
theorem dX6_select_66 : decode cX6_select 66 = .ok (.getfield 22, 3) := by decide +kernel
theorem dX6_select_69 : decode cX6_select 69 = .ok (.iload 5, 2) := by decide +kernel
theorem dX6_select_71 : decode cX6_select 71 = .ok (.iaload, 1) := by decide +kernel
theorem dX6_select_72 : decode cX6_select 72 = .ok (.aaload, 1) := by decide +kernel
theorem dX6_select_73 : decode cX6_select 73 = .ok (.astore 6, 2) := by decide +kernel
theorem dX6_select_75 : decode cX6_select 75 = .ok (.aload_n 1, 1) := by decide +kernel
theorem dX6_select_76 : decode cX6_select 76 = .ok (.getfield 101, 3) := by decide +kernel
theorem dX6_select_79 : decode cX6_select 79 = .ok (.aload 6, 2) := by decide +kernel
theorem dX6_select_81 : decode cX6_select 81 = .ok (.getfield 104, 3) := by decide +kernel
theorem dX6_select_84 : decode cX6_select 84 = .ok (.invokevirtual 59, 3) := by decide +kernel
theorem dX6_select_87 : decode cX6_select 87 = .ok (.checkcast 109, 3) := by decide +kernel
theorem dX6_select_90 : decode cX6_select 90 = .ok (.astore 7, 2) := by decide +kernel
theorem dX6_select_92 : decode cX6_select 92 = .ok (.aload_n 0, 1) := by decide +kernel
theorem dX6_select_93 : decode cX6_select 93 = .ok (.dup, 1) := by decide +kernel
theorem dX6_select_94 : decode cX6_select 94 = .ok (.getfield 32, 3) := by decide +kernel
theorem dX6_select_97 : decode cX6_select 97 = .ok (.iload 4, 2) := by decide +kernel
theorem dX6_select_99 : decode cX6_select 99 = .ok (.ifCond .eq 24, 3) := by decide +kernel
theorem dX6_select_102 : decode cX6_select 102 = .ok (.aload_n 0, 1) := by decide +kernel
theorem dX6_select_103 : decode cX6_select 103 = .ok (.aload_n 3, 1) := by decide +kernel
theorem dX6_select_104 : decode cX6_select 104 = .ok (.getfield 111, 3) := by decide +kernel
theorem dX6_select_107 : decode cX6_select 107 = .ok (.aload 6, 2) := by decide +kernel
theorem dX6_select_109 : decode cX6_select 109 = .ok (.getfield 104, 3) := by decide +kernel
theorem dX6_select_112 : decode cX6_select 112 = .ok (.aaload, 1) := by decide +kernel
theorem dX6_select_113 : decode cX6_select 113 = .ok (.aload 6, 2) := by decide +kernel
theorem dX6_select_115 : decode cX6_select 115 = .ok (.aload 7, 2) := by decide +kernel
theorem dX6_select_117 : decode cX6_select 117 = .ok (.invokevirtual 115, 3) := by decide +kernel
theorem dX6_select_120 : decode cX6_select 120 = .ok (.goto 7, 3) := by decide +kernel
theorem dX6_select_123 : decode cX6_select 123 = .ok (.aload_n 0, 1) := by decide +kernel
theorem dX6_select_124 : decode cX6_select 124 = .ok (.getfield 90, 3) := by decide +kernel
theorem dX6_select_127 : decode cX6_select 127 = .ok (.iadd, 1) := by decide +kernel
theorem dX6_select_128 : decode cX6_select 128 = .ok (.putfield 32, 3) := by decide +kernel
theorem dX6_select_131 : decode cX6_select 131 = .ok (.aload_n 0, 1) := by decide +kernel
theorem dX6_select_132 : decode cX6_select 132 = .ok (.aload_n 3, 1) := by decide +kernel
theorem dX6_select_133 : decode cX6_select 133 = .ok (.aload 6, 2) := by decide +kernel
theorem dX6_select_135 : decode cX6_select 135 = .ok (.aload 7, 2) := by decide +kernel
theorem dX6_select_137 : decode cX6_select 137 = .ok (.invokevirtual 119, 3) := by decide +kernel
theorem dX6_select_140 : decode cX6_select 140 = .ok (.iinc 5 1, 3) := by decide +kernel
theorem dX6_select_143 : decode cX6_select 143 = .ok (.goto (-98), 3) := by decide +kernel
theorem dX6_select_146 : decode cX6_select 146 = .ok (.return_, 1) := by decide +kernel
theorem dX6_orderConditions_0 : decode cX6_orderConditions 0 = .ok (.iconst 0, 1) := by decide +kernel
theorem dX6_orderConditions_1 : decode cX6_orderConditions 1 = .ok (.istore 4, 2) := by decide +kernel
theorem dX6_orderConditions_3 : decode cX6_orderConditions 3 = .ok (.iload 4, 2) := by decide +kernel
theorem dX6_orderConditions_5 : decode cX6_orderConditions 5 = .ok (.aload_n 1, 1) := by decide +kernel
theorem dX6_orderConditions_6 : decode cX6_orderConditions 6 = .ok (.getfield 83, 3) := by decide +kernel
theorem dX6_orderConditions_9 : decode cX6_orderConditions 9 = .ok (.if_icmp .ge 122, 3) := by decide +kernel
theorem dX6_orderConditions_12 : decode cX6_orderConditions 12 = .ok (.aload_n 1, 1) := by decide +kernel
theorem dX6_orderConditions_13 : decode cX6_orderConditions 13 = .ok (.getfield 97, 3) := by decide +kernel
theorem dX6_orderConditions_16 : decode cX6_orderConditions 16 = .ok (.iload 4, 2) := by decide +kernel
theorem dX6_orderConditions_18 : decode cX6_orderConditions 18 = .ok (.aaload, 1) := by decide +kernel
theorem dX6_orderConditions_19 : decode cX6_orderConditions 19 = .ok (.astore 5, 2) := by decide +kernel
theorem dX6_orderConditions_21 : decode cX6_orderConditions 21 = .ok (.iload_n 3, 1) := by decide +kernel
theorem dX6_orderConditions_22 : decode cX6_orderConditions 22 = .ok (.ifCond .eq 21, 3) := by decide +kernel
theorem dX6_orderConditions_25 : decode cX6_orderConditions 25 = .ok (.aload 5, 2) := by decide +kernel
theorem dX6_orderConditions_27 : decode cX6_orderConditions 27 = .ok (.aload_n 2, 1) := by decide +kernel
theorem dX6_orderConditions_28 : decode cX6_orderConditions 28 = .ok (.getfield 111, 3) := by decide +kernel
theorem dX6_orderConditions_31 : decode cX6_orderConditions 31 = .ok (.aload 5, 2) := by decide +kernel
theorem dX6_orderConditions_33 : decode cX6_orderConditions 33 = .ok (.getfield 104, 3) := by decide +kernel
theorem dX6_orderConditions_36 : decode cX6_orderConditions 36 = .ok (.aaload, 1) := by decide +kernel
theorem dX6_orderConditions_37 : decode cX6_orderConditions 37 = .ok (.invokevirtual 123, 3) := by decide +kernel
theorem dX6_orderConditions_40 : decode cX6_orderConditions 40 = .ok (.goto 4, 3) := by decide +kernel
theorem dX6_orderConditions_43 : decode cX6_orderConditions 43 = .ok (.iconst 0, 1) := by decide +kernel
theorem dX6_orderConditions_44 : decode cX6_orderConditions 44 = .ok (.istore 6, 2) := by decide +kernel
theorem dX6_orderConditions_46 : decode cX6_orderConditions 46 = .ok (.iload 4, 2) := by decide +kernel
theorem dX6_orderConditions_48 : decode cX6_orderConditions 48 = .ok (.istore 7, 2) := by decide +kernel
theorem dX6_orderConditions_50 : decode cX6_orderConditions 50 = .ok (.iload 7, 2) := by decide +kernel
theorem dX6_orderConditions_52 : decode cX6_orderConditions 52 = .ok (.ifCond .le 55, 3) := by decide +kernel
theorem dX6_orderConditions_55 : decode cX6_orderConditions 55 = .ok (.aload_n 0, 1) := by decide +kernel
theorem dX6_orderConditions_56 : decode cX6_orderConditions 56 = .ok (.getfield 25, 3) := by decide +kernel
theorem dX6_orderConditions_59 : decode cX6_orderConditions 59 = .ok (.iload 7, 2) := by decide +kernel
theorem dX6_orderConditions_61 : decode cX6_orderConditions 61 = .ok (.iconst 1, 1) := by decide +kernel
theorem dX6_orderConditions_62 : decode cX6_orderConditions 62 = .ok (.isub, 1) := by decide +kernel
theorem dX6_orderConditions_63 : decode cX6_orderConditions 63 = .ok (.iaload, 1) := by decide +kernel
theorem dX6_orderConditions_64 : decode cX6_orderConditions 64 = .ok (.iload 6, 2) := by decide +kernel
theorem dX6_orderConditions_66 : decode cX6_orderConditions 66 = .ok (.if_icmp .le 41, 3) := by decide +kernel
theorem dX6_orderConditions_69 : decode cX6_orderConditions 69 = .ok (.aload_n 0, 1) := by decide +kernel
theorem dX6_orderConditions_70 : decode cX6_orderConditions 70 = .ok (.getfield 25, 3) := by decide +kernel
theorem dX6_orderConditions_73 : decode cX6_orderConditions 73 = .ok (.iload 7, 2) := by decide +kernel
theorem dX6_orderConditions_75 : decode cX6_orderConditions 75 = .ok (.aload_n 0, 1) := by decide +kernel
theorem dX6_orderConditions_76 : decode cX6_orderConditions 76 = .ok (.getfield 25, 3) := by decide +kernel
theorem dX6_orderConditions_79 : decode cX6_orderConditions 79 = .ok (.iload 7, 2) := by decide +kernel
theorem dX6_orderConditions_81 : decode cX6_orderConditions 81 = .ok (.iconst 1, 1) := by decide +kernel
theorem dX6_orderConditions_82 : decode cX6_orderConditions 82 = .ok (.isub, 1) := by decide +kernel
theorem dX6_orderConditions_83 : decode cX6_orderConditions 83 = .ok (.iaload, 1) := by decide +kernel
theorem dX6_orderConditions_84 : decode cX6_orderConditions 84 = .ok (.iastore, 1) := by decide +kernel
theorem dX6_orderConditions_85 : decode cX6_orderConditions 85 = .ok (.aload_n 0, 1) := by decide +kernel
theorem dX6_orderConditions_86 : decode cX6_orderConditions 86 = .ok (.getfield 22, 3) := by decide +kernel
theorem dX6_orderConditions_89 : decode cX6_orderConditions 89 = .ok (.iload 7, 2) := by decide +kernel
theorem dX6_orderConditions_91 : decode cX6_orderConditions 91 = .ok (.aload_n 0, 1) := by decide +kernel
theorem dX6_orderConditions_92 : decode cX6_orderConditions 92 = .ok (.getfield 22, 3) := by decide +kernel
theorem dX6_orderConditions_95 : decode cX6_orderConditions 95 = .ok (.iload 7, 2) := by decide +kernel
theorem dX6_orderConditions_97 : decode cX6_orderConditions 97 = .ok (.iconst 1, 1) := by decide +kernel
theorem dX6_orderConditions_98 : decode cX6_orderConditions 98 = .ok (.isub, 1) := by decide +kernel
theorem dX6_orderConditions_99 : decode cX6_orderConditions 99 = .ok (.iaload, 1) := by decide +kernel
theorem dX6_orderConditions_100 : decode cX6_orderConditions 100 = .ok (.iastore, 1) := by decide +kernel
theorem dX6_orderConditions_101 : decode cX6_orderConditions 101 = .ok (.iinc 7 (-1), 3) := by decide +kernel
theorem dX6_orderConditions_104 : decode cX6_orderConditions 104 = .ok (.goto (-54), 3) := by decide +kernel
theorem dX6_orderConditions_107 : decode cX6_orderConditions 107 = .ok (.aload_n 0, 1) := by decide +kernel
theorem dX6_orderConditions_108 : decode cX6_orderConditions 108 = .ok (.getfield 25, 3) := by decide +kernel
theorem dX6_orderConditions_111 : decode cX6_orderConditions 111 = .ok (.iload 7, 2) := by decide +kernel
theorem dX6_orderConditions_113 : decode cX6_orderConditions 113 = .ok (.iload 6, 2) := by decide +kernel
theorem dX6_orderConditions_115 : decode cX6_orderConditions 115 = .ok (.iastore, 1) := by decide +kernel
theorem dX6_orderConditions_116 : decode cX6_orderConditions 116 = .ok (.aload_n 0, 1) := by decide +kernel
theorem dX6_orderConditions_117 : decode cX6_orderConditions 117 = .ok (.getfield 22, 3) := by decide +kernel
theorem dX6_orderConditions_120 : decode cX6_orderConditions 120 = .ok (.iload 7, 2) := by decide +kernel
theorem dX6_orderConditions_122 : decode cX6_orderConditions 122 = .ok (.iload 4, 2) := by decide +kernel
theorem dX6_orderConditions_124 : decode cX6_orderConditions 124 = .ok (.iastore, 1) := by decide +kernel
theorem dX6_orderConditions_125 : decode cX6_orderConditions 125 = .ok (.iinc 4 1, 3) := by decide +kernel
theorem dX6_orderConditions_128 : decode cX6_orderConditions 128 = .ok (.goto (-125), 3) := by decide +kernel
theorem dX6_orderConditions_131 : decode cX6_orderConditions 131 = .ok (.return_, 1) := by decide +kernel
theorem dX6_costIn_0 : decode cX6_costIn 0 = .ok (.aload_n 2, 1) := by decide +kernel
theorem dX6_costIn_1 : decode cX6_costIn 1 = .ok (.aload_n 1, 1) := by decide +kernel
theorem dX6_costIn_2 : decode cX6_costIn 2 = .ok (.aload_n 0, 1) := by decide +kernel
theorem dX6_costIn_3 : decode cX6_costIn 3 = .ok (.getfield 38, 3) := by decide +kernel
theorem dX6_costIn_6 : decode cX6_costIn 6 = .ok (.ifCond .eq 14, 3) := by decide +kernel
theorem dX6_costIn_9 : decode cX6_costIn 9 = .ok (.aload_n 3, 1) := by decide +kernel
theorem dX6_costIn_10 : decode cX6_costIn 10 = .ok (.getfield 127, 3) := by decide +kernel
theorem dX6_costIn_13 : decode cX6_costIn 13 = .ok (.ifCond .eq 7, 3) := by decide +kernel
theorem dX6_costIn_16 : decode cX6_costIn 16 = .ok (.iconst 1, 1) := by decide +kernel
theorem dX6_costIn_17 : decode cX6_costIn 17 = .ok (.goto 4, 3) := by decide +kernel
theorem dX6_costIn_20 : decode cX6_costIn 20 = .ok (.iconst 0, 1) := by decide +kernel
theorem dX6_costIn_21 : decode cX6_costIn 21 = .ok (.invokevirtual 130, 3) := by decide +kernel
theorem dX6_costIn_24 : decode cX6_costIn 24 = .ok (.tableswitch 59 0 4 #[36, 36, 38, 44, 49], 36) := by decide +kernel
theorem dX6_costIn_60 : decode cX6_costIn 60 = .ok (.iconst 0, 1) := by decide +kernel
theorem dX6_costIn_61 : decode cX6_costIn 61 = .ok (.ireturn, 1) := by decide +kernel
theorem dX6_costIn_62 : decode cX6_costIn 62 = .ok (.aload_n 1, 1) := by decide +kernel
theorem dX6_costIn_63 : decode cX6_costIn 63 = .ok (.aload_n 2, 1) := by decide +kernel
theorem dX6_costIn_64 : decode cX6_costIn 64 = .ok (.invokevirtual 134, 3) := by decide +kernel
theorem dX6_costIn_67 : decode cX6_costIn 67 = .ok (.ireturn, 1) := by decide +kernel
theorem dX6_costIn_68 : decode cX6_costIn 68 = .ok (.aload_n 1, 1) := by decide +kernel
theorem dX6_costIn_69 : decode cX6_costIn 69 = .ok (.getfield 140, 3) := by decide +kernel
theorem dX6_costIn_72 : decode cX6_costIn 72 = .ok (.ireturn, 1) := by decide +kernel
theorem dX6_costIn_73 : decode cX6_costIn 73 = .ok (.aload_n 1, 1) := by decide +kernel
theorem dX6_costIn_74 : decode cX6_costIn 74 = .ok (.getfield 143, 3) := by decide +kernel
theorem dX6_costIn_77 : decode cX6_costIn 77 = .ok (.aload_n 0, 1) := by decide +kernel
theorem dX6_costIn_78 : decode cX6_costIn 78 = .ok (.getfield 90, 3) := by decide +kernel
theorem dX6_costIn_81 : decode cX6_costIn 81 = .ok (.iadd, 1) := by decide +kernel
theorem dX6_costIn_82 : decode cX6_costIn 82 = .ok (.ireturn, 1) := by decide +kernel
theorem dX6_costIn_83 : decode cX6_costIn 83 = .ok (.aload_n 0, 1) := by decide +kernel
theorem dX6_costIn_84 : decode cX6_costIn 84 = .ok (.getfield 90, 3) := by decide +kernel
theorem dX6_costIn_87 : decode cX6_costIn 87 = .ok (.ireturn, 1) := by decide +kernel
theorem dX6_narrow_0 : decode cX6_narrow 0 = .ok (.iconst 0, 1) := by decide +kernel
theorem dX6_narrow_1 : decode cX6_narrow 1 = .ok (.istore 4, 2) := by decide +kernel
theorem dX6_narrow_3 : decode cX6_narrow 3 = .ok (.iload 4, 2) := by decide +kernel
theorem dX6_narrow_5 : decode cX6_narrow 5 = .ok (.aload_n 1, 1) := by decide +kernel
theorem dX6_narrow_6 : decode cX6_narrow 6 = .ok (.getfield 77, 3) := by decide +kernel
theorem dX6_narrow_9 : decode cX6_narrow 9 = .ok (.if_icmp .ge 67, 3) := by decide +kernel
theorem dX6_narrow_12 : decode cX6_narrow 12 = .ok (.aload_n 1, 1) := by decide +kernel
theorem dX6_narrow_13 : decode cX6_narrow 13 = .ok (.getfield 146, 3) := by decide +kernel
theorem dX6_narrow_16 : decode cX6_narrow 16 = .ok (.iload 4, 2) := by decide +kernel
theorem dX6_narrow_18 : decode cX6_narrow 18 = .ok (.iaload, 1) := by decide +kernel
theorem dX6_narrow_19 : decode cX6_narrow 19 = .ok (.istore 5, 2) := by decide +kernel
theorem dX6_narrow_21 : decode cX6_narrow 21 = .ok (.aload_n 0, 1) := by decide +kernel
theorem dX6_narrow_22 : decode cX6_narrow 22 = .ok (.getfield 15, 3) := by decide +kernel
theorem dX6_narrow_25 : decode cX6_narrow 25 = .ok (.iload 4, 2) := by decide +kernel
theorem dX6_narrow_27 : decode cX6_narrow 27 = .ok (.baload, 1) := by decide +kernel
theorem dX6_narrow_28 : decode cX6_narrow 28 = .ok (.ifCond .eq 42, 3) := by decide +kernel
theorem dX6_narrow_31 : decode cX6_narrow 31 = .ok (.aload_n 2, 1) := by decide +kernel
theorem dX6_narrow_32 : decode cX6_narrow 32 = .ok (.aload_n 3, 1) := by decide +kernel
theorem dX6_narrow_33 : decode cX6_narrow 33 = .ok (.getfield 147, 3) := by decide +kernel
theorem dX6_narrow_36 : decode cX6_narrow 36 = .ok (.iload 5, 2) := by decide +kernel
theorem dX6_narrow_38 : decode cX6_narrow 38 = .ok (.baload, 1) := by decide +kernel
theorem dX6_narrow_39 : decode cX6_narrow 39 = .ok (.aload_n 3, 1) := by decide +kernel
theorem dX6_narrow_40 : decode cX6_narrow 40 = .ok (.getfield 150, 3) := by decide +kernel
theorem dX6_narrow_43 : decode cX6_narrow 43 = .ok (.iload 5, 2) := by decide +kernel
theorem dX6_narrow_45 : decode cX6_narrow 45 = .ok (.iaload, 1) := by decide +kernel
theorem dX6_narrow_46 : decode cX6_narrow 46 = .ok (.invokevirtual 153, 3) := by decide +kernel
theorem dX6_narrow_49 : decode cX6_narrow 49 = .ok (.ifCond .ne 21, 3) := by decide +kernel
theorem dX6_narrow_52 : decode cX6_narrow 52 = .ok (.aload_n 0, 1) := by decide +kernel
theorem dX6_narrow_53 : decode cX6_narrow 53 = .ok (.getfield 15, 3) := by decide +kernel
theorem dX6_narrow_56 : decode cX6_narrow 56 = .ok (.iload 4, 2) := by decide +kernel
theorem dX6_narrow_58 : decode cX6_narrow 58 = .ok (.iconst 0, 1) := by decide +kernel
theorem dX6_narrow_59 : decode cX6_narrow 59 = .ok (.bastore, 1) := by decide +kernel
theorem dX6_narrow_60 : decode cX6_narrow 60 = .ok (.aload_n 0, 1) := by decide +kernel
theorem dX6_narrow_61 : decode cX6_narrow 61 = .ok (.dup, 1) := by decide +kernel
theorem dX6_narrow_62 : decode cX6_narrow 62 = .ok (.getfield 90, 3) := by decide +kernel
theorem dX6_narrow_65 : decode cX6_narrow 65 = .ok (.iconst 1, 1) := by decide +kernel
theorem dX6_narrow_66 : decode cX6_narrow 66 = .ok (.isub, 1) := by decide +kernel
theorem dX6_narrow_67 : decode cX6_narrow 67 = .ok (.putfield 90, 3) := by decide +kernel
theorem dX6_narrow_70 : decode cX6_narrow 70 = .ok (.iinc 4 1, 3) := by decide +kernel
theorem dX6_narrow_73 : decode cX6_narrow 73 = .ok (.goto (-70), 3) := by decide +kernel
theorem dX6_narrow_76 : decode cX6_narrow 76 = .ok (.return_, 1) := by decide +kernel
theorem dX6_collect_0 : decode cX6_collect 0 = .ok (.iconst 0, 1) := by decide +kernel
theorem dX6_collect_1 : decode cX6_collect 1 = .ok (.istore 4, 2) := by decide +kernel
theorem dX6_collect_3 : decode cX6_collect 3 = .ok (.iload 4, 2) := by decide +kernel
theorem dX6_collect_5 : decode cX6_collect 5 = .ok (.aload_n 2, 1) := by decide +kernel
theorem dX6_collect_6 : decode cX6_collect 6 = .ok (.getfield 77, 3) := by decide +kernel
theorem dX6_collect_9 : decode cX6_collect 9 = .ok (.if_icmp .ge 73, 3) := by decide +kernel
theorem dX6_collect_12 : decode cX6_collect 12 = .ok (.aload_n 2, 1) := by decide +kernel
theorem dX6_collect_13 : decode cX6_collect 13 = .ok (.getfield 146, 3) := by decide +kernel
theorem dX6_collect_16 : decode cX6_collect 16 = .ok (.iload 4, 2) := by decide +kernel
theorem dX6_collect_18 : decode cX6_collect 18 = .ok (.iaload, 1) := by decide +kernel
theorem dX6_collect_19 : decode cX6_collect 19 = .ok (.istore 5, 2) := by decide +kernel
theorem dX6_collect_21 : decode cX6_collect 21 = .ok (.aload_n 1, 1) := by decide +kernel
theorem dX6_collect_22 : decode cX6_collect 22 = .ok (.getfield 157, 3) := by decide +kernel
theorem dX6_collect_25 : decode cX6_collect 25 = .ok (.iload 5, 2) := by decide +kernel
theorem dX6_collect_27 : decode cX6_collect 27 = .ok (.baload, 1) := by decide +kernel
theorem dX6_collect_28 : decode cX6_collect 28 = .ok (.ifCond .eq 48, 3) := by decide +kernel
theorem dX6_collect_31 : decode cX6_collect 31 = .ok (.iload_n 3, 1) := by decide +kernel
theorem dX6_collect_32 : decode cX6_collect 32 = .ok (.ifCond .ne 13, 3) := by decide +kernel
theorem dX6_collect_35 : decode cX6_collect 35 = .ok (.aload_n 0, 1) := by decide +kernel
theorem dX6_collect_36 : decode cX6_collect 36 = .ok (.getfield 19, 3) := by decide +kernel
theorem dX6_collect_39 : decode cX6_collect 39 = .ok (.iload 4, 2) := by decide +kernel
theorem dX6_collect_41 : decode cX6_collect 41 = .ok (.baload, 1) := by decide +kernel
theorem dX6_collect_42 : decode cX6_collect 42 = .ok (.ifCond .eq 34, 3) := by decide +kernel
theorem dX6_collect_45 : decode cX6_collect 45 = .ok (.aload_n 0, 1) := by decide +kernel
theorem dX6_collect_46 : decode cX6_collect 46 = .ok (.getfield 28, 3) := by decide +kernel
theorem dX6_collect_49 : decode cX6_collect 49 = .ok (.sipush 600, 3) := by decide +kernel
theorem dX6_collect_52 : decode cX6_collect 52 = .ok (.if_icmp .ge 24, 3) := by decide +kernel
theorem dX6_collect_55 : decode cX6_collect 55 = .ok (.aload_n 0, 1) := by decide +kernel
theorem dX6_collect_56 : decode cX6_collect 56 = .ok (.getfield 9, 3) := by decide +kernel
theorem dX6_collect_59 : decode cX6_collect 59 = .ok (.aload_n 0, 1) := by decide +kernel
theorem dX6_collect_60 : decode cX6_collect 60 = .ok (.getfield 28, 3) := by decide +kernel
theorem dX6_collect_63 : decode cX6_collect 63 = .ok (.iload 5, 2) := by decide +kernel
theorem dX6_collect_65 : decode cX6_collect 65 = .ok (.iastore, 1) := by decide +kernel
theorem dX6_collect_66 : decode cX6_collect 66 = .ok (.aload_n 0, 1) := by decide +kernel
theorem dX6_collect_67 : decode cX6_collect 67 = .ok (.dup, 1) := by decide +kernel
theorem dX6_collect_68 : decode cX6_collect 68 = .ok (.getfield 28, 3) := by decide +kernel
theorem dX6_collect_71 : decode cX6_collect 71 = .ok (.iconst 1, 1) := by decide +kernel
theorem dX6_collect_72 : decode cX6_collect 72 = .ok (.iadd, 1) := by decide +kernel
theorem dX6_collect_73 : decode cX6_collect 73 = .ok (.putfield 28, 3) := by decide +kernel
theorem dX6_collect_76 : decode cX6_collect 76 = .ok (.iinc 4 1, 3) := by decide +kernel
theorem dX6_collect_79 : decode cX6_collect 79 = .ok (.goto (-76), 3) := by decide +kernel
theorem dX6_collect_82 : decode cX6_collect 82 = .ok (.return_, 1) := by decide +kernel
theorem dX7_init_0 : decode cX7_init 0 = .ok (.aload_n 0, 1) := by decide +kernel
theorem dX7_init_1 : decode cX7_init 1 = .ok (.invokespecial 3, 3) := by decide +kernel
theorem dX7_init_4 : decode cX7_init 4 = .ok (.aload_n 0, 1) := by decide +kernel
theorem dX7_init_5 : decode cX7_init 5 = .ok (.sipush 600, 3) := by decide +kernel
theorem dX7_init_8 : decode cX7_init 8 = .ok (.newarray .long, 2) := by decide +kernel
theorem dX7_init_10 : decode cX7_init 10 = .ok (.putfield 9, 3) := by decide +kernel
theorem dX7_init_13 : decode cX7_init 13 = .ok (.aload_n 0, 1) := by decide +kernel
theorem dX7_init_14 : decode cX7_init 14 = .ok (.sipush 600, 3) := by decide +kernel
theorem dX7_init_17 : decode cX7_init 17 = .ok (.newarray .int, 2) := by decide +kernel
theorem dX7_init_19 : decode cX7_init 19 = .ok (.putfield 15, 3) := by decide +kernel
theorem dX7_init_22 : decode cX7_init 22 = .ok (.return_, 1) := by decide +kernel
theorem dX7_arrange_0 : decode cX7_arrange 0 = .ok (.iconst 0, 1) := by decide +kernel
theorem dX7_arrange_1 : decode cX7_arrange 1 = .ok (.istore 6, 2) := by decide +kernel
theorem dX7_arrange_3 : decode cX7_arrange 3 = .ok (.iload 6, 2) := by decide +kernel
theorem dX7_arrange_5 : decode cX7_arrange 5 = .ok (.iload_n 2, 1) := by decide +kernel
theorem dX7_arrange_6 : decode cX7_arrange 6 = .ok (.if_icmp .ge 72, 3) := by decide +kernel
theorem dX7_arrange_9 : decode cX7_arrange 9 = .ok (.aload_n 1, 1) := by decide +kernel
theorem dX7_arrange_10 : decode cX7_arrange 10 = .ok (.iload 6, 2) := by decide +kernel
theorem dX7_arrange_12 : decode cX7_arrange 12 = .ok (.iaload, 1) := by decide +kernel
theorem dX7_arrange_13 : decode cX7_arrange 13 = .ok (.istore 7, 2) := by decide +kernel
theorem dX7_arrange_15 : decode cX7_arrange 15 = .ok (.aload_n 3, 1) := by decide +kernel
theorem dX7_arrange_16 : decode cX7_arrange 16 = .ok (.getfield 19, 3) := by decide +kernel
theorem dX7_arrange_19 : decode cX7_arrange 19 = .ok (.iload 7, 2) := by decide +kernel
theorem dX7_arrange_21 : decode cX7_arrange 21 = .ok (.iaload, 1) := by decide +kernel
theorem dX7_arrange_22 : decode cX7_arrange 22 = .ok (.i2l, 1) := by decide +kernel
theorem dX7_arrange_23 : decode cX7_arrange 23 = .ok (.lstore 8, 2) := by decide +kernel
theorem dX7_arrange_25 : decode cX7_arrange 25 = .ok (.aload_n 0, 1) := by decide +kernel
theorem dX7_arrange_26 : decode cX7_arrange 26 = .ok (.getfield 9, 3) := by decide +kernel
theorem dX7_arrange_29 : decode cX7_arrange 29 = .ok (.iload 7, 2) := by decide +kernel
theorem dX7_arrange_31 : decode cX7_arrange 31 = .ok (.aload_n 3, 1) := by decide +kernel
theorem dX7_arrange_32 : decode cX7_arrange 32 = .ok (.getfield 24, 3) := by decide +kernel
theorem dX7_arrange_35 : decode cX7_arrange 35 = .ok (.iload 7, 2) := by decide +kernel
theorem dX7_arrange_37 : decode cX7_arrange 37 = .ok (.baload, 1) := by decide +kernel
theorem dX7_arrange_38 : decode cX7_arrange 38 = .ok (.ifCond .eq 20, 3) := by decide +kernel
theorem dX7_arrange_41 : decode cX7_arrange 41 = .ok (.iload 5, 2) := by decide +kernel
theorem dX7_arrange_43 : decode cX7_arrange 43 = .ok (.ifCond .eq 9, 3) := by decide +kernel
theorem dX7_arrange_46 : decode cX7_arrange 46 = .ok (.ldc2_w 28, 3) := by decide +kernel
theorem dX7_arrange_49 : decode cX7_arrange 49 = .ok (.goto 22, 3) := by decide +kernel
theorem dX7_arrange_52 : decode cX7_arrange 52 = .ok (.ldc2_w 30, 3) := by decide +kernel
theorem dX7_arrange_55 : decode cX7_arrange 55 = .ok (.goto 16, 3) := by decide +kernel
theorem dX7_arrange_58 : decode cX7_arrange 58 = .ok (.iload 4, 2) := by decide +kernel
theorem dX7_arrange_60 : decode cX7_arrange 60 = .ok (.ifCond .eq 9, 3) := by decide +kernel
theorem dX7_arrange_63 : decode cX7_arrange 63 = .ok (.lload 8, 2) := by decide +kernel
theorem dX7_arrange_65 : decode cX7_arrange 65 = .ok (.lneg, 1) := by decide +kernel
theorem dX7_arrange_66 : decode cX7_arrange 66 = .ok (.goto 5, 3) := by decide +kernel
theorem dX7_arrange_69 : decode cX7_arrange 69 = .ok (.lload 8, 2) := by decide +kernel
theorem dX7_arrange_71 : decode cX7_arrange 71 = .ok (.lastore, 1) := by decide +kernel
theorem dX7_arrange_72 : decode cX7_arrange 72 = .ok (.iinc 6 1, 3) := by decide +kernel
theorem dX7_arrange_75 : decode cX7_arrange 75 = .ok (.goto (-72), 3) := by decide +kernel
theorem dX7_arrange_78 : decode cX7_arrange 78 = .ok (.iconst 1, 1) := by decide +kernel
theorem dX7_arrange_79 : decode cX7_arrange 79 = .ok (.istore 6, 2) := by decide +kernel
theorem dX7_arrange_81 : decode cX7_arrange 81 = .ok (.iload 6, 2) := by decide +kernel
theorem dX7_arrange_83 : decode cX7_arrange 83 = .ok (.iload_n 2, 1) := by decide +kernel
theorem dX7_arrange_84 : decode cX7_arrange 84 = .ok (.if_icmp .ge 73, 3) := by decide +kernel
theorem dX7_arrange_87 : decode cX7_arrange 87 = .ok (.iconst 0, 1) := by decide +kernel
theorem dX7_arrange_88 : decode cX7_arrange 88 = .ok (.istore 7, 2) := by decide +kernel
theorem dX7_arrange_90 : decode cX7_arrange 90 = .ok (.iload 7, 2) := by decide +kernel
theorem dX7_arrange_92 : decode cX7_arrange 92 = .ok (.iload_n 2, 1) := by decide +kernel
theorem dX7_arrange_93 : decode cX7_arrange 93 = .ok (.if_icmp .ge 44, 3) := by decide +kernel
theorem dX7_arrange_96 : decode cX7_arrange 96 = .ok (.iload 7, 2) := by decide +kernel
theorem dX7_arrange_98 : decode cX7_arrange 98 = .ok (.iload 6, 2) := by decide +kernel
theorem dX7_arrange_100 : decode cX7_arrange 100 = .ok (.iadd, 1) := by decide +kernel
theorem dX7_arrange_101 : decode cX7_arrange 101 = .ok (.iload_n 2, 1) := by decide +kernel
theorem dX7_arrange_102 : decode cX7_arrange 102 = .ok (.invokestatic 32, 3) := by decide +kernel
theorem dX7_arrange_105 : decode cX7_arrange 105 = .ok (.istore 8, 2) := by decide +kernel
theorem dX7_arrange_107 : decode cX7_arrange 107 = .ok (.aload_n 0, 1) := by decide +kernel
theorem dX7_arrange_108 : decode cX7_arrange 108 = .ok (.aload_n 1, 1) := by decide +kernel
theorem dX7_arrange_109 : decode cX7_arrange 109 = .ok (.iload 7, 2) := by decide +kernel
theorem dX7_arrange_111 : decode cX7_arrange 111 = .ok (.iload 8, 2) := by decide +kernel
theorem dX7_arrange_113 : decode cX7_arrange 113 = .ok (.iload 8, 2) := by decide +kernel
theorem dX7_arrange_115 : decode cX7_arrange 115 = .ok (.iload 6, 2) := by decide +kernel
theorem dX7_arrange_117 : decode cX7_arrange 117 = .ok (.iadd, 1) := by decide +kernel
theorem dX7_arrange_118 : decode cX7_arrange 118 = .ok (.iload_n 2, 1) := by decide +kernel
theorem dX7_arrange_119 : decode cX7_arrange 119 = .ok (.invokestatic 32, 3) := by decide +kernel
theorem dX7_arrange_122 : decode cX7_arrange 122 = .ok (.invokevirtual 38, 3) := by decide +kernel
theorem dX7_arrange_125 : decode cX7_arrange 125 = .ok (.iload 7, 2) := by decide +kernel
theorem dX7_arrange_127 : decode cX7_arrange 127 = .ok (.iconst 2, 1) := by decide +kernel
theorem dX7_arrange_128 : decode cX7_arrange 128 = .ok (.iload 6, 2) := by decide +kernel
theorem dX7_arrange_130 : decode cX7_arrange 130 = .ok (.imul, 1) := by decide +kernel
theorem dX7_arrange_131 : decode cX7_arrange 131 = .ok (.iadd, 1) := by decide +kernel
theorem dX7_arrange_132 : decode cX7_arrange 132 = .ok (.istore 7, 2) := by decide +kernel
theorem dX7_arrange_134 : decode cX7_arrange 134 = .ok (.goto (-44), 3) := by decide +kernel
theorem dX7_arrange_137 : decode cX7_arrange 137 = .ok (.aload_n 0, 1) := by decide +kernel
theorem dX7_arrange_138 : decode cX7_arrange 138 = .ok (.getfield 15, 3) := by decide +kernel
theorem dX7_arrange_141 : decode cX7_arrange 141 = .ok (.iconst 0, 1) := by decide +kernel
theorem dX7_arrange_142 : decode cX7_arrange 142 = .ok (.aload_n 1, 1) := by decide +kernel
theorem dX7_arrange_143 : decode cX7_arrange 143 = .ok (.iconst 0, 1) := by decide +kernel
theorem dX7_arrange_144 : decode cX7_arrange 144 = .ok (.iload_n 2, 1) := by decide +kernel
theorem dX7_arrange_145 : decode cX7_arrange 145 = .ok (.invokestatic 42, 3) := by decide +kernel
theorem dX7_arrange_148 : decode cX7_arrange 148 = .ok (.iload 6, 2) := by decide +kernel
theorem dX7_arrange_150 : decode cX7_arrange 150 = .ok (.iconst 2, 1) := by decide +kernel
theorem dX7_arrange_151 : decode cX7_arrange 151 = .ok (.imul, 1) := by decide +kernel
theorem dX7_arrange_152 : decode cX7_arrange 152 = .ok (.istore 6, 2) := by decide +kernel
theorem dX7_arrange_154 : decode cX7_arrange 154 = .ok (.goto (-73), 3) := by decide +kernel
theorem dX7_arrange_157 : decode cX7_arrange 157 = .ok (.return_, 1) := by decide +kernel
theorem dX7_join_0 : decode cX7_join 0 = .ok (.iload_n 2, 1) := by decide +kernel
theorem dX7_join_1 : decode cX7_join 1 = .ok (.istore 5, 2) := by decide +kernel
theorem dX7_join_3 : decode cX7_join 3 = .ok (.iload_n 3, 1) := by decide +kernel
theorem dX7_join_4 : decode cX7_join 4 = .ok (.istore 6, 2) := by decide +kernel
theorem dX7_join_6 : decode cX7_join 6 = .ok (.iload_n 2, 1) := by decide +kernel
theorem dX7_join_7 : decode cX7_join 7 = .ok (.istore 7, 2) := by decide +kernel
theorem dX7_join_9 : decode cX7_join 9 = .ok (.iload 7, 2) := by decide +kernel
theorem dX7_join_11 : decode cX7_join 11 = .ok (.iload 4, 2) := by decide +kernel
theorem dX7_join_13 : decode cX7_join 13 = .ok (.if_icmp .ge 80, 3) := by decide +kernel
theorem dX7_join_16 : decode cX7_join 16 = .ok (.iload 6, 2) := by decide +kernel
theorem dX7_join_18 : decode cX7_join 18 = .ok (.iload 4, 2) := by decide +kernel
theorem dX7_join_20 : decode cX7_join 20 = .ok (.if_icmp .ge 31, 3) := by decide +kernel
theorem dX7_join_23 : decode cX7_join 23 = .ok (.iload 5, 2) := by decide +kernel
theorem dX7_join_25 : decode cX7_join 25 = .ok (.iload_n 3, 1) := by decide +kernel
theorem dX7_join_26 : decode cX7_join 26 = .ok (.if_icmp .ge 29, 3) := by decide +kernel
theorem dX7_join_29 : decode cX7_join 29 = .ok (.aload_n 0, 1) := by decide +kernel
theorem dX7_join_30 : decode cX7_join 30 = .ok (.getfield 9, 3) := by decide +kernel
theorem dX7_join_33 : decode cX7_join 33 = .ok (.aload_n 1, 1) := by decide +kernel
theorem dX7_join_34 : decode cX7_join 34 = .ok (.iload 5, 2) := by decide +kernel
theorem dX7_join_36 : decode cX7_join 36 = .ok (.iaload, 1) := by decide +kernel
theorem dX7_join_37 : decode cX7_join 37 = .ok (.laload, 1) := by decide +kernel
theorem dX7_join_38 : decode cX7_join 38 = .ok (.aload_n 0, 1) := by decide +kernel
theorem dX7_join_39 : decode cX7_join 39 = .ok (.getfield 9, 3) := by decide +kernel
theorem dX7_join_42 : decode cX7_join 42 = .ok (.aload_n 1, 1) := by decide +kernel
theorem dX7_join_43 : decode cX7_join 43 = .ok (.iload 6, 2) := by decide +kernel
theorem dX7_join_45 : decode cX7_join 45 = .ok (.iaload, 1) := by decide +kernel
theorem dX7_join_46 : decode cX7_join 46 = .ok (.laload, 1) := by decide +kernel
theorem dX7_join_47 : decode cX7_join 47 = .ok (.lcmp, 1) := by decide +kernel
theorem dX7_join_48 : decode cX7_join 48 = .ok (.ifCond .gt 7, 3) := by decide +kernel
theorem dX7_join_51 : decode cX7_join 51 = .ok (.iconst 1, 1) := by decide +kernel
theorem dX7_join_52 : decode cX7_join 52 = .ok (.goto 4, 3) := by decide +kernel
theorem dX7_join_55 : decode cX7_join 55 = .ok (.iconst 0, 1) := by decide +kernel
theorem dX7_join_56 : decode cX7_join 56 = .ok (.istore 8, 2) := by decide +kernel
theorem dX7_join_58 : decode cX7_join 58 = .ok (.aload_n 0, 1) := by decide +kernel
theorem dX7_join_59 : decode cX7_join 59 = .ok (.getfield 15, 3) := by decide +kernel
theorem dX7_join_62 : decode cX7_join 62 = .ok (.iload 7, 2) := by decide +kernel
theorem dX7_join_64 : decode cX7_join 64 = .ok (.iload 8, 2) := by decide +kernel
theorem dX7_join_66 : decode cX7_join 66 = .ok (.ifCond .eq 13, 3) := by decide +kernel
theorem dX7_join_69 : decode cX7_join 69 = .ok (.aload_n 1, 1) := by decide +kernel
theorem dX7_join_70 : decode cX7_join 70 = .ok (.iload 5, 2) := by decide +kernel
theorem dX7_join_72 : decode cX7_join 72 = .ok (.iinc 5 1, 3) := by decide +kernel
theorem dX7_join_75 : decode cX7_join 75 = .ok (.iaload, 1) := by decide +kernel
theorem dX7_join_76 : decode cX7_join 76 = .ok (.goto 10, 3) := by decide +kernel
theorem dX7_join_79 : decode cX7_join 79 = .ok (.aload_n 1, 1) := by decide +kernel
theorem dX7_join_80 : decode cX7_join 80 = .ok (.iload 6, 2) := by decide +kernel
theorem dX7_join_82 : decode cX7_join 82 = .ok (.iinc 6 1, 3) := by decide +kernel
theorem dX7_join_85 : decode cX7_join 85 = .ok (.iaload, 1) := by decide +kernel
theorem dX7_join_86 : decode cX7_join 86 = .ok (.iastore, 1) := by decide +kernel
theorem dX7_join_87 : decode cX7_join 87 = .ok (.iinc 7 1, 3) := by decide +kernel
theorem dX7_join_90 : decode cX7_join 90 = .ok (.goto (-81), 3) := by decide +kernel
theorem dX7_join_93 : decode cX7_join 93 = .ok (.return_, 1) := by decide +kernel
theorem dX8_init_0 : decode cX8_init 0 = .ok (.aload_n 0, 1) := by decide +kernel
theorem dX8_init_1 : decode cX8_init 1 = .ok (.invokespecial 3, 3) := by decide +kernel
theorem dX8_init_4 : decode cX8_init 4 = .ok (.aload_n 0, 1) := by decide +kernel
theorem dX8_init_5 : decode cX8_init 5 = .ok (.new 9, 3) := by decide +kernel
theorem dX8_init_8 : decode cX8_init 8 = .ok (.dup, 1) := by decide +kernel
theorem dX8_init_9 : decode cX8_init 9 = .ok (.invokespecial 11, 3) := by decide +kernel
theorem dX8_init_12 : decode cX8_init 12 = .ok (.putfield 12, 3) := by decide +kernel
theorem dX8_init_15 : decode cX8_init 15 = .ok (.aload_n 0, 1) := by decide +kernel
theorem dX8_init_16 : decode cX8_init 16 = .ok (.new 9, 3) := by decide +kernel
theorem dX8_init_19 : decode cX8_init 19 = .ok (.dup, 1) := by decide +kernel
theorem dX8_init_20 : decode cX8_init 20 = .ok (.invokespecial 11, 3) := by decide +kernel
theorem dX8_init_23 : decode cX8_init 23 = .ok (.putfield 18, 3) := by decide +kernel
theorem dX8_init_26 : decode cX8_init 26 = .ok (.aload_n 0, 1) := by decide +kernel
theorem dX8_init_27 : decode cX8_init 27 = .ok (.sipush 600, 3) := by decide +kernel
theorem dX8_init_30 : decode cX8_init 30 = .ok (.newarray .boolean, 2) := by decide +kernel
theorem dX8_init_32 : decode cX8_init 32 = .ok (.putfield 21, 3) := by decide +kernel
theorem dX8_init_35 : decode cX8_init 35 = .ok (.aload_n 0, 1) := by decide +kernel
theorem dX8_init_36 : decode cX8_init 36 = .ok (.sipush 600, 3) := by decide +kernel
theorem dX8_init_39 : decode cX8_init 39 = .ok (.newarray .int, 2) := by decide +kernel
theorem dX8_init_41 : decode cX8_init 41 = .ok (.putfield 25, 3) := by decide +kernel
theorem dX8_init_44 : decode cX8_init 44 = .ok (.aload_n 0, 1) := by decide +kernel
theorem dX8_init_45 : decode cX8_init 45 = .ok (.new 29, 3) := by decide +kernel
theorem dX8_init_48 : decode cX8_init 48 = .ok (.dup, 1) := by decide +kernel
theorem dX8_init_49 : decode cX8_init 49 = .ok (.invokespecial 31, 3) := by decide +kernel
theorem dX8_init_52 : decode cX8_init 52 = .ok (.putfield 32, 3) := by decide +kernel
theorem dX8_init_55 : decode cX8_init 55 = .ok (.aload_n 0, 1) := by decide +kernel
theorem dX8_init_56 : decode cX8_init 56 = .ok (.new 36, 3) := by decide +kernel
theorem dX8_init_59 : decode cX8_init 59 = .ok (.dup, 1) := by decide +kernel
theorem dX8_init_60 : decode cX8_init 60 = .ok (.invokespecial 38, 3) := by decide +kernel
theorem dX8_init_63 : decode cX8_init 63 = .ok (.putfield 39, 3) := by decide +kernel
theorem dX8_init_66 : decode cX8_init 66 = .ok (.aload_n 0, 1) := by decide +kernel
theorem dX8_init_67 : decode cX8_init 67 = .ok (.bipush 32, 2) := by decide +kernel
theorem dX8_init_69 : decode cX8_init 69 = .ok (.putfield 43, 3) := by decide +kernel
theorem dX8_init_72 : decode cX8_init 72 = .ok (.aload_n 0, 1) := by decide +kernel
theorem dX8_init_73 : decode cX8_init 73 = .ok (.new 36, 3) := by decide +kernel
theorem dX8_init_76 : decode cX8_init 76 = .ok (.dup, 1) := by decide +kernel
theorem dX8_init_77 : decode cX8_init 77 = .ok (.invokespecial 38, 3) := by decide +kernel
theorem dX8_init_80 : decode cX8_init 80 = .ok (.putfield 47, 3) := by decide +kernel
theorem dX8_init_83 : decode cX8_init 83 = .ok (.aload_n 0, 1) := by decide +kernel
theorem dX8_init_84 : decode cX8_init 84 = .ok (.bipush 64, 2) := by decide +kernel
theorem dX8_init_86 : decode cX8_init 86 = .ok (.newarray .int, 2) := by decide +kernel
theorem dX8_init_88 : decode cX8_init 88 = .ok (.putfield 50, 3) := by decide +kernel
theorem dX8_init_91 : decode cX8_init 91 = .ok (.return_, 1) := by decide +kernel
theorem dX8_givenColumns_0 : decode cX8_givenColumns 0 = .ok (.iconst 0, 1) := by decide +kernel
theorem dX8_givenColumns_1 : decode cX8_givenColumns 1 = .ok (.istore_n 1, 1) := by decide +kernel
theorem dX8_givenColumns_2 : decode cX8_givenColumns 2 = .ok (.iconst 0, 1) := by decide +kernel
theorem dX8_givenColumns_3 : decode cX8_givenColumns 3 = .ok (.istore_n 2, 1) := by decide +kernel
theorem dX8_givenColumns_4 : decode cX8_givenColumns 4 = .ok (.iload_n 2, 1) := by decide +kernel
theorem dX8_givenColumns_5 : decode cX8_givenColumns 5 = .ok (.aload_n 0, 1) := by decide +kernel
theorem dX8_givenColumns_6 : decode cX8_givenColumns 6 = .ok (.getfield 12, 3) := by decide +kernel
theorem dX8_givenColumns_9 : decode cX8_givenColumns 9 = .ok (.invokevirtual 53, 3) := by decide +kernel
theorem dX8_givenColumns_12 : decode cX8_givenColumns 12 = .ok (.if_icmp .ge 29, 3) := by decide +kernel
theorem dX8_givenColumns_15 : decode cX8_givenColumns 15 = .ok (.aload_n 0, 1) := by decide +kernel
theorem dX8_givenColumns_16 : decode cX8_givenColumns 16 = .ok (.getfield 12, 3) := by decide +kernel
theorem dX8_givenColumns_19 : decode cX8_givenColumns 19 = .ok (.iload_n 2, 1) := by decide +kernel
theorem dX8_givenColumns_20 : decode cX8_givenColumns 20 = .ok (.invokevirtual 56, 3) := by decide +kernel
theorem dX8_givenColumns_23 : decode cX8_givenColumns 23 = .ok (.checkcast 60, 3) := by decide +kernel
theorem dX8_givenColumns_26 : decode cX8_givenColumns 26 = .ok (.getfield 62, 3) := by decide +kernel
theorem dX8_givenColumns_29 : decode cX8_givenColumns 29 = .ok (.ifCond .eq 6, 3) := by decide +kernel
theorem dX8_givenColumns_32 : decode cX8_givenColumns 32 = .ok (.iinc 1 1, 3) := by decide +kernel
theorem dX8_givenColumns_35 : decode cX8_givenColumns 35 = .ok (.iinc 2 1, 3) := by decide +kernel
theorem dX8_givenColumns_38 : decode cX8_givenColumns 38 = .ok (.goto (-34), 3) := by decide +kernel
theorem dX8_givenColumns_41 : decode cX8_givenColumns 41 = .ok (.iload_n 1, 1) := by decide +kernel
theorem dX8_givenColumns_42 : decode cX8_givenColumns 42 = .ok (.ireturn, 1) := by decide +kernel
theorem dX8_appendGiven_0 : decode cX8_appendGiven 0 = .ok (.iconst 0, 1) := by decide +kernel
theorem dX8_appendGiven_1 : decode cX8_appendGiven 1 = .ok (.istore_n 1, 1) := by decide +kernel
theorem dX8_appendGiven_2 : decode cX8_appendGiven 2 = .ok (.iload_n 1, 1) := by decide +kernel
theorem dX8_appendGiven_3 : decode cX8_appendGiven 3 = .ok (.aload_n 0, 1) := by decide +kernel
theorem dX8_appendGiven_4 : decode cX8_appendGiven 4 = .ok (.getfield 12, 3) := by decide +kernel
theorem dX8_appendGiven_7 : decode cX8_appendGiven 7 = .ok (.invokevirtual 53, 3) := by decide +kernel
theorem dX8_appendGiven_10 : decode cX8_appendGiven 10 = .ok (.if_icmp .ge 27, 3) := by decide +kernel
theorem dX8_appendGiven_13 : decode cX8_appendGiven 13 = .ok (.aload_n 0, 1) := by decide +kernel
theorem dX8_appendGiven_14 : decode cX8_appendGiven 14 = .ok (.getfield 12, 3) := by decide +kernel
theorem dX8_appendGiven_17 : decode cX8_appendGiven 17 = .ok (.iload_n 1, 1) := by decide +kernel
theorem dX8_appendGiven_18 : decode cX8_appendGiven 18 = .ok (.invokevirtual 56, 3) := by decide +kernel
theorem dX8_appendGiven_21 : decode cX8_appendGiven 21 = .ok (.checkcast 60, 3) := by decide +kernel
theorem dX8_appendGiven_24 : decode cX8_appendGiven 24 = .ok (.aload_n 0, 1) := by decide +kernel
theorem dX8_appendGiven_25 : decode cX8_appendGiven 25 = .ok (.getfield 66, 3) := by decide +kernel
theorem dX8_appendGiven_28 : decode cX8_appendGiven 28 = .ok (.invokevirtual 69, 3) := by decide +kernel
theorem dX8_appendGiven_31 : decode cX8_appendGiven 31 = .ok (.iinc 1 1, 3) := by decide +kernel
theorem dX8_appendGiven_34 : decode cX8_appendGiven 34 = .ok (.goto (-32), 3) := by decide +kernel
theorem dX8_appendGiven_37 : decode cX8_appendGiven 37 = .ok (.aload_n 0, 1) := by decide +kernel
theorem dX8_appendGiven_38 : decode cX8_appendGiven 38 = .ok (.invokevirtual 73, 3) := by decide +kernel
theorem dX8_appendGiven_41 : decode cX8_appendGiven 41 = .ok (.ireturn, 1) := by decide +kernel
theorem dX8_appendChanged_0 : decode cX8_appendChanged 0 = .ok (.aload_n 0, 1) := by decide +kernel
theorem dX8_appendChanged_1 : decode cX8_appendChanged 1 = .ok (.iload_n 1, 1) := by decide +kernel
theorem dX8_appendChanged_2 : decode cX8_appendChanged 2 = .ok (.invokevirtual 76, 3) := by decide +kernel
theorem dX8_appendChanged_5 : decode cX8_appendChanged 5 = .ok (.pop, 1) := by decide +kernel
theorem dX8_appendChanged_6 : decode cX8_appendChanged 6 = .ok (.iconst 0, 1) := by decide +kernel
theorem dX8_appendChanged_7 : decode cX8_appendChanged 7 = .ok (.istore 4, 2) := by decide +kernel
theorem dX8_appendChanged_9 : decode cX8_appendChanged 9 = .ok (.iload 4, 2) := by decide +kernel
theorem dX8_appendChanged_11 : decode cX8_appendChanged 11 = .ok (.aload_n 0, 1) := by decide +kernel
theorem dX8_appendChanged_12 : decode cX8_appendChanged 12 = .ok (.getfield 12, 3) := by decide +kernel
theorem dX8_appendChanged_15 : decode cX8_appendChanged 15 = .ok (.invokevirtual 53, 3) := by decide +kernel
theorem dX8_appendChanged_18 : decode cX8_appendChanged 18 = .ok (.if_icmp .ge 29, 3) := by decide +kernel
theorem dX8_appendChanged_21 : decode cX8_appendChanged 21 = .ok (.aload_n 0, 1) := by decide +kernel
theorem dX8_appendChanged_22 : decode cX8_appendChanged 22 = .ok (.getfield 12, 3) := by decide +kernel
theorem dX8_appendChanged_25 : decode cX8_appendChanged 25 = .ok (.iload 4, 2) := by decide +kernel
theorem dX8_appendChanged_27 : decode cX8_appendChanged 27 = .ok (.invokevirtual 56, 3) := by decide +kernel
theorem dX8_appendChanged_30 : decode cX8_appendChanged 30 = .ok (.checkcast 60, 3) := by decide +kernel
theorem dX8_appendChanged_33 : decode cX8_appendChanged 33 = .ok (.iload_n 1, 1) := by decide +kernel
theorem dX8_appendChanged_34 : decode cX8_appendChanged 34 = .ok (.aload_n 0, 1) := by decide +kernel
theorem dX8_appendChanged_35 : decode cX8_appendChanged 35 = .ok (.getfield 66, 3) := by decide +kernel
theorem dX8_appendChanged_38 : decode cX8_appendChanged 38 = .ok (.invokevirtual 80, 3) := by decide +kernel
theorem dX8_appendChanged_41 : decode cX8_appendChanged 41 = .ok (.iinc 4 1, 3) := by decide +kernel
theorem dX8_appendChanged_44 : decode cX8_appendChanged 44 = .ok (.goto (-35), 3) := by decide +kernel
theorem dX8_appendChanged_47 : decode cX8_appendChanged 47 = .ok (.aload_n 0, 1) := by decide +kernel
theorem dX8_appendChanged_48 : decode cX8_appendChanged 48 = .ok (.getfield 12, 3) := by decide +kernel
theorem dX8_appendChanged_51 : decode cX8_appendChanged 51 = .ok (.iload_n 2, 1) := by decide +kernel
theorem dX8_appendChanged_52 : decode cX8_appendChanged 52 = .ok (.invokevirtual 56, 3) := by decide +kernel
theorem dX8_appendChanged_55 : decode cX8_appendChanged 55 = .ok (.checkcast 60, 3) := by decide +kernel
theorem dX8_appendChanged_58 : decode cX8_appendChanged 58 = .ok (.aload_n 0, 1) := by decide +kernel
theorem dX8_appendChanged_59 : decode cX8_appendChanged 59 = .ok (.getfield 66, 3) := by decide +kernel
theorem dX8_appendChanged_62 : decode cX8_appendChanged 62 = .ok (.iload_n 3, 1) := by decide +kernel
theorem dX8_appendChanged_63 : decode cX8_appendChanged 63 = .ok (.invokevirtual 84, 3) := by decide +kernel
theorem dX8_appendChanged_66 : decode cX8_appendChanged 66 = .ok (.aload_n 0, 1) := by decide +kernel
theorem dX8_appendChanged_67 : decode cX8_appendChanged 67 = .ok (.invokevirtual 73, 3) := by decide +kernel
theorem dX8_appendChanged_70 : decode cX8_appendChanged 70 = .ok (.ireturn, 1) := by decide +kernel
theorem dX8_appendFilled_0 : decode cX8_appendFilled 0 = .ok (.aload_n 0, 1) := by decide +kernel
theorem dX8_appendFilled_1 : decode cX8_appendFilled 1 = .ok (.getfield 66, 3) := by decide +kernel
theorem dX8_appendFilled_4 : decode cX8_appendFilled 4 = .ok (.istore_n 1, 1) := by decide +kernel
theorem dX8_appendFilled_5 : decode cX8_appendFilled 5 = .ok (.aload_n 0, 1) := by decide +kernel
theorem dX8_appendFilled_6 : decode cX8_appendFilled 6 = .ok (.getfield 21, 3) := by decide +kernel
theorem dX8_appendFilled_9 : decode cX8_appendFilled 9 = .ok (.iload_n 1, 1) := by decide +kernel
theorem dX8_appendFilled_10 : decode cX8_appendFilled 10 = .ok (.iconst 1, 1) := by decide +kernel
theorem dX8_appendFilled_11 : decode cX8_appendFilled 11 = .ok (.bastore, 1) := by decide +kernel
theorem dX8_appendFilled_12 : decode cX8_appendFilled 12 = .ok (.aload_n 0, 1) := by decide +kernel
theorem dX8_appendFilled_13 : decode cX8_appendFilled 13 = .ok (.getfield 25, 3) := by decide +kernel
theorem dX8_appendFilled_16 : decode cX8_appendFilled 16 = .ok (.iload_n 1, 1) := by decide +kernel
theorem dX8_appendFilled_17 : decode cX8_appendFilled 17 = .ok (.iconst (-1), 1) := by decide +kernel
theorem dX8_appendFilled_18 : decode cX8_appendFilled 18 = .ok (.iastore, 1) := by decide +kernel
theorem dX8_appendFilled_19 : decode cX8_appendFilled 19 = .ok (.aload_n 0, 1) := by decide +kernel
theorem dX8_appendFilled_20 : decode cX8_appendFilled 20 = .ok (.getfield 39, 3) := by decide +kernel
theorem dX8_appendFilled_23 : decode cX8_appendFilled 23 = .ok (.iload_n 1, 1) := by decide +kernel
theorem dX8_appendFilled_24 : decode cX8_appendFilled 24 = .ok (.invokevirtual 87, 3) := by decide +kernel
theorem dX8_appendFilled_27 : decode cX8_appendFilled 27 = .ok (.aload_n 0, 1) := by decide +kernel
theorem dX8_appendFilled_28 : decode cX8_appendFilled 28 = .ok (.dup, 1) := by decide +kernel
theorem dX8_appendFilled_29 : decode cX8_appendFilled 29 = .ok (.getfield 66, 3) := by decide +kernel
theorem dX8_appendFilled_32 : decode cX8_appendFilled 32 = .ok (.iconst 1, 1) := by decide +kernel
theorem dX8_appendFilled_33 : decode cX8_appendFilled 33 = .ok (.iadd, 1) := by decide +kernel
theorem dX8_appendFilled_34 : decode cX8_appendFilled 34 = .ok (.putfield 66, 3) := by decide +kernel
theorem dX8_appendFilled_37 : decode cX8_appendFilled 37 = .ok (.aload_n 0, 1) := by decide +kernel
theorem dX8_appendFilled_38 : decode cX8_appendFilled 38 = .ok (.dup, 1) := by decide +kernel
theorem dX8_appendFilled_39 : decode cX8_appendFilled 39 = .ok (.getfield 90, 3) := by decide +kernel
theorem dX8_appendFilled_42 : decode cX8_appendFilled 42 = .ok (.iconst 1, 1) := by decide +kernel
theorem dX8_appendFilled_43 : decode cX8_appendFilled 43 = .ok (.iadd, 1) := by decide +kernel
theorem dX8_appendFilled_44 : decode cX8_appendFilled 44 = .ok (.putfield 90, 3) := by decide +kernel
theorem dX8_appendFilled_47 : decode cX8_appendFilled 47 = .ok (.iload_n 1, 1) := by decide +kernel
theorem dX8_appendFilled_48 : decode cX8_appendFilled 48 = .ok (.ireturn, 1) := by decide +kernel
theorem dX8_kill_0 : decode cX8_kill 0 = .ok (.aload_n 0, 1) := by decide +kernel
theorem dX8_kill_1 : decode cX8_kill 1 = .ok (.getfield 21, 3) := by decide +kernel
theorem dX8_kill_4 : decode cX8_kill 4 = .ok (.iload_n 1, 1) := by decide +kernel
theorem dX8_kill_5 : decode cX8_kill 5 = .ok (.baload, 1) := by decide +kernel
theorem dX8_kill_6 : decode cX8_kill 6 = .ok (.ifCond .ne 5, 3) := by decide +kernel
theorem dX8_kill_9 : decode cX8_kill 9 = .ok (.iconst 0, 1) := by decide +kernel
theorem dX8_kill_10 : decode cX8_kill 10 = .ok (.ireturn, 1) := by decide +kernel
theorem dX8_kill_11 : decode cX8_kill 11 = .ok (.aload_n 0, 1) := by decide +kernel
theorem dX8_kill_12 : decode cX8_kill 12 = .ok (.getfield 21, 3) := by decide +kernel
theorem dX8_kill_15 : decode cX8_kill 15 = .ok (.iload_n 1, 1) := by decide +kernel
theorem dX8_kill_16 : decode cX8_kill 16 = .ok (.iconst 0, 1) := by decide +kernel
theorem dX8_kill_17 : decode cX8_kill 17 = .ok (.bastore, 1) := by decide +kernel
theorem dX8_kill_18 : decode cX8_kill 18 = .ok (.aload_n 0, 1) := by decide +kernel
theorem dX8_kill_19 : decode cX8_kill 19 = .ok (.dup, 1) := by decide +kernel
theorem dX8_kill_20 : decode cX8_kill 20 = .ok (.getfield 90, 3) := by decide +kernel
theorem dX8_kill_23 : decode cX8_kill 23 = .ok (.iconst 1, 1) := by decide +kernel
theorem dX8_kill_24 : decode cX8_kill 24 = .ok (.isub, 1) := by decide +kernel
theorem dX8_kill_25 : decode cX8_kill 25 = .ok (.putfield 90, 3) := by decide +kernel
theorem dX8_kill_28 : decode cX8_kill 28 = .ok (.iconst 1, 1) := by decide +kernel
theorem dX8_kill_29 : decode cX8_kill 29 = .ok (.ireturn, 1) := by decide +kernel
theorem dX8_sealIfFull_0 : decode cX8_sealIfFull 0 = .ok (.aload_n 0, 1) := by decide +kernel
theorem dX8_sealIfFull_1 : decode cX8_sealIfFull 1 = .ok (.getfield 39, 3) := by decide +kernel
theorem dX8_sealIfFull_4 : decode cX8_sealIfFull 4 = .ok (.getfield 93, 3) := by decide +kernel
theorem dX8_sealIfFull_7 : decode cX8_sealIfFull 7 = .ok (.aload_n 0, 1) := by decide +kernel
theorem dX8_sealIfFull_8 : decode cX8_sealIfFull 8 = .ok (.getfield 43, 3) := by decide +kernel
theorem dX8_sealIfFull_11 : decode cX8_sealIfFull 11 = .ok (.if_icmp .lt 8, 3) := by decide +kernel
theorem dX8_sealIfFull_14 : decode cX8_sealIfFull 14 = .ok (.aload_n 0, 1) := by decide +kernel
theorem dX8_sealIfFull_15 : decode cX8_sealIfFull 15 = .ok (.invokevirtual 96, 3) := by decide +kernel
theorem dX8_sealIfFull_18 : decode cX8_sealIfFull 18 = .ok (.pop, 1) := by decide +kernel
theorem dX8_sealIfFull_19 : decode cX8_sealIfFull 19 = .ok (.return_, 1) := by decide +kernel
theorem dX8_sealBuffer_0 : decode cX8_sealBuffer 0 = .ok (.aload_n 0, 1) := by decide +kernel
theorem dX8_sealBuffer_1 : decode cX8_sealBuffer 1 = .ok (.aload_n 0, 1) := by decide +kernel
theorem dX8_sealBuffer_2 : decode cX8_sealBuffer 2 = .ok (.getfield 39, 3) := by decide +kernel
theorem dX8_sealBuffer_5 : decode cX8_sealBuffer 5 = .ok (.invokevirtual 99, 3) := by decide +kernel
theorem dX8_sealBuffer_8 : decode cX8_sealBuffer 8 = .ok (.aload_n 0, 1) := by decide +kernel
theorem dX8_sealBuffer_9 : decode cX8_sealBuffer 9 = .ok (.getfield 39, 3) := by decide +kernel
theorem dX8_sealBuffer_12 : decode cX8_sealBuffer 12 = .ok (.getfield 93, 3) := by decide +kernel
theorem dX8_sealBuffer_15 : decode cX8_sealBuffer 15 = .ok (.istore_n 1, 1) := by decide +kernel
theorem dX8_sealBuffer_16 : decode cX8_sealBuffer 16 = .ok (.iload_n 1, 1) := by decide +kernel
theorem dX8_sealBuffer_17 : decode cX8_sealBuffer 17 = .ok (.ifCond .le 58, 3) := by decide +kernel
theorem dX8_sealBuffer_20 : decode cX8_sealBuffer 20 = .ok (.aload_n 0, 1) := by decide +kernel
theorem dX8_sealBuffer_21 : decode cX8_sealBuffer 21 = .ok (.getfield 39, 3) := by decide +kernel
theorem dX8_sealBuffer_24 : decode cX8_sealBuffer 24 = .ok (.aload_n 0, 1) := by decide +kernel
theorem dX8_sealBuffer_25 : decode cX8_sealBuffer 25 = .ok (.getfield 12, 3) := by decide +kernel
theorem dX8_sealBuffer_28 : decode cX8_sealBuffer 28 = .ok (.aload_n 0, 1) := by decide +kernel
theorem dX8_sealBuffer_29 : decode cX8_sealBuffer 29 = .ok (.getfield 50, 3) := by decide +kernel
theorem dX8_sealBuffer_32 : decode cX8_sealBuffer 32 = .ok (.aload_n 0, 1) := by decide +kernel
theorem dX8_sealBuffer_33 : decode cX8_sealBuffer 33 = .ok (.getfield 32, 3) := by decide +kernel
theorem dX8_sealBuffer_36 : decode cX8_sealBuffer 36 = .ok (.invokevirtual 103, 3) := by decide +kernel
theorem dX8_sealBuffer_39 : decode cX8_sealBuffer 39 = .ok (.aload_n 0, 1) := by decide +kernel
theorem dX8_sealBuffer_40 : decode cX8_sealBuffer 40 = .ok (.getfield 18, 3) := by decide +kernel
theorem dX8_sealBuffer_43 : decode cX8_sealBuffer 43 = .ok (.aload_n 0, 1) := by decide +kernel
theorem dX8_sealBuffer_44 : decode cX8_sealBuffer 44 = .ok (.getfield 39, 3) := by decide +kernel
theorem dX8_sealBuffer_47 : decode cX8_sealBuffer 47 = .ok (.invokevirtual 107, 3) := by decide +kernel
theorem dX8_sealBuffer_50 : decode cX8_sealBuffer 50 = .ok (.pop, 1) := by decide +kernel
theorem dX8_sealBuffer_51 : decode cX8_sealBuffer 51 = .ok (.aload_n 0, 1) := by decide +kernel
theorem dX8_sealBuffer_52 : decode cX8_sealBuffer 52 = .ok (.aload_n 0, 1) := by decide +kernel
theorem dX8_sealBuffer_53 : decode cX8_sealBuffer 53 = .ok (.getfield 18, 3) := by decide +kernel
theorem dX8_sealBuffer_56 : decode cX8_sealBuffer 56 = .ok (.invokevirtual 53, 3) := by decide +kernel
theorem dX8_sealBuffer_59 : decode cX8_sealBuffer 59 = .ok (.iconst 1, 1) := by decide +kernel
theorem dX8_sealBuffer_60 : decode cX8_sealBuffer 60 = .ok (.isub, 1) := by decide +kernel
theorem dX8_sealBuffer_61 : decode cX8_sealBuffer 61 = .ok (.invokevirtual 111, 3) := by decide +kernel
theorem dX8_sealBuffer_64 : decode cX8_sealBuffer 64 = .ok (.aload_n 0, 1) := by decide +kernel
theorem dX8_sealBuffer_65 : decode cX8_sealBuffer 65 = .ok (.new 36, 3) := by decide +kernel
theorem dX8_sealBuffer_68 : decode cX8_sealBuffer 68 = .ok (.dup, 1) := by decide +kernel
theorem dX8_sealBuffer_69 : decode cX8_sealBuffer 69 = .ok (.invokespecial 38, 3) := by decide +kernel
theorem dX8_sealBuffer_72 : decode cX8_sealBuffer 72 = .ok (.putfield 39, 3) := by decide +kernel
theorem dX8_sealBuffer_75 : decode cX8_sealBuffer 75 = .ok (.iload_n 1, 1) := by decide +kernel
theorem dX8_sealBuffer_76 : decode cX8_sealBuffer 76 = .ok (.ireturn, 1) := by decide +kernel
theorem dX8_clusterBy_0 : decode cX8_clusterBy 0 = .ok (.aload_n 0, 1) := by decide +kernel
theorem dX8_clusterBy_1 : decode cX8_clusterBy 1 = .ok (.getfield 18, 3) := by decide +kernel
theorem dX8_clusterBy_4 : decode cX8_clusterBy 4 = .ok (.iload_n 1, 1) := by decide +kernel
theorem dX8_clusterBy_5 : decode cX8_clusterBy 5 = .ok (.invokevirtual 56, 3) := by decide +kernel
theorem dX8_clusterBy_8 : decode cX8_clusterBy 8 = .ok (.checkcast 36, 3) := by decide +kernel
theorem dX8_clusterBy_11 : decode cX8_clusterBy 11 = .ok (.astore_n 3, 1) := by decide +kernel
theorem dX8_clusterBy_12 : decode cX8_clusterBy 12 = .ok (.aload_n 3, 1) := by decide +kernel
theorem dX8_clusterBy_13 : decode cX8_clusterBy 13 = .ok (.getfield 114, 3) := by decide +kernel
theorem dX8_clusterBy_16 : decode cX8_clusterBy 16 = .ok (.istore 4, 2) := by decide +kernel
theorem dX8_clusterBy_18 : decode cX8_clusterBy 18 = .ok (.aload_n 0, 1) := by decide +kernel
theorem dX8_clusterBy_19 : decode cX8_clusterBy 19 = .ok (.aload_n 3, 1) := by decide +kernel
theorem dX8_clusterBy_20 : decode cX8_clusterBy 20 = .ok (.invokevirtual 99, 3) := by decide +kernel
theorem dX8_clusterBy_23 : decode cX8_clusterBy 23 = .ok (.aload_n 3, 1) := by decide +kernel
theorem dX8_clusterBy_24 : decode cX8_clusterBy 24 = .ok (.getfield 93, 3) := by decide +kernel
theorem dX8_clusterBy_27 : decode cX8_clusterBy 27 = .ok (.ifCond .ne 11, 3) := by decide +kernel
theorem dX8_clusterBy_30 : decode cX8_clusterBy 30 = .ok (.aload_n 0, 1) := by decide +kernel
theorem dX8_clusterBy_31 : decode cX8_clusterBy 31 = .ok (.iload_n 1, 1) := by decide +kernel
theorem dX8_clusterBy_32 : decode cX8_clusterBy 32 = .ok (.invokevirtual 117, 3) := by decide +kernel
theorem dX8_clusterBy_35 : decode cX8_clusterBy 35 = .ok (.iload 4, 2) := by decide +kernel
theorem dX8_clusterBy_37 : decode cX8_clusterBy 37 = .ok (.ireturn, 1) := by decide +kernel
theorem dX8_clusterBy_38 : decode cX8_clusterBy 38 = .ok (.aload_n 0, 1) := by decide +kernel
theorem dX8_clusterBy_39 : decode cX8_clusterBy 39 = .ok (.getfield 32, 3) := by decide +kernel
theorem dX8_clusterBy_42 : decode cX8_clusterBy 42 = .ok (.aload_n 3, 1) := by decide +kernel
theorem dX8_clusterBy_43 : decode cX8_clusterBy 43 = .ok (.getfield 120, 3) := by decide +kernel
theorem dX8_clusterBy_46 : decode cX8_clusterBy 46 = .ok (.aload_n 3, 1) := by decide +kernel
theorem dX8_clusterBy_47 : decode cX8_clusterBy 47 = .ok (.getfield 93, 3) := by decide +kernel
theorem dX8_clusterBy_50 : decode cX8_clusterBy 50 = .ok (.aload_n 0, 1) := by decide +kernel
theorem dX8_clusterBy_51 : decode cX8_clusterBy 51 = .ok (.getfield 12, 3) := by decide +kernel
theorem dX8_clusterBy_54 : decode cX8_clusterBy 54 = .ok (.iload_n 2, 1) := by decide +kernel
theorem dX8_clusterBy_55 : decode cX8_clusterBy 55 = .ok (.invokevirtual 56, 3) := by decide +kernel
theorem dX8_clusterBy_58 : decode cX8_clusterBy 58 = .ok (.checkcast 60, 3) := by decide +kernel
theorem dX8_clusterBy_61 : decode cX8_clusterBy 61 = .ok (.iconst 0, 1) := by decide +kernel
theorem dX8_clusterBy_62 : decode cX8_clusterBy 62 = .ok (.iconst 1, 1) := by decide +kernel
theorem dX8_clusterBy_63 : decode cX8_clusterBy 63 = .ok (.invokevirtual 123, 3) := by decide +kernel
theorem dX8_clusterBy_66 : decode cX8_clusterBy 66 = .ok (.aload_n 3, 1) := by decide +kernel
theorem dX8_clusterBy_67 : decode cX8_clusterBy 67 = .ok (.aload_n 0, 1) := by decide +kernel
theorem dX8_clusterBy_68 : decode cX8_clusterBy 68 = .ok (.getfield 12, 3) := by decide +kernel
theorem dX8_clusterBy_71 : decode cX8_clusterBy 71 = .ok (.aload_n 0, 1) := by decide +kernel
theorem dX8_clusterBy_72 : decode cX8_clusterBy 72 = .ok (.getfield 50, 3) := by decide +kernel
theorem dX8_clusterBy_75 : decode cX8_clusterBy 75 = .ok (.aload_n 0, 1) := by decide +kernel
theorem dX8_clusterBy_76 : decode cX8_clusterBy 76 = .ok (.getfield 32, 3) := by decide +kernel
theorem dX8_clusterBy_79 : decode cX8_clusterBy 79 = .ok (.invokevirtual 103, 3) := by decide +kernel
theorem dX8_clusterBy_82 : decode cX8_clusterBy 82 = .ok (.iload 4, 2) := by decide +kernel
theorem dX8_clusterBy_84 : decode cX8_clusterBy 84 = .ok (.aload_n 3, 1) := by decide +kernel
theorem dX8_clusterBy_85 : decode cX8_clusterBy 85 = .ok (.getfield 114, 3) := by decide +kernel
theorem dX8_clusterBy_88 : decode cX8_clusterBy 88 = .ok (.isub, 1) := by decide +kernel
theorem dX8_clusterBy_89 : decode cX8_clusterBy 89 = .ok (.ireturn, 1) := by decide +kernel
theorem dX8_livingIn_0 : decode cX8_livingIn 0 = .ok (.aload_n 0, 1) := by decide +kernel
theorem dX8_livingIn_1 : decode cX8_livingIn 1 = .ok (.getfield 18, 3) := by decide +kernel
theorem dX8_livingIn_4 : decode cX8_livingIn 4 = .ok (.iload_n 1, 1) := by decide +kernel
theorem dX8_livingIn_5 : decode cX8_livingIn 5 = .ok (.invokevirtual 56, 3) := by decide +kernel
theorem dX8_livingIn_8 : decode cX8_livingIn 8 = .ok (.checkcast 36, 3) := by decide +kernel
theorem dX8_livingIn_11 : decode cX8_livingIn 11 = .ok (.astore_n 2, 1) := by decide +kernel
theorem dX8_livingIn_12 : decode cX8_livingIn 12 = .ok (.iconst 0, 1) := by decide +kernel
theorem dX8_livingIn_13 : decode cX8_livingIn 13 = .ok (.istore_n 3, 1) := by decide +kernel
theorem dX8_livingIn_14 : decode cX8_livingIn 14 = .ok (.iconst 0, 1) := by decide +kernel
theorem dX8_livingIn_15 : decode cX8_livingIn 15 = .ok (.istore 4, 2) := by decide +kernel
theorem dX8_livingIn_17 : decode cX8_livingIn 17 = .ok (.iload 4, 2) := by decide +kernel
theorem dX8_livingIn_19 : decode cX8_livingIn 19 = .ok (.aload_n 2, 1) := by decide +kernel
theorem dX8_livingIn_20 : decode cX8_livingIn 20 = .ok (.getfield 93, 3) := by decide +kernel
theorem dX8_livingIn_23 : decode cX8_livingIn 23 = .ok (.if_icmp .ge 27, 3) := by decide +kernel
theorem dX8_livingIn_26 : decode cX8_livingIn 26 = .ok (.aload_n 0, 1) := by decide +kernel
theorem dX8_livingIn_27 : decode cX8_livingIn 27 = .ok (.getfield 21, 3) := by decide +kernel
theorem dX8_livingIn_30 : decode cX8_livingIn 30 = .ok (.aload_n 2, 1) := by decide +kernel
theorem dX8_livingIn_31 : decode cX8_livingIn 31 = .ok (.getfield 120, 3) := by decide +kernel
theorem dX8_livingIn_34 : decode cX8_livingIn 34 = .ok (.iload 4, 2) := by decide +kernel
theorem dX8_livingIn_36 : decode cX8_livingIn 36 = .ok (.iaload, 1) := by decide +kernel
theorem dX8_livingIn_37 : decode cX8_livingIn 37 = .ok (.baload, 1) := by decide +kernel
theorem dX8_livingIn_38 : decode cX8_livingIn 38 = .ok (.ifCond .eq 6, 3) := by decide +kernel
theorem dX8_livingIn_41 : decode cX8_livingIn 41 = .ok (.iinc 3 1, 3) := by decide +kernel
theorem dX8_livingIn_44 : decode cX8_livingIn 44 = .ok (.iinc 4 1, 3) := by decide +kernel
theorem dX8_livingIn_47 : decode cX8_livingIn 47 = .ok (.goto (-30), 3) := by decide +kernel
theorem dX8_livingIn_50 : decode cX8_livingIn 50 = .ok (.iload_n 3, 1) := by decide +kernel
theorem dX8_livingIn_51 : decode cX8_livingIn 51 = .ok (.ireturn, 1) := by decide +kernel
theorem dX8_mergeNext_0 : decode cX8_mergeNext 0 = .ok (.aload_n 0, 1) := by decide +kernel
theorem dX8_mergeNext_1 : decode cX8_mergeNext 1 = .ok (.getfield 18, 3) := by decide +kernel
theorem dX8_mergeNext_4 : decode cX8_mergeNext 4 = .ok (.iload_n 1, 1) := by decide +kernel
theorem dX8_mergeNext_5 : decode cX8_mergeNext 5 = .ok (.invokevirtual 56, 3) := by decide +kernel
theorem dX8_mergeNext_8 : decode cX8_mergeNext 8 = .ok (.checkcast 36, 3) := by decide +kernel
theorem dX8_mergeNext_11 : decode cX8_mergeNext 11 = .ok (.astore_n 2, 1) := by decide +kernel
theorem dX8_mergeNext_12 : decode cX8_mergeNext 12 = .ok (.aload_n 0, 1) := by decide +kernel
theorem dX8_mergeNext_13 : decode cX8_mergeNext 13 = .ok (.getfield 18, 3) := by decide +kernel
theorem dX8_mergeNext_16 : decode cX8_mergeNext 16 = .ok (.iload_n 1, 1) := by decide +kernel
theorem dX8_mergeNext_17 : decode cX8_mergeNext 17 = .ok (.iconst 1, 1) := by decide +kernel
theorem dX8_mergeNext_18 : decode cX8_mergeNext 18 = .ok (.iadd, 1) := by decide +kernel
theorem dX8_mergeNext_19 : decode cX8_mergeNext 19 = .ok (.invokevirtual 56, 3) := by decide +kernel
theorem dX8_mergeNext_22 : decode cX8_mergeNext 22 = .ok (.checkcast 36, 3) := by decide +kernel
theorem dX8_mergeNext_25 : decode cX8_mergeNext 25 = .ok (.astore_n 3, 1) := by decide +kernel
theorem dX8_mergeNext_26 : decode cX8_mergeNext 26 = .ok (.aload_n 0, 1) := by decide +kernel
theorem dX8_mergeNext_27 : decode cX8_mergeNext 27 = .ok (.aload_n 2, 1) := by decide +kernel
theorem dX8_mergeNext_28 : decode cX8_mergeNext 28 = .ok (.invokevirtual 99, 3) := by decide +kernel
theorem dX8_mergeNext_31 : decode cX8_mergeNext 31 = .ok (.aload_n 0, 1) := by decide +kernel
theorem dX8_mergeNext_32 : decode cX8_mergeNext 32 = .ok (.aload_n 3, 1) := by decide +kernel
theorem dX8_mergeNext_33 : decode cX8_mergeNext 33 = .ok (.invokevirtual 99, 3) := by decide +kernel
theorem dX8_mergeNext_36 : decode cX8_mergeNext 36 = .ok (.iconst 0, 1) := by decide +kernel
theorem dX8_mergeNext_37 : decode cX8_mergeNext 37 = .ok (.istore 4, 2) := by decide +kernel
theorem dX8_mergeNext_39 : decode cX8_mergeNext 39 = .ok (.iload 4, 2) := by decide +kernel
theorem dX8_mergeNext_41 : decode cX8_mergeNext 41 = .ok (.aload_n 3, 1) := by decide +kernel
theorem dX8_mergeNext_42 : decode cX8_mergeNext 42 = .ok (.getfield 93, 3) := by decide +kernel
theorem dX8_mergeNext_45 : decode cX8_mergeNext 45 = .ok (.if_icmp .ge 20, 3) := by decide +kernel
theorem dX8_mergeNext_48 : decode cX8_mergeNext 48 = .ok (.aload_n 2, 1) := by decide +kernel
theorem dX8_mergeNext_49 : decode cX8_mergeNext 49 = .ok (.aload_n 3, 1) := by decide +kernel
theorem dX8_mergeNext_50 : decode cX8_mergeNext 50 = .ok (.getfield 120, 3) := by decide +kernel
theorem dX8_mergeNext_53 : decode cX8_mergeNext 53 = .ok (.iload 4, 2) := by decide +kernel
theorem dX8_mergeNext_55 : decode cX8_mergeNext 55 = .ok (.iaload, 1) := by decide +kernel
theorem dX8_mergeNext_56 : decode cX8_mergeNext 56 = .ok (.invokevirtual 87, 3) := by decide +kernel
theorem dX8_mergeNext_59 : decode cX8_mergeNext 59 = .ok (.iinc 4 1, 3) := by decide +kernel
theorem dX8_mergeNext_62 : decode cX8_mergeNext 62 = .ok (.goto (-23), 3) := by decide +kernel
theorem dX8_mergeNext_65 : decode cX8_mergeNext 65 = .ok (.aload_n 0, 1) := by decide +kernel
theorem dX8_mergeNext_66 : decode cX8_mergeNext 66 = .ok (.iload_n 1, 1) := by decide +kernel
theorem dX8_mergeNext_67 : decode cX8_mergeNext 67 = .ok (.iconst 1, 1) := by decide +kernel
theorem dX8_mergeNext_68 : decode cX8_mergeNext 68 = .ok (.iadd, 1) := by decide +kernel
theorem dX8_mergeNext_69 : decode cX8_mergeNext 69 = .ok (.invokevirtual 117, 3) := by decide +kernel
theorem dX8_mergeNext_72 : decode cX8_mergeNext 72 = .ok (.aload_n 2, 1) := by decide +kernel
theorem dX8_mergeNext_73 : decode cX8_mergeNext 73 = .ok (.getfield 93, 3) := by decide +kernel
theorem dX8_mergeNext_76 : decode cX8_mergeNext 76 = .ok (.ifCond .ne 10, 3) := by decide +kernel
theorem dX8_mergeNext_79 : decode cX8_mergeNext 79 = .ok (.aload_n 0, 1) := by decide +kernel
theorem dX8_mergeNext_80 : decode cX8_mergeNext 80 = .ok (.iload_n 1, 1) := by decide +kernel
theorem dX8_mergeNext_81 : decode cX8_mergeNext 81 = .ok (.invokevirtual 117, 3) := by decide +kernel
theorem dX8_mergeNext_84 : decode cX8_mergeNext 84 = .ok (.iconst 0, 1) := by decide +kernel
theorem dX8_mergeNext_85 : decode cX8_mergeNext 85 = .ok (.ireturn, 1) := by decide +kernel
theorem dX8_mergeNext_86 : decode cX8_mergeNext 86 = .ok (.aload_n 0, 1) := by decide +kernel
theorem dX8_mergeNext_87 : decode cX8_mergeNext 87 = .ok (.iload_n 1, 1) := by decide +kernel
theorem dX8_mergeNext_88 : decode cX8_mergeNext 88 = .ok (.invokevirtual 111, 3) := by decide +kernel
theorem dX8_mergeNext_91 : decode cX8_mergeNext 91 = .ok (.aload_n 2, 1) := by decide +kernel
theorem dX8_mergeNext_92 : decode cX8_mergeNext 92 = .ok (.aload_n 0, 1) := by decide +kernel
theorem dX8_mergeNext_93 : decode cX8_mergeNext 93 = .ok (.getfield 12, 3) := by decide +kernel
theorem dX8_mergeNext_96 : decode cX8_mergeNext 96 = .ok (.aload_n 0, 1) := by decide +kernel
theorem dX8_mergeNext_97 : decode cX8_mergeNext 97 = .ok (.getfield 50, 3) := by decide +kernel
theorem dX8_mergeNext_100 : decode cX8_mergeNext 100 = .ok (.aload_n 0, 1) := by decide +kernel
theorem dX8_mergeNext_101 : decode cX8_mergeNext 101 = .ok (.getfield 32, 3) := by decide +kernel
theorem dX8_mergeNext_104 : decode cX8_mergeNext 104 = .ok (.invokevirtual 103, 3) := by decide +kernel
theorem dX8_mergeNext_107 : decode cX8_mergeNext 107 = .ok (.aload_n 2, 1) := by decide +kernel
theorem dX8_mergeNext_108 : decode cX8_mergeNext 108 = .ok (.getfield 93, 3) := by decide +kernel
theorem dX8_mergeNext_111 : decode cX8_mergeNext 111 = .ok (.ireturn, 1) := by decide +kernel
theorem dX8_bytesOfBitmaps_0 : decode cX8_bytesOfBitmaps 0 = .ok (.iconst 0, 1) := by decide +kernel
theorem dX8_bytesOfBitmaps_1 : decode cX8_bytesOfBitmaps 1 = .ok (.istore_n 1, 1) := by decide +kernel
theorem dX8_bytesOfBitmaps_2 : decode cX8_bytesOfBitmaps 2 = .ok (.iconst 0, 1) := by decide +kernel
theorem dX8_bytesOfBitmaps_3 : decode cX8_bytesOfBitmaps 3 = .ok (.istore_n 2, 1) := by decide +kernel
theorem dX8_bytesOfBitmaps_4 : decode cX8_bytesOfBitmaps 4 = .ok (.iload_n 2, 1) := by decide +kernel
theorem dX8_bytesOfBitmaps_5 : decode cX8_bytesOfBitmaps 5 = .ok (.aload_n 0, 1) := by decide +kernel
theorem dX8_bytesOfBitmaps_6 : decode cX8_bytesOfBitmaps 6 = .ok (.getfield 12, 3) := by decide +kernel
theorem dX8_bytesOfBitmaps_9 : decode cX8_bytesOfBitmaps 9 = .ok (.invokevirtual 53, 3) := by decide +kernel
theorem dX8_bytesOfBitmaps_12 : decode cX8_bytesOfBitmaps 12 = .ok (.if_icmp .ge 67, 3) := by decide +kernel
theorem dX8_bytesOfBitmaps_15 : decode cX8_bytesOfBitmaps 15 = .ok (.iconst 0, 1) := by decide +kernel
theorem dX8_bytesOfBitmaps_16 : decode cX8_bytesOfBitmaps 16 = .ok (.istore_n 3, 1) := by decide +kernel
theorem dX8_bytesOfBitmaps_17 : decode cX8_bytesOfBitmaps 17 = .ok (.iload_n 3, 1) := by decide +kernel
theorem dX8_bytesOfBitmaps_18 : decode cX8_bytesOfBitmaps 18 = .ok (.aload_n 0, 1) := by decide +kernel
theorem dX8_bytesOfBitmaps_19 : decode cX8_bytesOfBitmaps 19 = .ok (.getfield 18, 3) := by decide +kernel
theorem dX8_bytesOfBitmaps_22 : decode cX8_bytesOfBitmaps 22 = .ok (.invokevirtual 53, 3) := by decide +kernel
theorem dX8_bytesOfBitmaps_25 : decode cX8_bytesOfBitmaps 25 = .ok (.if_icmp .ge 48, 3) := by decide +kernel
theorem dX8_bytesOfBitmaps_28 : decode cX8_bytesOfBitmaps 28 = .ok (.aload_n 0, 1) := by decide +kernel
theorem dX8_bytesOfBitmaps_29 : decode cX8_bytesOfBitmaps 29 = .ok (.getfield 12, 3) := by decide +kernel
theorem dX8_bytesOfBitmaps_32 : decode cX8_bytesOfBitmaps 32 = .ok (.iload_n 2, 1) := by decide +kernel
theorem dX8_bytesOfBitmaps_33 : decode cX8_bytesOfBitmaps 33 = .ok (.invokevirtual 56, 3) := by decide +kernel
theorem dX8_bytesOfBitmaps_36 : decode cX8_bytesOfBitmaps 36 = .ok (.checkcast 60, 3) := by decide +kernel
theorem dX8_bytesOfBitmaps_39 : decode cX8_bytesOfBitmaps 39 = .ok (.getfield 131, 3) := by decide +kernel
theorem dX8_bytesOfBitmaps_42 : decode cX8_bytesOfBitmaps 42 = .ok (.ifCond .eq 31, 3) := by decide +kernel
theorem dX8_bytesOfBitmaps_45 : decode cX8_bytesOfBitmaps 45 = .ok (.iload_n 1, 1) := by decide +kernel
theorem dX8_bytesOfBitmaps_46 : decode cX8_bytesOfBitmaps 46 = .ok (.aload_n 0, 1) := by decide +kernel
theorem dX8_bytesOfBitmaps_47 : decode cX8_bytesOfBitmaps 47 = .ok (.getfield 18, 3) := by decide +kernel
theorem dX8_bytesOfBitmaps_50 : decode cX8_bytesOfBitmaps 50 = .ok (.iload_n 3, 1) := by decide +kernel
theorem dX8_bytesOfBitmaps_51 : decode cX8_bytesOfBitmaps 51 = .ok (.invokevirtual 56, 3) := by decide +kernel
theorem dX8_bytesOfBitmaps_54 : decode cX8_bytesOfBitmaps 54 = .ok (.checkcast 36, 3) := by decide +kernel
theorem dX8_bytesOfBitmaps_57 : decode cX8_bytesOfBitmaps 57 = .ok (.getfield 134, 3) := by decide +kernel
theorem dX8_bytesOfBitmaps_60 : decode cX8_bytesOfBitmaps 60 = .ok (.iload_n 2, 1) := by decide +kernel
theorem dX8_bytesOfBitmaps_61 : decode cX8_bytesOfBitmaps 61 = .ok (.aaload, 1) := by decide +kernel
theorem dX8_bytesOfBitmaps_62 : decode cX8_bytesOfBitmaps 62 = .ok (.invokevirtual 138, 3) := by decide +kernel
theorem dX8_bytesOfBitmaps_65 : decode cX8_bytesOfBitmaps 65 = .ok (.iadd, 1) := by decide +kernel
theorem dX8_bytesOfBitmaps_66 : decode cX8_bytesOfBitmaps 66 = .ok (.istore_n 1, 1) := by decide +kernel
theorem dX8_bytesOfBitmaps_67 : decode cX8_bytesOfBitmaps 67 = .ok (.iinc 3 1, 3) := by decide +kernel
theorem dX8_bytesOfBitmaps_70 : decode cX8_bytesOfBitmaps 70 = .ok (.goto (-53), 3) := by decide +kernel
theorem dX8_bytesOfBitmaps_73 : decode cX8_bytesOfBitmaps 73 = .ok (.iinc 2 1, 3) := by decide +kernel
theorem dX8_bytesOfBitmaps_76 : decode cX8_bytesOfBitmaps 76 = .ok (.goto (-72), 3) := by decide +kernel
theorem dX8_bytesOfBitmaps_79 : decode cX8_bytesOfBitmaps 79 = .ok (.iload_n 1, 1) := by decide +kernel
theorem dX8_bytesOfBitmaps_80 : decode cX8_bytesOfBitmaps 80 = .ok (.ireturn, 1) := by decide +kernel
theorem dX8_dropDead_0 : decode cX8_dropDead 0 = .ok (.iconst 0, 1) := by decide +kernel
theorem dX8_dropDead_1 : decode cX8_dropDead 1 = .ok (.istore_n 2, 1) := by decide +kernel
theorem dX8_dropDead_2 : decode cX8_dropDead 2 = .ok (.iconst 0, 1) := by decide +kernel
theorem dX8_dropDead_3 : decode cX8_dropDead 3 = .ok (.istore_n 3, 1) := by decide +kernel
theorem dX8_dropDead_4 : decode cX8_dropDead 4 = .ok (.iload_n 3, 1) := by decide +kernel
theorem dX8_dropDead_5 : decode cX8_dropDead 5 = .ok (.aload_n 1, 1) := by decide +kernel
theorem dX8_dropDead_6 : decode cX8_dropDead 6 = .ok (.getfield 93, 3) := by decide +kernel
theorem dX8_dropDead_9 : decode cX8_dropDead 9 = .ok (.if_icmp .ge 50, 3) := by decide +kernel
theorem dX8_dropDead_12 : decode cX8_dropDead 12 = .ok (.aload_n 1, 1) := by decide +kernel
theorem dX8_dropDead_13 : decode cX8_dropDead 13 = .ok (.getfield 120, 3) := by decide +kernel
theorem dX8_dropDead_16 : decode cX8_dropDead 16 = .ok (.iload_n 3, 1) := by decide +kernel
theorem dX8_dropDead_17 : decode cX8_dropDead 17 = .ok (.iaload, 1) := by decide +kernel
theorem dX8_dropDead_18 : decode cX8_dropDead 18 = .ok (.istore 4, 2) := by decide +kernel
theorem dX8_dropDead_20 : decode cX8_dropDead 20 = .ok (.aload_n 0, 1) := by decide +kernel
theorem dX8_dropDead_21 : decode cX8_dropDead 21 = .ok (.getfield 21, 3) := by decide +kernel
theorem dX8_dropDead_24 : decode cX8_dropDead 24 = .ok (.iload 4, 2) := by decide +kernel
theorem dX8_dropDead_26 : decode cX8_dropDead 26 = .ok (.baload, 1) := by decide +kernel
theorem dX8_dropDead_27 : decode cX8_dropDead 27 = .ok (.ifCond .eq 17, 3) := by decide +kernel
theorem dX8_dropDead_30 : decode cX8_dropDead 30 = .ok (.aload_n 1, 1) := by decide +kernel
theorem dX8_dropDead_31 : decode cX8_dropDead 31 = .ok (.getfield 120, 3) := by decide +kernel
theorem dX8_dropDead_34 : decode cX8_dropDead 34 = .ok (.iload_n 2, 1) := by decide +kernel
theorem dX8_dropDead_35 : decode cX8_dropDead 35 = .ok (.iload 4, 2) := by decide +kernel
theorem dX8_dropDead_37 : decode cX8_dropDead 37 = .ok (.iastore, 1) := by decide +kernel
theorem dX8_dropDead_38 : decode cX8_dropDead 38 = .ok (.iinc 2 1, 3) := by decide +kernel
theorem dX8_dropDead_41 : decode cX8_dropDead 41 = .ok (.goto 12, 3) := by decide +kernel
theorem dX8_dropDead_44 : decode cX8_dropDead 44 = .ok (.aload_n 0, 1) := by decide +kernel
theorem dX8_dropDead_45 : decode cX8_dropDead 45 = .ok (.getfield 25, 3) := by decide +kernel
theorem dX8_dropDead_48 : decode cX8_dropDead 48 = .ok (.iload 4, 2) := by decide +kernel
theorem dX8_dropDead_50 : decode cX8_dropDead 50 = .ok (.bipush (-2), 2) := by decide +kernel
theorem dX8_dropDead_52 : decode cX8_dropDead 52 = .ok (.iastore, 1) := by decide +kernel
theorem dX8_dropDead_53 : decode cX8_dropDead 53 = .ok (.iinc 3 1, 3) := by decide +kernel
theorem dX8_dropDead_56 : decode cX8_dropDead 56 = .ok (.goto (-52), 3) := by decide +kernel
theorem dX8_dropDead_59 : decode cX8_dropDead 59 = .ok (.aload_n 1, 1) := by decide +kernel
theorem dX8_dropDead_60 : decode cX8_dropDead 60 = .ok (.iload_n 2, 1) := by decide +kernel
theorem dX8_dropDead_61 : decode cX8_dropDead 61 = .ok (.putfield 93, 3) := by decide +kernel
theorem dX8_dropDead_64 : decode cX8_dropDead 64 = .ok (.return_, 1) := by decide +kernel
theorem dX8_removeFrame_0 : decode cX8_removeFrame 0 = .ok (.aload_n 0, 1) := by decide +kernel
theorem dX8_removeFrame_1 : decode cX8_removeFrame 1 = .ok (.getfield 18, 3) := by decide +kernel
theorem dX8_removeFrame_4 : decode cX8_removeFrame 4 = .ok (.iload_n 1, 1) := by decide +kernel
theorem dX8_removeFrame_5 : decode cX8_removeFrame 5 = .ok (.invokevirtual 143, 3) := by decide +kernel
theorem dX8_removeFrame_8 : decode cX8_removeFrame 8 = .ok (.pop, 1) := by decide +kernel
theorem dX8_removeFrame_9 : decode cX8_removeFrame 9 = .ok (.aload_n 0, 1) := by decide +kernel
theorem dX8_removeFrame_10 : decode cX8_removeFrame 10 = .ok (.iload_n 1, 1) := by decide +kernel
theorem dX8_removeFrame_11 : decode cX8_removeFrame 11 = .ok (.invokevirtual 111, 3) := by decide +kernel
theorem dX8_removeFrame_14 : decode cX8_removeFrame 14 = .ok (.return_, 1) := by decide +kernel
theorem dX8_numberFrom_0 : decode cX8_numberFrom 0 = .ok (.iload_n 1, 1) := by decide +kernel
theorem dX8_numberFrom_1 : decode cX8_numberFrom 1 = .ok (.istore_n 2, 1) := by decide +kernel
theorem dX8_numberFrom_2 : decode cX8_numberFrom 2 = .ok (.iload_n 2, 1) := by decide +kernel
theorem dX8_numberFrom_3 : decode cX8_numberFrom 3 = .ok (.aload_n 0, 1) := by decide +kernel
theorem dX8_numberFrom_4 : decode cX8_numberFrom 4 = .ok (.getfield 18, 3) := by decide +kernel
theorem dX8_numberFrom_7 : decode cX8_numberFrom 7 = .ok (.invokevirtual 53, 3) := by decide +kernel
theorem dX8_numberFrom_10 : decode cX8_numberFrom 10 = .ok (.if_icmp .ge 52, 3) := by decide +kernel
theorem dX8_numberFrom_13 : decode cX8_numberFrom 13 = .ok (.aload_n 0, 1) := by decide +kernel
theorem dX8_numberFrom_14 : decode cX8_numberFrom 14 = .ok (.getfield 18, 3) := by decide +kernel
theorem dX8_numberFrom_17 : decode cX8_numberFrom 17 = .ok (.iload_n 2, 1) := by decide +kernel
theorem dX8_numberFrom_18 : decode cX8_numberFrom 18 = .ok (.invokevirtual 56, 3) := by decide +kernel
theorem dX8_numberFrom_21 : decode cX8_numberFrom 21 = .ok (.checkcast 36, 3) := by decide +kernel
theorem dX8_numberFrom_24 : decode cX8_numberFrom 24 = .ok (.astore_n 3, 1) := by decide +kernel
theorem dX8_numberFrom_25 : decode cX8_numberFrom 25 = .ok (.iconst 0, 1) := by decide +kernel
theorem dX8_numberFrom_26 : decode cX8_numberFrom 26 = .ok (.istore 4, 2) := by decide +kernel
theorem dX8_numberFrom_28 : decode cX8_numberFrom 28 = .ok (.iload 4, 2) := by decide +kernel
theorem dX8_numberFrom_30 : decode cX8_numberFrom 30 = .ok (.aload_n 3, 1) := by decide +kernel
theorem dX8_numberFrom_31 : decode cX8_numberFrom 31 = .ok (.getfield 93, 3) := by decide +kernel
theorem dX8_numberFrom_34 : decode cX8_numberFrom 34 = .ok (.if_icmp .ge 22, 3) := by decide +kernel
theorem dX8_numberFrom_37 : decode cX8_numberFrom 37 = .ok (.aload_n 0, 1) := by decide +kernel
theorem dX8_numberFrom_38 : decode cX8_numberFrom 38 = .ok (.getfield 25, 3) := by decide +kernel
theorem dX8_numberFrom_41 : decode cX8_numberFrom 41 = .ok (.aload_n 3, 1) := by decide +kernel
theorem dX8_numberFrom_42 : decode cX8_numberFrom 42 = .ok (.getfield 120, 3) := by decide +kernel
theorem dX8_numberFrom_45 : decode cX8_numberFrom 45 = .ok (.iload 4, 2) := by decide +kernel
theorem dX8_numberFrom_47 : decode cX8_numberFrom 47 = .ok (.iaload, 1) := by decide +kernel
theorem dX8_numberFrom_48 : decode cX8_numberFrom 48 = .ok (.iload_n 2, 1) := by decide +kernel
theorem dX8_numberFrom_49 : decode cX8_numberFrom 49 = .ok (.iastore, 1) := by decide +kernel
theorem dX8_numberFrom_50 : decode cX8_numberFrom 50 = .ok (.iinc 4 1, 3) := by decide +kernel
theorem dX8_numberFrom_53 : decode cX8_numberFrom 53 = .ok (.goto (-25), 3) := by decide +kernel
theorem dX8_numberFrom_56 : decode cX8_numberFrom 56 = .ok (.iinc 2 1, 3) := by decide +kernel
theorem dX8_numberFrom_59 : decode cX8_numberFrom 59 = .ok (.goto (-57), 3) := by decide +kernel
theorem dX8_numberFrom_62 : decode cX8_numberFrom 62 = .ok (.return_, 1) := by decide +kernel
theorem dX9_init_0 : decode cX9_init 0 = .ok (.aload_n 0, 1) := by decide +kernel
theorem dX9_init_1 : decode cX9_init 1 = .ok (.invokespecial 3, 3) := by decide +kernel
theorem dX9_init_4 : decode cX9_init 4 = .ok (.aload_n 0, 1) := by decide +kernel
theorem dX9_init_5 : decode cX9_init 5 = .ok (.bipush 16, 2) := by decide +kernel
theorem dX9_init_7 : decode cX9_init 7 = .ok (.newarray .int, 2) := by decide +kernel
theorem dX9_init_9 : decode cX9_init 9 = .ok (.putfield 9, 3) := by decide +kernel
theorem dX9_init_12 : decode cX9_init 12 = .ok (.return_, 1) := by decide +kernel
theorem dX9_reckon_0 : decode cX9_reckon 0 = .ok (.aload_n 0, 1) := by decide +kernel
theorem dX9_reckon_1 : decode cX9_reckon 1 = .ok (.iload 4, 2) := by decide +kernel
theorem dX9_reckon_3 : decode cX9_reckon 3 = .ok (.putfield 15, 3) := by decide +kernel
theorem dX9_reckon_6 : decode cX9_reckon 6 = .ok (.aload_n 0, 1) := by decide +kernel
theorem dX9_reckon_7 : decode cX9_reckon 7 = .ok (.aload_n 1, 1) := by decide +kernel
theorem dX9_reckon_8 : decode cX9_reckon 8 = .ok (.aload_n 3, 1) := by decide +kernel
theorem dX9_reckon_9 : decode cX9_reckon 9 = .ok (.invokevirtual 19, 3) := by decide +kernel
theorem dX9_reckon_12 : decode cX9_reckon 12 = .ok (.aload_n 0, 1) := by decide +kernel
theorem dX9_reckon_13 : decode cX9_reckon 13 = .ok (.aload_n 1, 1) := by decide +kernel
theorem dX9_reckon_14 : decode cX9_reckon 14 = .ok (.aload_n 2, 1) := by decide +kernel
theorem dX9_reckon_15 : decode cX9_reckon 15 = .ok (.invokevirtual 23, 3) := by decide +kernel
theorem dX9_reckon_18 : decode cX9_reckon 18 = .ok (.aload_n 0, 1) := by decide +kernel
theorem dX9_reckon_19 : decode cX9_reckon 19 = .ok (.getfield 26, 3) := by decide +kernel
theorem dX9_reckon_22 : decode cX9_reckon 22 = .ok (.aload_n 0, 1) := by decide +kernel
theorem dX9_reckon_23 : decode cX9_reckon 23 = .ok (.getfield 15, 3) := by decide +kernel
theorem dX9_reckon_26 : decode cX9_reckon 26 = .ok (.if_icmp .ge 7, 3) := by decide +kernel
theorem dX9_reckon_29 : decode cX9_reckon 29 = .ok (.iconst 1, 1) := by decide +kernel
theorem dX9_reckon_30 : decode cX9_reckon 30 = .ok (.goto 4, 3) := by decide +kernel
theorem dX9_reckon_33 : decode cX9_reckon 33 = .ok (.iconst 0, 1) := by decide +kernel
theorem dX9_reckon_34 : decode cX9_reckon 34 = .ok (.istore 5, 2) := by decide +kernel
theorem dX9_reckon_36 : decode cX9_reckon 36 = .ok (.aload_n 0, 1) := by decide +kernel
theorem dX9_reckon_37 : decode cX9_reckon 37 = .ok (.iload 5, 2) := by decide +kernel
theorem dX9_reckon_39 : decode cX9_reckon 39 = .ok (.ifCond .eq 17, 3) := by decide +kernel
theorem dX9_reckon_42 : decode cX9_reckon 42 = .ok (.aload_n 1, 1) := by decide +kernel
theorem dX9_reckon_43 : decode cX9_reckon 43 = .ok (.getfield 29, 3) := by decide +kernel
theorem dX9_reckon_46 : decode cX9_reckon 46 = .ok (.aload_n 3, 1) := by decide +kernel
theorem dX9_reckon_47 : decode cX9_reckon 47 = .ok (.aload_n 0, 1) := by decide +kernel
theorem dX9_reckon_48 : decode cX9_reckon 48 = .ok (.getfield 26, 3) := by decide +kernel
theorem dX9_reckon_51 : decode cX9_reckon 51 = .ok (.iaload, 1) := by decide +kernel
theorem dX9_reckon_52 : decode cX9_reckon 52 = .ok (.iaload, 1) := by decide +kernel
theorem dX9_reckon_53 : decode cX9_reckon 53 = .ok (.goto 4, 3) := by decide +kernel
theorem dX9_reckon_56 : decode cX9_reckon 56 = .ok (.iconst 0, 1) := by decide +kernel
theorem dX9_reckon_57 : decode cX9_reckon 57 = .ok (.putfield 32, 3) := by decide +kernel
theorem dX9_reckon_60 : decode cX9_reckon 60 = .ok (.aload_n 0, 1) := by decide +kernel
theorem dX9_reckon_61 : decode cX9_reckon 61 = .ok (.iload 5, 2) := by decide +kernel
theorem dX9_reckon_63 : decode cX9_reckon 63 = .ok (.ifCond .eq 19, 3) := by decide +kernel
theorem dX9_reckon_66 : decode cX9_reckon 66 = .ok (.aload_n 1, 1) := by decide +kernel
theorem dX9_reckon_67 : decode cX9_reckon 67 = .ok (.getfield 29, 3) := by decide +kernel
theorem dX9_reckon_70 : decode cX9_reckon 70 = .ok (.aload_n 3, 1) := by decide +kernel
theorem dX9_reckon_71 : decode cX9_reckon 71 = .ok (.aload_n 0, 1) := by decide +kernel
theorem dX9_reckon_72 : decode cX9_reckon 72 = .ok (.getfield 15, 3) := by decide +kernel
theorem dX9_reckon_75 : decode cX9_reckon 75 = .ok (.iconst 1, 1) := by decide +kernel
theorem dX9_reckon_76 : decode cX9_reckon 76 = .ok (.isub, 1) := by decide +kernel
theorem dX9_reckon_77 : decode cX9_reckon 77 = .ok (.iaload, 1) := by decide +kernel
theorem dX9_reckon_78 : decode cX9_reckon 78 = .ok (.iaload, 1) := by decide +kernel
theorem dX9_reckon_79 : decode cX9_reckon 79 = .ok (.goto 4, 3) := by decide +kernel
theorem dX9_reckon_82 : decode cX9_reckon 82 = .ok (.iconst 0, 1) := by decide +kernel
theorem dX9_reckon_83 : decode cX9_reckon 83 = .ok (.putfield 35, 3) := by decide +kernel
theorem dX9_reckon_86 : decode cX9_reckon 86 = .ok (.aload_n 0, 1) := by decide +kernel
theorem dX9_reckon_87 : decode cX9_reckon 87 = .ok (.iconst 0, 1) := by decide +kernel
theorem dX9_reckon_88 : decode cX9_reckon 88 = .ok (.putfield 38, 3) := by decide +kernel
theorem dX9_reckon_91 : decode cX9_reckon 91 = .ok (.iconst 1, 1) := by decide +kernel
theorem dX9_reckon_92 : decode cX9_reckon 92 = .ok (.istore 6, 2) := by decide +kernel
theorem dX9_reckon_94 : decode cX9_reckon 94 = .ok (.iload 6, 2) := by decide +kernel
theorem dX9_reckon_96 : decode cX9_reckon 96 = .ok (.iconst 5, 1) := by decide +kernel
theorem dX9_reckon_97 : decode cX9_reckon 97 = .ok (.if_icmp .ge 41, 3) := by decide +kernel
theorem dX9_reckon_100 : decode cX9_reckon 100 = .ok (.aload_n 0, 1) := by decide +kernel
theorem dX9_reckon_101 : decode cX9_reckon 101 = .ok (.iload 6, 2) := by decide +kernel
theorem dX9_reckon_103 : decode cX9_reckon 103 = .ok (.invokevirtual 41, 3) := by decide +kernel
theorem dX9_reckon_106 : decode cX9_reckon 106 = .ok (.istore 7, 2) := by decide +kernel
theorem dX9_reckon_108 : decode cX9_reckon 108 = .ok (.iload 7, 2) := by decide +kernel
theorem dX9_reckon_110 : decode cX9_reckon 110 = .ok (.ifCond .lt 22, 3) := by decide +kernel
theorem dX9_reckon_113 : decode cX9_reckon 113 = .ok (.iload 7, 2) := by decide +kernel
theorem dX9_reckon_115 : decode cX9_reckon 115 = .ok (.aload_n 0, 1) := by decide +kernel
theorem dX9_reckon_116 : decode cX9_reckon 116 = .ok (.aload_n 0, 1) := by decide +kernel
theorem dX9_reckon_117 : decode cX9_reckon 117 = .ok (.getfield 38, 3) := by decide +kernel
theorem dX9_reckon_120 : decode cX9_reckon 120 = .ok (.invokevirtual 41, 3) := by decide +kernel
theorem dX9_reckon_123 : decode cX9_reckon 123 = .ok (.if_icmp .ge 9, 3) := by decide +kernel
theorem dX9_reckon_126 : decode cX9_reckon 126 = .ok (.aload_n 0, 1) := by decide +kernel
theorem dX9_reckon_127 : decode cX9_reckon 127 = .ok (.iload 6, 2) := by decide +kernel
theorem dX9_reckon_129 : decode cX9_reckon 129 = .ok (.putfield 38, 3) := by decide +kernel
theorem dX9_reckon_132 : decode cX9_reckon 132 = .ok (.iinc 6 1, 3) := by decide +kernel
theorem dX9_reckon_135 : decode cX9_reckon 135 = .ok (.goto (-41), 3) := by decide +kernel
theorem dX9_reckon_138 : decode cX9_reckon 138 = .ok (.return_, 1) := by decide +kernel
theorem dX9_countValues_0 : decode cX9_countValues 0 = .ok (.aload_n 0, 1) := by decide +kernel
theorem dX9_countValues_1 : decode cX9_countValues 1 = .ok (.iconst 0, 1) := by decide +kernel
theorem dX9_countValues_2 : decode cX9_countValues 2 = .ok (.putfield 26, 3) := by decide +kernel
theorem dX9_countValues_5 : decode cX9_countValues 5 = .ok (.aload_n 0, 1) := by decide +kernel
theorem dX9_countValues_6 : decode cX9_countValues 6 = .ok (.iconst 0, 1) := by decide +kernel
theorem dX9_countValues_7 : decode cX9_countValues 7 = .ok (.putfield 45, 3) := by decide +kernel
theorem dX9_countValues_10 : decode cX9_countValues 10 = .ok (.iconst 0, 1) := by decide +kernel
theorem dX9_countValues_11 : decode cX9_countValues 11 = .ok (.istore_n 3, 1) := by decide +kernel
theorem dX9_countValues_12 : decode cX9_countValues 12 = .ok (.iload_n 3, 1) := by decide +kernel
theorem dX9_countValues_13 : decode cX9_countValues 13 = .ok (.aload_n 0, 1) := by decide +kernel
theorem dX9_countValues_14 : decode cX9_countValues 14 = .ok (.getfield 15, 3) := by decide +kernel
theorem dX9_countValues_17 : decode cX9_countValues 17 = .ok (.if_icmp .ge 88, 3) := by decide +kernel
theorem dX9_countValues_20 : decode cX9_countValues 20 = .ok (.aload_n 1, 1) := by decide +kernel
theorem dX9_countValues_21 : decode cX9_countValues 21 = .ok (.getfield 48, 3) := by decide +kernel
theorem dX9_countValues_24 : decode cX9_countValues 24 = .ok (.aload_n 2, 1) := by decide +kernel
theorem dX9_countValues_25 : decode cX9_countValues 25 = .ok (.iload_n 3, 1) := by decide +kernel
theorem dX9_countValues_26 : decode cX9_countValues 26 = .ok (.iaload, 1) := by decide +kernel
theorem dX9_countValues_27 : decode cX9_countValues 27 = .ok (.baload, 1) := by decide +kernel
theorem dX9_countValues_28 : decode cX9_countValues 28 = .ok (.ifCond .eq 16, 3) := by decide +kernel
theorem dX9_countValues_31 : decode cX9_countValues 31 = .ok (.aload_n 0, 1) := by decide +kernel
theorem dX9_countValues_32 : decode cX9_countValues 32 = .ok (.dup, 1) := by decide +kernel
theorem dX9_countValues_33 : decode cX9_countValues 33 = .ok (.getfield 26, 3) := by decide +kernel
theorem dX9_countValues_36 : decode cX9_countValues 36 = .ok (.iconst 1, 1) := by decide +kernel
theorem dX9_countValues_37 : decode cX9_countValues 37 = .ok (.iadd, 1) := by decide +kernel
theorem dX9_countValues_38 : decode cX9_countValues 38 = .ok (.putfield 26, 3) := by decide +kernel
theorem dX9_countValues_41 : decode cX9_countValues 41 = .ok (.goto 58, 3) := by decide +kernel
theorem dX9_countValues_44 : decode cX9_countValues 44 = .ok (.iload_n 3, 1) := by decide +kernel
theorem dX9_countValues_45 : decode cX9_countValues 45 = .ok (.ifCond .eq 18, 3) := by decide +kernel
theorem dX9_countValues_48 : decode cX9_countValues 48 = .ok (.aload_n 1, 1) := by decide +kernel
theorem dX9_countValues_49 : decode cX9_countValues 49 = .ok (.aload_n 2, 1) := by decide +kernel
theorem dX9_countValues_50 : decode cX9_countValues 50 = .ok (.iload_n 3, 1) := by decide +kernel
theorem dX9_countValues_51 : decode cX9_countValues 51 = .ok (.iconst 1, 1) := by decide +kernel
theorem dX9_countValues_52 : decode cX9_countValues 52 = .ok (.isub, 1) := by decide +kernel
theorem dX9_countValues_53 : decode cX9_countValues 53 = .ok (.iaload, 1) := by decide +kernel
theorem dX9_countValues_54 : decode cX9_countValues 54 = .ok (.aload_n 2, 1) := by decide +kernel
theorem dX9_countValues_55 : decode cX9_countValues 55 = .ok (.iload_n 3, 1) := by decide +kernel
theorem dX9_countValues_56 : decode cX9_countValues 56 = .ok (.iaload, 1) := by decide +kernel
theorem dX9_countValues_57 : decode cX9_countValues 57 = .ok (.invokevirtual 52, 3) := by decide +kernel
theorem dX9_countValues_60 : decode cX9_countValues 60 = .ok (.ifCond .ne 39, 3) := by decide +kernel
theorem dX9_countValues_63 : decode cX9_countValues 63 = .ok (.aload_n 0, 1) := by decide +kernel
theorem dX9_countValues_64 : decode cX9_countValues 64 = .ok (.getfield 45, 3) := by decide +kernel
theorem dX9_countValues_67 : decode cX9_countValues 67 = .ok (.bipush 16, 2) := by decide +kernel
theorem dX9_countValues_69 : decode cX9_countValues 69 = .ok (.if_icmp .ge 20, 3) := by decide +kernel
theorem dX9_countValues_72 : decode cX9_countValues 72 = .ok (.aload_n 0, 1) := by decide +kernel
theorem dX9_countValues_73 : decode cX9_countValues 73 = .ok (.getfield 9, 3) := by decide +kernel
theorem dX9_countValues_76 : decode cX9_countValues 76 = .ok (.aload_n 0, 1) := by decide +kernel
theorem dX9_countValues_77 : decode cX9_countValues 77 = .ok (.getfield 45, 3) := by decide +kernel
theorem dX9_countValues_80 : decode cX9_countValues 80 = .ok (.aload_n 1, 1) := by decide +kernel
theorem dX9_countValues_81 : decode cX9_countValues 81 = .ok (.getfield 29, 3) := by decide +kernel
theorem dX9_countValues_84 : decode cX9_countValues 84 = .ok (.aload_n 2, 1) := by decide +kernel
theorem dX9_countValues_85 : decode cX9_countValues 85 = .ok (.iload_n 3, 1) := by decide +kernel
theorem dX9_countValues_86 : decode cX9_countValues 86 = .ok (.iaload, 1) := by decide +kernel
theorem dX9_countValues_87 : decode cX9_countValues 87 = .ok (.iaload, 1) := by decide +kernel
theorem dX9_countValues_88 : decode cX9_countValues 88 = .ok (.iastore, 1) := by decide +kernel
theorem dX9_countValues_89 : decode cX9_countValues 89 = .ok (.aload_n 0, 1) := by decide +kernel
theorem dX9_countValues_90 : decode cX9_countValues 90 = .ok (.dup, 1) := by decide +kernel
theorem dX9_countValues_91 : decode cX9_countValues 91 = .ok (.getfield 45, 3) := by decide +kernel
theorem dX9_countValues_94 : decode cX9_countValues 94 = .ok (.iconst 1, 1) := by decide +kernel
theorem dX9_countValues_95 : decode cX9_countValues 95 = .ok (.iadd, 1) := by decide +kernel
theorem dX9_countValues_96 : decode cX9_countValues 96 = .ok (.putfield 45, 3) := by decide +kernel
theorem dX9_countValues_99 : decode cX9_countValues 99 = .ok (.iinc 3 1, 3) := by decide +kernel
theorem dX9_countValues_102 : decode cX9_countValues 102 = .ok (.goto (-90), 3) := by decide +kernel
theorem dX9_countValues_105 : decode cX9_countValues 105 = .ok (.return_, 1) := by decide +kernel
theorem dX9_countRuns_0 : decode cX9_countRuns 0 = .ok (.aload_n 0, 1) := by decide +kernel
theorem dX9_countRuns_1 : decode cX9_countRuns 1 = .ok (.aload_n 0, 1) := by decide +kernel
theorem dX9_countRuns_2 : decode cX9_countRuns 2 = .ok (.getfield 15, 3) := by decide +kernel
theorem dX9_countRuns_5 : decode cX9_countRuns 5 = .ok (.ifCond .ne 7, 3) := by decide +kernel
theorem dX9_countRuns_8 : decode cX9_countRuns 8 = .ok (.iconst 0, 1) := by decide +kernel
theorem dX9_countRuns_9 : decode cX9_countRuns 9 = .ok (.goto 4, 3) := by decide +kernel
theorem dX9_countRuns_12 : decode cX9_countRuns 12 = .ok (.iconst 1, 1) := by decide +kernel
theorem dX9_countRuns_13 : decode cX9_countRuns 13 = .ok (.putfield 56, 3) := by decide +kernel
theorem dX9_countRuns_16 : decode cX9_countRuns 16 = .ok (.aload_n 0, 1) := by decide +kernel
theorem dX9_countRuns_17 : decode cX9_countRuns 17 = .ok (.lconst 0, 1) := by decide +kernel
theorem dX9_countRuns_18 : decode cX9_countRuns 18 = .ok (.putfield 59, 3) := by decide +kernel
theorem dX9_countRuns_21 : decode cX9_countRuns 21 = .ok (.iconst 1, 1) := by decide +kernel
theorem dX9_countRuns_22 : decode cX9_countRuns 22 = .ok (.istore_n 3, 1) := by decide +kernel
theorem dX9_countRuns_23 : decode cX9_countRuns 23 = .ok (.iload_n 3, 1) := by decide +kernel
theorem dX9_countRuns_24 : decode cX9_countRuns 24 = .ok (.aload_n 0, 1) := by decide +kernel
theorem dX9_countRuns_25 : decode cX9_countRuns 25 = .ok (.getfield 15, 3) := by decide +kernel
theorem dX9_countRuns_28 : decode cX9_countRuns 28 = .ok (.if_icmp .ge 92, 3) := by decide +kernel
theorem dX9_countRuns_31 : decode cX9_countRuns 31 = .ok (.aload_n 1, 1) := by decide +kernel
theorem dX9_countRuns_32 : decode cX9_countRuns 32 = .ok (.aload_n 2, 1) := by decide +kernel
theorem dX9_countRuns_33 : decode cX9_countRuns 33 = .ok (.iload_n 3, 1) := by decide +kernel
theorem dX9_countRuns_34 : decode cX9_countRuns 34 = .ok (.iconst 1, 1) := by decide +kernel
theorem dX9_countRuns_35 : decode cX9_countRuns 35 = .ok (.isub, 1) := by decide +kernel
theorem dX9_countRuns_36 : decode cX9_countRuns 36 = .ok (.iaload, 1) := by decide +kernel
theorem dX9_countRuns_37 : decode cX9_countRuns 37 = .ok (.aload_n 2, 1) := by decide +kernel
theorem dX9_countRuns_38 : decode cX9_countRuns 38 = .ok (.iload_n 3, 1) := by decide +kernel
theorem dX9_countRuns_39 : decode cX9_countRuns 39 = .ok (.iaload, 1) := by decide +kernel
theorem dX9_countRuns_40 : decode cX9_countRuns 40 = .ok (.invokevirtual 52, 3) := by decide +kernel
theorem dX9_countRuns_43 : decode cX9_countRuns 43 = .ok (.ifCond .ne 13, 3) := by decide +kernel
theorem dX9_countRuns_46 : decode cX9_countRuns 46 = .ok (.aload_n 0, 1) := by decide +kernel
theorem dX9_countRuns_47 : decode cX9_countRuns 47 = .ok (.dup, 1) := by decide +kernel
theorem dX9_countRuns_48 : decode cX9_countRuns 48 = .ok (.getfield 56, 3) := by decide +kernel
theorem dX9_countRuns_51 : decode cX9_countRuns 51 = .ok (.iconst 1, 1) := by decide +kernel
theorem dX9_countRuns_52 : decode cX9_countRuns 52 = .ok (.iadd, 1) := by decide +kernel
theorem dX9_countRuns_53 : decode cX9_countRuns 53 = .ok (.putfield 56, 3) := by decide +kernel
theorem dX9_countRuns_56 : decode cX9_countRuns 56 = .ok (.aload_n 1, 1) := by decide +kernel
theorem dX9_countRuns_57 : decode cX9_countRuns 57 = .ok (.getfield 29, 3) := by decide +kernel
theorem dX9_countRuns_60 : decode cX9_countRuns 60 = .ok (.aload_n 2, 1) := by decide +kernel
theorem dX9_countRuns_61 : decode cX9_countRuns 61 = .ok (.iload_n 3, 1) := by decide +kernel
theorem dX9_countRuns_62 : decode cX9_countRuns 62 = .ok (.iaload, 1) := by decide +kernel
theorem dX9_countRuns_63 : decode cX9_countRuns 63 = .ok (.iaload, 1) := by decide +kernel
theorem dX9_countRuns_64 : decode cX9_countRuns 64 = .ok (.i2l, 1) := by decide +kernel
theorem dX9_countRuns_65 : decode cX9_countRuns 65 = .ok (.aload_n 1, 1) := by decide +kernel
theorem dX9_countRuns_66 : decode cX9_countRuns 66 = .ok (.getfield 29, 3) := by decide +kernel
theorem dX9_countRuns_69 : decode cX9_countRuns 69 = .ok (.aload_n 2, 1) := by decide +kernel
end
section
theorem dX9_countRuns_70 : decode cX9_countRuns 70 = .ok (.iload_n 3, 1) := by decide +kernel
theorem dX9_countRuns_71 : decode cX9_countRuns 71 = .ok (.iconst 1, 1) := by decide +kernel
theorem dX9_countRuns_72 : decode cX9_countRuns 72 = .ok (.isub, 1) := by decide +kernel
theorem dX9_countRuns_73 : decode cX9_countRuns 73 = .ok (.iaload, 1) := by decide +kernel
theorem dX9_countRuns_74 : decode cX9_countRuns 74 = .ok (.iaload, 1) := by decide +kernel
theorem dX9_countRuns_75 : decode cX9_countRuns 75 = .ok (.i2l, 1) := by decide +kernel
theorem dX9_countRuns_76 : decode cX9_countRuns 76 = .ok (.lsub, 1) := by decide +kernel
theorem dX9_countRuns_77 : decode cX9_countRuns 77 = .ok (.lstore 4, 2) := by decide +kernel
theorem dX9_countRuns_79 : decode cX9_countRuns 79 = .ok (.aload_n 0, 1) := by decide +kernel
theorem dX9_countRuns_80 : decode cX9_countRuns 80 = .ok (.aload_n 0, 1) := by decide +kernel
theorem dX9_countRuns_81 : decode cX9_countRuns 81 = .ok (.getfield 59, 3) := by decide +kernel
theorem dX9_countRuns_84 : decode cX9_countRuns 84 = .ok (.lload 4, 2) := by decide +kernel
theorem dX9_countRuns_86 : decode cX9_countRuns 86 = .ok (.lconst 0, 1) := by decide +kernel
theorem dX9_countRuns_87 : decode cX9_countRuns 87 = .ok (.lcmp, 1) := by decide +kernel
theorem dX9_countRuns_88 : decode cX9_countRuns 88 = .ok (.ifCond .le 14, 3) := by decide +kernel
theorem dX9_countRuns_91 : decode cX9_countRuns 91 = .ok (.ldc2_w 63, 3) := by decide +kernel
theorem dX9_countRuns_94 : decode cX9_countRuns 94 = .ok (.lload 4, 2) := by decide +kernel
theorem dX9_countRuns_96 : decode cX9_countRuns 96 = .ok (.lmul, 1) := by decide +kernel
theorem dX9_countRuns_97 : decode cX9_countRuns 97 = .ok (.lconst 1, 1) := by decide +kernel
theorem dX9_countRuns_98 : decode cX9_countRuns 98 = .ok (.lsub, 1) := by decide +kernel
theorem dX9_countRuns_99 : decode cX9_countRuns 99 = .ok (.goto 9, 3) := by decide +kernel
theorem dX9_countRuns_102 : decode cX9_countRuns 102 = .ok (.ldc2_w 65, 3) := by decide +kernel
theorem dX9_countRuns_105 : decode cX9_countRuns 105 = .ok (.lload 4, 2) := by decide +kernel
theorem dX9_countRuns_107 : decode cX9_countRuns 107 = .ok (.lmul, 1) := by decide +kernel
theorem dX9_countRuns_108 : decode cX9_countRuns 108 = .ok (.invokestatic 67, 3) := by decide +kernel
theorem dX9_countRuns_111 : decode cX9_countRuns 111 = .ok (.putfield 59, 3) := by decide +kernel
theorem dX9_countRuns_114 : decode cX9_countRuns 114 = .ok (.iinc 3 1, 3) := by decide +kernel
theorem dX9_countRuns_117 : decode cX9_countRuns 117 = .ok (.goto (-94), 3) := by decide +kernel
theorem dX9_countRuns_120 : decode cX9_countRuns 120 = .ok (.return_, 1) := by decide +kernel
theorem dX9_bytesIn_0 : decode cX9_bytesIn 0 = .ok (.iload_n 1, 1) := by decide +kernel
theorem dX9_bytesIn_1 : decode cX9_bytesIn 1 = .ok (.tableswitch 168 0 4 #[35, 61, 99, 107, 136], 35) := by decide +kernel
theorem dX9_bytesIn_36 : decode cX9_bytesIn 36 = .ok (.iconst 4, 1) := by decide +kernel
theorem dX9_bytesIn_37 : decode cX9_bytesIn 37 = .ok (.aload_n 0, 1) := by decide +kernel
theorem dX9_bytesIn_38 : decode cX9_bytesIn 38 = .ok (.getfield 15, 3) := by decide +kernel
theorem dX9_bytesIn_41 : decode cX9_bytesIn 41 = .ok (.imul, 1) := by decide +kernel
theorem dX9_bytesIn_42 : decode cX9_bytesIn 42 = .ok (.aload_n 0, 1) := by decide +kernel
theorem dX9_bytesIn_43 : decode cX9_bytesIn 43 = .ok (.getfield 26, 3) := by decide +kernel
theorem dX9_bytesIn_46 : decode cX9_bytesIn 46 = .ok (.ifCond .ne 7, 3) := by decide +kernel
theorem dX9_bytesIn_49 : decode cX9_bytesIn 49 = .ok (.iconst 0, 1) := by decide +kernel
theorem dX9_bytesIn_50 : decode cX9_bytesIn 50 = .ok (.goto 10, 3) := by decide +kernel
theorem dX9_bytesIn_53 : decode cX9_bytesIn 53 = .ok (.aload_n 0, 1) := by decide +kernel
theorem dX9_bytesIn_54 : decode cX9_bytesIn 54 = .ok (.getfield 15, 3) := by decide +kernel
theorem dX9_bytesIn_57 : decode cX9_bytesIn 57 = .ok (.invokestatic 73, 3) := by decide +kernel
theorem dX9_bytesIn_60 : decode cX9_bytesIn 60 = .ok (.iadd, 1) := by decide +kernel
theorem dX9_bytesIn_61 : decode cX9_bytesIn 61 = .ok (.ireturn, 1) := by decide +kernel
theorem dX9_bytesIn_62 : decode cX9_bytesIn 62 = .ok (.aload_n 0, 1) := by decide +kernel
theorem dX9_bytesIn_63 : decode cX9_bytesIn 63 = .ok (.getfield 45, 3) := by decide +kernel
theorem dX9_bytesIn_66 : decode cX9_bytesIn 66 = .ok (.ifCond .ne 7, 3) := by decide +kernel
theorem dX9_bytesIn_69 : decode cX9_bytesIn 69 = .ok (.iconst (-1), 1) := by decide +kernel
theorem dX9_bytesIn_70 : decode cX9_bytesIn 70 = .ok (.goto 29, 3) := by decide +kernel
theorem dX9_bytesIn_73 : decode cX9_bytesIn 73 = .ok (.bipush 9, 2) := by decide +kernel
theorem dX9_bytesIn_75 : decode cX9_bytesIn 75 = .ok (.aload_n 0, 1) := by decide +kernel
theorem dX9_bytesIn_76 : decode cX9_bytesIn 76 = .ok (.getfield 15, 3) := by decide +kernel
theorem dX9_bytesIn_79 : decode cX9_bytesIn 79 = .ok (.aload_n 0, 1) := by decide +kernel
theorem dX9_bytesIn_80 : decode cX9_bytesIn 80 = .ok (.aload_n 0, 1) := by decide +kernel
theorem dX9_bytesIn_81 : decode cX9_bytesIn 81 = .ok (.getfield 35, 3) := by decide +kernel
theorem dX9_bytesIn_84 : decode cX9_bytesIn 84 = .ok (.i2l, 1) := by decide +kernel
theorem dX9_bytesIn_85 : decode cX9_bytesIn 85 = .ok (.aload_n 0, 1) := by decide +kernel
theorem dX9_bytesIn_86 : decode cX9_bytesIn 86 = .ok (.getfield 32, 3) := by decide +kernel
theorem dX9_bytesIn_89 : decode cX9_bytesIn 89 = .ok (.i2l, 1) := by decide +kernel
theorem dX9_bytesIn_90 : decode cX9_bytesIn 90 = .ok (.lsub, 1) := by decide +kernel
theorem dX9_bytesIn_91 : decode cX9_bytesIn 91 = .ok (.invokevirtual 76, 3) := by decide +kernel
theorem dX9_bytesIn_94 : decode cX9_bytesIn 94 = .ok (.imul, 1) := by decide +kernel
theorem dX9_bytesIn_95 : decode cX9_bytesIn 95 = .ok (.invokestatic 73, 3) := by decide +kernel
theorem dX9_bytesIn_98 : decode cX9_bytesIn 98 = .ok (.iadd, 1) := by decide +kernel
theorem dX9_bytesIn_99 : decode cX9_bytesIn 99 = .ok (.ireturn, 1) := by decide +kernel
theorem dX9_bytesIn_100 : decode cX9_bytesIn 100 = .ok (.bipush 6, 2) := by decide +kernel
theorem dX9_bytesIn_102 : decode cX9_bytesIn 102 = .ok (.aload_n 0, 1) := by decide +kernel
theorem dX9_bytesIn_103 : decode cX9_bytesIn 103 = .ok (.getfield 56, 3) := by decide +kernel
theorem dX9_bytesIn_106 : decode cX9_bytesIn 106 = .ok (.imul, 1) := by decide +kernel
theorem dX9_bytesIn_107 : decode cX9_bytesIn 107 = .ok (.ireturn, 1) := by decide +kernel
theorem dX9_bytesIn_108 : decode cX9_bytesIn 108 = .ok (.iconst 2, 1) := by decide +kernel
theorem dX9_bytesIn_109 : decode cX9_bytesIn 109 = .ok (.iconst 4, 1) := by decide +kernel
theorem dX9_bytesIn_110 : decode cX9_bytesIn 110 = .ok (.aload_n 0, 1) := by decide +kernel
theorem dX9_bytesIn_111 : decode cX9_bytesIn 111 = .ok (.getfield 45, 3) := by decide +kernel
theorem dX9_bytesIn_114 : decode cX9_bytesIn 114 = .ok (.imul, 1) := by decide +kernel
theorem dX9_bytesIn_115 : decode cX9_bytesIn 115 = .ok (.iadd, 1) := by decide +kernel
theorem dX9_bytesIn_116 : decode cX9_bytesIn 116 = .ok (.aload_n 0, 1) := by decide +kernel
theorem dX9_bytesIn_117 : decode cX9_bytesIn 117 = .ok (.getfield 15, 3) := by decide +kernel
theorem dX9_bytesIn_120 : decode cX9_bytesIn 120 = .ok (.aload_n 0, 1) := by decide +kernel
theorem dX9_bytesIn_121 : decode cX9_bytesIn 121 = .ok (.aload_n 0, 1) := by decide +kernel
theorem dX9_bytesIn_122 : decode cX9_bytesIn 122 = .ok (.getfield 45, 3) := by decide +kernel
theorem dX9_bytesIn_125 : decode cX9_bytesIn 125 = .ok (.iconst 1, 1) := by decide +kernel
theorem dX9_bytesIn_126 : decode cX9_bytesIn 126 = .ok (.isub, 1) := by decide +kernel
theorem dX9_bytesIn_127 : decode cX9_bytesIn 127 = .ok (.i2l, 1) := by decide +kernel
theorem dX9_bytesIn_128 : decode cX9_bytesIn 128 = .ok (.invokevirtual 76, 3) := by decide +kernel
theorem dX9_bytesIn_131 : decode cX9_bytesIn 131 = .ok (.imul, 1) := by decide +kernel
theorem dX9_bytesIn_132 : decode cX9_bytesIn 132 = .ok (.invokestatic 73, 3) := by decide +kernel
theorem dX9_bytesIn_135 : decode cX9_bytesIn 135 = .ok (.iadd, 1) := by decide +kernel
theorem dX9_bytesIn_136 : decode cX9_bytesIn 136 = .ok (.ireturn, 1) := by decide +kernel
theorem dX9_bytesIn_137 : decode cX9_bytesIn 137 = .ok (.aload_n 0, 1) := by decide +kernel
theorem dX9_bytesIn_138 : decode cX9_bytesIn 138 = .ok (.getfield 26, 3) := by decide +kernel
theorem dX9_bytesIn_141 : decode cX9_bytesIn 141 = .ok (.ifCond .eq 7, 3) := by decide +kernel
theorem dX9_bytesIn_144 : decode cX9_bytesIn 144 = .ok (.iconst (-1), 1) := by decide +kernel
theorem dX9_bytesIn_145 : decode cX9_bytesIn 145 = .ok (.goto 23, 3) := by decide +kernel
theorem dX9_bytesIn_148 : decode cX9_bytesIn 148 = .ok (.bipush 9, 2) := by decide +kernel
theorem dX9_bytesIn_150 : decode cX9_bytesIn 150 = .ok (.aload_n 0, 1) := by decide +kernel
theorem dX9_bytesIn_151 : decode cX9_bytesIn 151 = .ok (.getfield 15, 3) := by decide +kernel
theorem dX9_bytesIn_154 : decode cX9_bytesIn 154 = .ok (.iconst 1, 1) := by decide +kernel
theorem dX9_bytesIn_155 : decode cX9_bytesIn 155 = .ok (.isub, 1) := by decide +kernel
theorem dX9_bytesIn_156 : decode cX9_bytesIn 156 = .ok (.aload_n 0, 1) := by decide +kernel
theorem dX9_bytesIn_157 : decode cX9_bytesIn 157 = .ok (.getfield 59, 3) := by decide +kernel
theorem dX9_bytesIn_160 : decode cX9_bytesIn 160 = .ok (.invokestatic 80, 3) := by decide +kernel
theorem dX9_bytesIn_163 : decode cX9_bytesIn 163 = .ok (.imul, 1) := by decide +kernel
theorem dX9_bytesIn_164 : decode cX9_bytesIn 164 = .ok (.invokestatic 73, 3) := by decide +kernel
theorem dX9_bytesIn_167 : decode cX9_bytesIn 167 = .ok (.iadd, 1) := by decide +kernel
theorem dX9_bytesIn_168 : decode cX9_bytesIn 168 = .ok (.ireturn, 1) := by decide +kernel
theorem dX9_bytesIn_169 : decode cX9_bytesIn 169 = .ok (.iconst (-1), 1) := by decide +kernel
theorem dX9_bytesIn_170 : decode cX9_bytesIn 170 = .ok (.ireturn, 1) := by decide +kernel
theorem dX9_widthFor_0 : decode cX9_widthFor 0 = .ok (.aload_n 0, 1) := by decide +kernel
theorem dX9_widthFor_1 : decode cX9_widthFor 1 = .ok (.getfield 26, 3) := by decide +kernel
theorem dX9_widthFor_4 : decode cX9_widthFor 4 = .ok (.ifCond .ne 7, 3) := by decide +kernel
theorem dX9_widthFor_7 : decode cX9_widthFor 7 = .ok (.lload_n 1, 1) := by decide +kernel
theorem dX9_widthFor_8 : decode cX9_widthFor 8 = .ok (.goto 6, 3) := by decide +kernel
theorem dX9_widthFor_11 : decode cX9_widthFor 11 = .ok (.lload_n 1, 1) := by decide +kernel
theorem dX9_widthFor_12 : decode cX9_widthFor 12 = .ok (.lconst 1, 1) := by decide +kernel
theorem dX9_widthFor_13 : decode cX9_widthFor 13 = .ok (.ladd, 1) := by decide +kernel
theorem dX9_widthFor_14 : decode cX9_widthFor 14 = .ok (.invokestatic 80, 3) := by decide +kernel
theorem dX9_widthFor_17 : decode cX9_widthFor 17 = .ok (.ireturn, 1) := by decide +kernel
theorem dX9_bytesFor_0 : decode cX9_bytesFor 0 = .ok (.iload_n 0, 1) := by decide +kernel
theorem dX9_bytesFor_1 : decode cX9_bytesFor 1 = .ok (.bipush 7, 2) := by decide +kernel
theorem dX9_bytesFor_3 : decode cX9_bytesFor 3 = .ok (.iadd, 1) := by decide +kernel
theorem dX9_bytesFor_4 : decode cX9_bytesFor 4 = .ok (.bipush 8, 2) := by decide +kernel
theorem dX9_bytesFor_6 : decode cX9_bytesFor 6 = .ok (.idiv, 1) := by decide +kernel
theorem dX9_bytesFor_7 : decode cX9_bytesFor 7 = .ok (.ireturn, 1) := by decide +kernel
theorem dX9_bits_0 : decode cX9_bits 0 = .ok (.iconst 0, 1) := by decide +kernel
theorem dX9_bits_1 : decode cX9_bits 1 = .ok (.istore_n 2, 1) := by decide +kernel
theorem dX9_bits_2 : decode cX9_bits 2 = .ok (.iload_n 2, 1) := by decide +kernel
theorem dX9_bits_3 : decode cX9_bits 3 = .ok (.bipush 62, 2) := by decide +kernel
theorem dX9_bits_5 : decode cX9_bits 5 = .ok (.if_icmp .ge 17, 3) := by decide +kernel
theorem dX9_bits_8 : decode cX9_bits 8 = .ok (.lload_n 0, 1) := by decide +kernel
theorem dX9_bits_9 : decode cX9_bits 9 = .ok (.iload_n 2, 1) := by decide +kernel
theorem dX9_bits_10 : decode cX9_bits 10 = .ok (.lshr, 1) := by decide +kernel
theorem dX9_bits_11 : decode cX9_bits 11 = .ok (.lconst 0, 1) := by decide +kernel
theorem dX9_bits_12 : decode cX9_bits 12 = .ok (.lcmp, 1) := by decide +kernel
theorem dX9_bits_13 : decode cX9_bits 13 = .ok (.ifCond .le 9, 3) := by decide +kernel
theorem dX9_bits_16 : decode cX9_bits 16 = .ok (.iinc 2 1, 3) := by decide +kernel
theorem dX9_bits_19 : decode cX9_bits 19 = .ok (.goto (-17), 3) := by decide +kernel
theorem dX9_bits_22 : decode cX9_bits 22 = .ok (.iload_n 2, 1) := by decide +kernel
theorem dX9_bits_23 : decode cX9_bits 23 = .ok (.ireturn, 1) := by decide +kernel
theorem dX9_hasBitmaps_0 : decode cX9_hasBitmaps 0 = .ok (.aload_n 0, 1) := by decide +kernel
theorem dX9_hasBitmaps_1 : decode cX9_hasBitmaps 1 = .ok (.getfield 45, 3) := by decide +kernel
theorem dX9_hasBitmaps_4 : decode cX9_hasBitmaps 4 = .ok (.iconst 1, 1) := by decide +kernel
theorem dX9_hasBitmaps_5 : decode cX9_hasBitmaps 5 = .ok (.if_icmp .lt 16, 3) := by decide +kernel
theorem dX9_hasBitmaps_8 : decode cX9_hasBitmaps 8 = .ok (.aload_n 0, 1) := by decide +kernel
theorem dX9_hasBitmaps_9 : decode cX9_hasBitmaps 9 = .ok (.getfield 45, 3) := by decide +kernel
theorem dX9_hasBitmaps_12 : decode cX9_hasBitmaps 12 = .ok (.bipush 16, 2) := by decide +kernel
theorem dX9_hasBitmaps_14 : decode cX9_hasBitmaps 14 = .ok (.if_icmp .gt 7, 3) := by decide +kernel
theorem dX9_hasBitmaps_17 : decode cX9_hasBitmaps 17 = .ok (.iconst 1, 1) := by decide +kernel
theorem dX9_hasBitmaps_18 : decode cX9_hasBitmaps 18 = .ok (.goto 4, 3) := by decide +kernel
theorem dX9_hasBitmaps_21 : decode cX9_hasBitmaps 21 = .ok (.iconst 0, 1) := by decide +kernel
theorem dX9_hasBitmaps_22 : decode cX9_hasBitmaps 22 = .ok (.ireturn, 1) := by decide +kernel
theorem dX9_bytesOfBitmaps_0 : decode cX9_bytesOfBitmaps 0 = .ok (.aload_n 0, 1) := by decide +kernel
theorem dX9_bytesOfBitmaps_1 : decode cX9_bytesOfBitmaps 1 = .ok (.invokevirtual 83, 3) := by decide +kernel
theorem dX9_bytesOfBitmaps_4 : decode cX9_bytesOfBitmaps 4 = .ok (.ifCond .eq 18, 3) := by decide +kernel
theorem dX9_bytesOfBitmaps_7 : decode cX9_bytesOfBitmaps 7 = .ok (.aload_n 0, 1) := by decide +kernel
theorem dX9_bytesOfBitmaps_8 : decode cX9_bytesOfBitmaps 8 = .ok (.getfield 45, 3) := by decide +kernel
theorem dX9_bytesOfBitmaps_11 : decode cX9_bytesOfBitmaps 11 = .ok (.aload_n 0, 1) := by decide +kernel
theorem dX9_bytesOfBitmaps_12 : decode cX9_bytesOfBitmaps 12 = .ok (.getfield 15, 3) := by decide +kernel
theorem dX9_bytesOfBitmaps_15 : decode cX9_bytesOfBitmaps 15 = .ok (.invokestatic 73, 3) := by decide +kernel
theorem dX9_bytesOfBitmaps_18 : decode cX9_bytesOfBitmaps 18 = .ok (.imul, 1) := by decide +kernel
theorem dX9_bytesOfBitmaps_19 : decode cX9_bytesOfBitmaps 19 = .ok (.goto 4, 3) := by decide +kernel
theorem dX9_bytesOfBitmaps_22 : decode cX9_bytesOfBitmaps 22 = .ok (.iconst 0, 1) := by decide +kernel
theorem dX9_bytesOfBitmaps_23 : decode cX9_bytesOfBitmaps 23 = .ok (.ireturn, 1) := by decide +kernel
theorem dX9_bitmapsFor_0 : decode cX9_bitmapsFor 0 = .ok (.iconst 0, 1) := by decide +kernel
theorem dX9_bitmapsFor_1 : decode cX9_bitmapsFor 1 = .ok (.istore_n 2, 1) := by decide +kernel
theorem dX9_bitmapsFor_2 : decode cX9_bitmapsFor 2 = .ok (.iconst 0, 1) := by decide +kernel
theorem dX9_bitmapsFor_3 : decode cX9_bitmapsFor 3 = .ok (.istore_n 3, 1) := by decide +kernel
theorem dX9_bitmapsFor_4 : decode cX9_bitmapsFor 4 = .ok (.iload_n 3, 1) := by decide +kernel
theorem dX9_bitmapsFor_5 : decode cX9_bitmapsFor 5 = .ok (.aload_n 0, 1) := by decide +kernel
theorem dX9_bitmapsFor_6 : decode cX9_bitmapsFor 6 = .ok (.getfield 45, 3) := by decide +kernel
theorem dX9_bitmapsFor_9 : decode cX9_bitmapsFor 9 = .ok (.if_icmp .ge 32, 3) := by decide +kernel
theorem dX9_bitmapsFor_12 : decode cX9_bitmapsFor 12 = .ok (.iload_n 3, 1) := by decide +kernel
theorem dX9_bitmapsFor_13 : decode cX9_bitmapsFor 13 = .ok (.bipush 16, 2) := by decide +kernel
theorem dX9_bitmapsFor_15 : decode cX9_bitmapsFor 15 = .ok (.if_icmp .ge 26, 3) := by decide +kernel
theorem dX9_bitmapsFor_18 : decode cX9_bitmapsFor 18 = .ok (.aload_n 1, 1) := by decide +kernel
theorem dX9_bitmapsFor_19 : decode cX9_bitmapsFor 19 = .ok (.iconst 0, 1) := by decide +kernel
theorem dX9_bitmapsFor_20 : decode cX9_bitmapsFor 20 = .ok (.aload_n 0, 1) := by decide +kernel
theorem dX9_bitmapsFor_21 : decode cX9_bitmapsFor 21 = .ok (.getfield 9, 3) := by decide +kernel
theorem dX9_bitmapsFor_24 : decode cX9_bitmapsFor 24 = .ok (.iload_n 3, 1) := by decide +kernel
theorem dX9_bitmapsFor_25 : decode cX9_bitmapsFor 25 = .ok (.iaload, 1) := by decide +kernel
theorem dX9_bitmapsFor_26 : decode cX9_bitmapsFor 26 = .ok (.invokevirtual 87, 3) := by decide +kernel
theorem dX9_bitmapsFor_29 : decode cX9_bitmapsFor 29 = .ok (.ifCond .eq 6, 3) := by decide +kernel
theorem dX9_bitmapsFor_32 : decode cX9_bitmapsFor 32 = .ok (.iinc 2 1, 3) := by decide +kernel
theorem dX9_bitmapsFor_35 : decode cX9_bitmapsFor 35 = .ok (.iinc 3 1, 3) := by decide +kernel
theorem dX9_bitmapsFor_38 : decode cX9_bitmapsFor 38 = .ok (.goto (-34), 3) := by decide +kernel
theorem dX9_bitmapsFor_41 : decode cX9_bitmapsFor 41 = .ok (.iload_n 2, 1) := by decide +kernel
theorem dX9_bitmapsFor_42 : decode cX9_bitmapsFor 42 = .ok (.ireturn, 1) := by decide +kernel
theorem dX10_init_0 : decode cX10_init 0 = .ok (.aload_n 0, 1) := by decide +kernel
theorem dX10_init_1 : decode cX10_init 1 = .ok (.invokespecial 1, 3) := by decide +kernel
theorem dX10_init_4 : decode cX10_init 4 = .ok (.aload_n 0, 1) := by decide +kernel
theorem dX10_init_5 : decode cX10_init 5 = .ok (.new 7, 3) := by decide +kernel
theorem dX10_init_8 : decode cX10_init 8 = .ok (.dup, 1) := by decide +kernel
theorem dX10_init_9 : decode cX10_init 9 = .ok (.invokespecial 9, 3) := by decide +kernel
theorem dX10_init_12 : decode cX10_init 12 = .ok (.putfield 10, 3) := by decide +kernel
theorem dX10_init_15 : decode cX10_init 15 = .ok (.aload_n 0, 1) := by decide +kernel
theorem dX10_init_16 : decode cX10_init 16 = .ok (.new 16, 3) := by decide +kernel
theorem dX10_init_19 : decode cX10_init 19 = .ok (.dup, 1) := by decide +kernel
theorem dX10_init_20 : decode cX10_init 20 = .ok (.invokespecial 18, 3) := by decide +kernel
theorem dX10_init_23 : decode cX10_init 23 = .ok (.putfield 19, 3) := by decide +kernel
theorem dX10_init_26 : decode cX10_init 26 = .ok (.aload_n 0, 1) := by decide +kernel
theorem dX10_init_27 : decode cX10_init 27 = .ok (.new 23, 3) := by decide +kernel
theorem dX10_init_30 : decode cX10_init 30 = .ok (.dup, 1) := by decide +kernel
theorem dX10_init_31 : decode cX10_init 31 = .ok (.invokespecial 25, 3) := by decide +kernel
theorem dX10_init_34 : decode cX10_init 34 = .ok (.putfield 26, 3) := by decide +kernel
theorem dX10_init_37 : decode cX10_init 37 = .ok (.aload_n 0, 1) := by decide +kernel
theorem dX10_init_38 : decode cX10_init 38 = .ok (.new 30, 3) := by decide +kernel
theorem dX10_init_41 : decode cX10_init 41 = .ok (.dup, 1) := by decide +kernel
theorem dX10_init_42 : decode cX10_init 42 = .ok (.invokespecial 32, 3) := by decide +kernel
theorem dX10_init_45 : decode cX10_init 45 = .ok (.putfield 33, 3) := by decide +kernel
theorem dX10_init_48 : decode cX10_init 48 = .ok (.return_, 1) := by decide +kernel
theorem dX10_addColumn_0 : decode cX10_addColumn 0 = .ok (.aload_n 0, 1) := by decide +kernel
theorem dX10_addColumn_1 : decode cX10_addColumn 1 = .ok (.getfield 10, 3) := by decide +kernel
theorem dX10_addColumn_4 : decode cX10_addColumn 4 = .ok (.getfield 37, 3) := by decide +kernel
theorem dX10_addColumn_7 : decode cX10_addColumn 7 = .ok (.invokevirtual 41, 3) := by decide +kernel
theorem dX10_addColumn_10 : decode cX10_addColumn 10 = .ok (.bipush 8, 2) := by decide +kernel
theorem dX10_addColumn_12 : decode cX10_addColumn 12 = .ok (.if_icmp .lt 13, 3) := by decide +kernel
theorem dX10_addColumn_15 : decode cX10_addColumn 15 = .ok (.new 47, 3) := by decide +kernel
theorem dX10_addColumn_18 : decode cX10_addColumn 18 = .ok (.dup, 1) := by decide +kernel
theorem dX10_addColumn_19 : decode cX10_addColumn 19 = .ok (.ldc 49, 2) := by decide +kernel
theorem dX10_addColumn_21 : decode cX10_addColumn 21 = .ok (.invokespecial 51, 3) := by decide +kernel
theorem dX10_addColumn_24 : decode cX10_addColumn 24 = .ok (.athrow, 1) := by decide +kernel
theorem dX10_addColumn_25 : decode cX10_addColumn 25 = .ok (.aload_n 0, 1) := by decide +kernel
theorem dX10_addColumn_26 : decode cX10_addColumn 26 = .ok (.getfield 10, 3) := by decide +kernel
theorem dX10_addColumn_29 : decode cX10_addColumn 29 = .ok (.getfield 54, 3) := by decide +kernel
theorem dX10_addColumn_32 : decode cX10_addColumn 32 = .ok (.ifCond .le 13, 3) := by decide +kernel
theorem dX10_addColumn_35 : decode cX10_addColumn 35 = .ok (.new 47, 3) := by decide +kernel
theorem dX10_addColumn_38 : decode cX10_addColumn 38 = .ok (.dup, 1) := by decide +kernel
theorem dX10_addColumn_39 : decode cX10_addColumn 39 = .ok (.ldc 58, 2) := by decide +kernel
theorem dX10_addColumn_41 : decode cX10_addColumn 41 = .ok (.invokespecial 51, 3) := by decide +kernel
theorem dX10_addColumn_44 : decode cX10_addColumn 44 = .ok (.athrow, 1) := by decide +kernel
theorem dX10_addColumn_45 : decode cX10_addColumn 45 = .ok (.aload_n 0, 1) := by decide +kernel
theorem dX10_addColumn_46 : decode cX10_addColumn 46 = .ok (.getfield 10, 3) := by decide +kernel
theorem dX10_addColumn_49 : decode cX10_addColumn 49 = .ok (.getfield 37, 3) := by decide +kernel
theorem dX10_addColumn_52 : decode cX10_addColumn 52 = .ok (.new 60, 3) := by decide +kernel
theorem dX10_addColumn_55 : decode cX10_addColumn 55 = .ok (.dup, 1) := by decide +kernel
theorem dX10_addColumn_56 : decode cX10_addColumn 56 = .ok (.invokespecial 62, 3) := by decide +kernel
theorem dX10_addColumn_59 : decode cX10_addColumn 59 = .ok (.invokevirtual 63, 3) := by decide +kernel
theorem dX10_addColumn_62 : decode cX10_addColumn 62 = .ok (.pop, 1) := by decide +kernel
theorem dX10_addColumn_63 : decode cX10_addColumn 63 = .ok (.aload_n 0, 1) := by decide +kernel
theorem dX10_addColumn_64 : decode cX10_addColumn 64 = .ok (.getfield 10, 3) := by decide +kernel
theorem dX10_addColumn_67 : decode cX10_addColumn 67 = .ok (.getfield 37, 3) := by decide +kernel
theorem dX10_addColumn_70 : decode cX10_addColumn 70 = .ok (.invokevirtual 41, 3) := by decide +kernel
theorem dX10_addColumn_73 : decode cX10_addColumn 73 = .ok (.iconst 1, 1) := by decide +kernel
theorem dX10_addColumn_74 : decode cX10_addColumn 74 = .ok (.isub, 1) := by decide +kernel
theorem dX10_addColumn_75 : decode cX10_addColumn 75 = .ok (.ireturn, 1) := by decide +kernel
theorem dX10_give_0 : decode cX10_give 0 = .ok (.aload_n 0, 1) := by decide +kernel
theorem dX10_give_1 : decode cX10_give 1 = .ok (.iload_n 1, 1) := by decide +kernel
theorem dX10_give_2 : decode cX10_give 2 = .ok (.invokevirtual 67, 3) := by decide +kernel
theorem dX10_give_5 : decode cX10_give 5 = .ok (.aload_n 0, 1) := by decide +kernel
theorem dX10_give_6 : decode cX10_give 6 = .ok (.getfield 10, 3) := by decide +kernel
theorem dX10_give_9 : decode cX10_give 9 = .ok (.getfield 37, 3) := by decide +kernel
theorem dX10_give_12 : decode cX10_give 12 = .ok (.iload_n 1, 1) := by decide +kernel
theorem dX10_give_13 : decode cX10_give 13 = .ok (.invokevirtual 71, 3) := by decide +kernel
theorem dX10_give_16 : decode cX10_give 16 = .ok (.checkcast 60, 3) := by decide +kernel
theorem dX10_give_19 : decode cX10_give 19 = .ok (.iload_n 2, 1) := by decide +kernel
theorem dX10_give_20 : decode cX10_give 20 = .ok (.invokevirtual 75, 3) := by decide +kernel
theorem dX10_give_23 : decode cX10_give 23 = .ok (.aload_n 0, 1) := by decide +kernel
theorem dX10_give_24 : decode cX10_give 24 = .ok (.getfield 10, 3) := by decide +kernel
theorem dX10_give_27 : decode cX10_give 27 = .ok (.invokevirtual 78, 3) := by decide +kernel
theorem dX10_give_30 : decode cX10_give 30 = .ok (.ireturn, 1) := by decide +kernel
theorem dX10_add_0 : decode cX10_add 0 = .ok (.aload_n 0, 1) := by decide +kernel
theorem dX10_add_1 : decode cX10_add 1 = .ok (.getfield 10, 3) := by decide +kernel
theorem dX10_add_4 : decode cX10_add 4 = .ok (.getfield 37, 3) := by decide +kernel
theorem dX10_add_7 : decode cX10_add 7 = .ok (.invokevirtual 81, 3) := by decide +kernel
theorem dX10_add_10 : decode cX10_add 10 = .ok (.ifCond .eq 13, 3) := by decide +kernel
theorem dX10_add_13 : decode cX10_add 13 = .ok (.new 47, 3) := by decide +kernel
theorem dX10_add_16 : decode cX10_add 16 = .ok (.dup, 1) := by decide +kernel
theorem dX10_add_17 : decode cX10_add 17 = .ok (.ldc 85, 2) := by decide +kernel
theorem dX10_add_19 : decode cX10_add 19 = .ok (.invokespecial 51, 3) := by decide +kernel
theorem dX10_add_22 : decode cX10_add 22 = .ok (.athrow, 1) := by decide +kernel
theorem dX10_add_23 : decode cX10_add 23 = .ok (.aload_n 0, 1) := by decide +kernel
theorem dX10_add_24 : decode cX10_add 24 = .ok (.invokevirtual 87, 3) := by decide +kernel
theorem dX10_add_27 : decode cX10_add 27 = .ok (.aload_n 0, 1) := by decide +kernel
theorem dX10_add_28 : decode cX10_add 28 = .ok (.getfield 10, 3) := by decide +kernel
theorem dX10_add_31 : decode cX10_add 31 = .ok (.invokevirtual 90, 3) := by decide +kernel
theorem dX10_add_34 : decode cX10_add 34 = .ok (.istore_n 1, 1) := by decide +kernel
theorem dX10_add_35 : decode cX10_add 35 = .ok (.aload_n 0, 1) := by decide +kernel
theorem dX10_add_36 : decode cX10_add 36 = .ok (.getfield 10, 3) := by decide +kernel
theorem dX10_add_39 : decode cX10_add 39 = .ok (.invokevirtual 93, 3) := by decide +kernel
theorem dX10_add_42 : decode cX10_add 42 = .ok (.iload_n 1, 1) := by decide +kernel
theorem dX10_add_43 : decode cX10_add 43 = .ok (.ireturn, 1) := by decide +kernel
theorem dX10_delete_0 : decode cX10_delete 0 = .ok (.aload_n 0, 1) := by decide +kernel
theorem dX10_delete_1 : decode cX10_delete 1 = .ok (.iload_n 1, 1) := by decide +kernel
theorem dX10_delete_2 : decode cX10_delete 2 = .ok (.invokevirtual 96, 3) := by decide +kernel
theorem dX10_delete_5 : decode cX10_delete 5 = .ok (.aload_n 0, 1) := by decide +kernel
theorem dX10_delete_6 : decode cX10_delete 6 = .ok (.getfield 10, 3) := by decide +kernel
theorem dX10_delete_9 : decode cX10_delete 9 = .ok (.iload_n 1, 1) := by decide +kernel
theorem dX10_delete_10 : decode cX10_delete 10 = .ok (.invokevirtual 99, 3) := by decide +kernel
theorem dX10_delete_13 : decode cX10_delete 13 = .ok (.ireturn, 1) := by decide +kernel
theorem dX10_change_0 : decode cX10_change 0 = .ok (.aload_n 0, 1) := by decide +kernel
theorem dX10_change_1 : decode cX10_change 1 = .ok (.iload_n 1, 1) := by decide +kernel
theorem dX10_change_2 : decode cX10_change 2 = .ok (.invokevirtual 96, 3) := by decide +kernel
theorem dX10_change_5 : decode cX10_change 5 = .ok (.aload_n 0, 1) := by decide +kernel
theorem dX10_change_6 : decode cX10_change 6 = .ok (.iload_n 2, 1) := by decide +kernel
theorem dX10_change_7 : decode cX10_change 7 = .ok (.invokevirtual 67, 3) := by decide +kernel
theorem dX10_change_10 : decode cX10_change 10 = .ok (.aload_n 0, 1) := by decide +kernel
theorem dX10_change_11 : decode cX10_change 11 = .ok (.getfield 10, 3) := by decide +kernel
theorem dX10_change_14 : decode cX10_change 14 = .ok (.getfield 103, 3) := by decide +kernel
theorem dX10_change_17 : decode cX10_change 17 = .ok (.iload_n 1, 1) := by decide +kernel
theorem dX10_change_18 : decode cX10_change 18 = .ok (.baload, 1) := by decide +kernel
theorem dX10_change_19 : decode cX10_change 19 = .ok (.ifCond .ne 13, 3) := by decide +kernel
theorem dX10_change_22 : decode cX10_change 22 = .ok (.new 47, 3) := by decide +kernel
theorem dX10_change_25 : decode cX10_change 25 = .ok (.dup, 1) := by decide +kernel
theorem dX10_change_26 : decode cX10_change 26 = .ok (.ldc 107, 2) := by decide +kernel
theorem dX10_change_28 : decode cX10_change 28 = .ok (.invokespecial 51, 3) := by decide +kernel
theorem dX10_change_31 : decode cX10_change 31 = .ok (.athrow, 1) := by decide +kernel
theorem dX10_change_32 : decode cX10_change 32 = .ok (.aload_n 0, 1) := by decide +kernel
theorem dX10_change_33 : decode cX10_change 33 = .ok (.invokevirtual 87, 3) := by decide +kernel
theorem dX10_change_36 : decode cX10_change 36 = .ok (.aload_n 0, 1) := by decide +kernel
theorem dX10_change_37 : decode cX10_change 37 = .ok (.getfield 10, 3) := by decide +kernel
theorem dX10_change_40 : decode cX10_change 40 = .ok (.iload_n 1, 1) := by decide +kernel
theorem dX10_change_41 : decode cX10_change 41 = .ok (.iload_n 2, 1) := by decide +kernel
theorem dX10_change_42 : decode cX10_change 42 = .ok (.iload_n 3, 1) := by decide +kernel
theorem dX10_change_43 : decode cX10_change 43 = .ok (.invokevirtual 109, 3) := by decide +kernel
theorem dX10_change_46 : decode cX10_change 46 = .ok (.istore 4, 2) := by decide +kernel
theorem dX10_change_48 : decode cX10_change 48 = .ok (.aload_n 0, 1) := by decide +kernel
theorem dX10_change_49 : decode cX10_change 49 = .ok (.getfield 10, 3) := by decide +kernel
theorem dX10_change_52 : decode cX10_change 52 = .ok (.invokevirtual 93, 3) := by decide +kernel
theorem dX10_change_55 : decode cX10_change 55 = .ok (.iload 4, 2) := by decide +kernel
theorem dX10_change_57 : decode cX10_change 57 = .ok (.ireturn, 1) := by decide +kernel
theorem dX10_setSize_0 : decode cX10_setSize 0 = .ok (.iload_n 1, 1) := by decide +kernel
theorem dX10_setSize_1 : decode cX10_setSize 1 = .ok (.iconst 4, 1) := by decide +kernel
theorem dX10_setSize_2 : decode cX10_setSize 2 = .ok (.if_icmp .lt 9, 3) := by decide +kernel
theorem dX10_setSize_5 : decode cX10_setSize 5 = .ok (.iload_n 1, 1) := by decide +kernel
theorem dX10_setSize_6 : decode cX10_setSize 6 = .ok (.bipush 64, 2) := by decide +kernel
theorem dX10_setSize_8 : decode cX10_setSize 8 = .ok (.if_icmp .le 13, 3) := by decide +kernel
theorem dX10_setSize_11 : decode cX10_setSize 11 = .ok (.new 113, 3) := by decide +kernel
theorem dX10_setSize_14 : decode cX10_setSize 14 = .ok (.dup, 1) := by decide +kernel
theorem dX10_setSize_15 : decode cX10_setSize 15 = .ok (.ldc 115, 2) := by decide +kernel
theorem dX10_setSize_17 : decode cX10_setSize 17 = .ok (.invokespecial 117, 3) := by decide +kernel
theorem dX10_setSize_20 : decode cX10_setSize 20 = .ok (.athrow, 1) := by decide +kernel
theorem dX10_setSize_21 : decode cX10_setSize 21 = .ok (.aload_n 0, 1) := by decide +kernel
theorem dX10_setSize_22 : decode cX10_setSize 22 = .ok (.getfield 10, 3) := by decide +kernel
theorem dX10_setSize_25 : decode cX10_setSize 25 = .ok (.getfield 118, 3) := by decide +kernel
theorem dX10_setSize_28 : decode cX10_setSize 28 = .ok (.istore_n 2, 1) := by decide +kernel
theorem dX10_setSize_29 : decode cX10_setSize 29 = .ok (.aload_n 0, 1) := by decide +kernel
theorem dX10_setSize_30 : decode cX10_setSize 30 = .ok (.getfield 10, 3) := by decide +kernel
theorem dX10_setSize_33 : decode cX10_setSize 33 = .ok (.iload_n 1, 1) := by decide +kernel
theorem dX10_setSize_34 : decode cX10_setSize 34 = .ok (.putfield 118, 3) := by decide +kernel
theorem dX10_setSize_37 : decode cX10_setSize 37 = .ok (.aload_n 0, 1) := by decide +kernel
theorem dX10_setSize_38 : decode cX10_setSize 38 = .ok (.getfield 10, 3) := by decide +kernel
theorem dX10_setSize_41 : decode cX10_setSize 41 = .ok (.invokevirtual 93, 3) := by decide +kernel
theorem dX10_setSize_44 : decode cX10_setSize 44 = .ok (.iload_n 2, 1) := by decide +kernel
theorem dX10_setSize_45 : decode cX10_setSize 45 = .ok (.ireturn, 1) := by decide +kernel
theorem dX10_seal_0 : decode cX10_seal 0 = .ok (.aload_n 0, 1) := by decide +kernel
theorem dX10_seal_1 : decode cX10_seal 1 = .ok (.getfield 10, 3) := by decide +kernel
theorem dX10_seal_4 : decode cX10_seal 4 = .ok (.getfield 120, 3) := by decide +kernel
theorem dX10_seal_7 : decode cX10_seal 7 = .ok (.getfield 124, 3) := by decide +kernel
theorem dX10_seal_10 : decode cX10_seal 10 = .ok (.ifCond .ne 13, 3) := by decide +kernel
theorem dX10_seal_13 : decode cX10_seal 13 = .ok (.new 47, 3) := by decide +kernel
theorem dX10_seal_16 : decode cX10_seal 16 = .ok (.dup, 1) := by decide +kernel
theorem dX10_seal_17 : decode cX10_seal 17 = .ok (.ldc 129, 2) := by decide +kernel
theorem dX10_seal_19 : decode cX10_seal 19 = .ok (.invokespecial 51, 3) := by decide +kernel
theorem dX10_seal_22 : decode cX10_seal 22 = .ok (.athrow, 1) := by decide +kernel
theorem dX10_seal_23 : decode cX10_seal 23 = .ok (.aload_n 0, 1) := by decide +kernel
theorem dX10_seal_24 : decode cX10_seal 24 = .ok (.getfield 10, 3) := by decide +kernel
theorem dX10_seal_27 : decode cX10_seal 27 = .ok (.invokevirtual 131, 3) := by decide +kernel
theorem dX10_seal_30 : decode cX10_seal 30 = .ok (.ireturn, 1) := by decide +kernel
theorem dX10_cluster_0 : decode cX10_cluster 0 = .ok (.aload_n 0, 1) := by decide +kernel
theorem dX10_cluster_1 : decode cX10_cluster 1 = .ok (.iload_n 1, 1) := by decide +kernel
theorem dX10_cluster_2 : decode cX10_cluster 2 = .ok (.invokevirtual 134, 3) := by decide +kernel
theorem dX10_cluster_5 : decode cX10_cluster 5 = .ok (.aload_n 0, 1) := by decide +kernel
theorem dX10_cluster_6 : decode cX10_cluster 6 = .ok (.iload_n 2, 1) := by decide +kernel
theorem dX10_cluster_7 : decode cX10_cluster 7 = .ok (.invokevirtual 67, 3) := by decide +kernel
theorem dX10_cluster_10 : decode cX10_cluster 10 = .ok (.aload_n 0, 1) := by decide +kernel
theorem dX10_cluster_11 : decode cX10_cluster 11 = .ok (.getfield 10, 3) := by decide +kernel
theorem dX10_cluster_14 : decode cX10_cluster 14 = .ok (.iload_n 1, 1) := by decide +kernel
theorem dX10_cluster_15 : decode cX10_cluster 15 = .ok (.iload_n 2, 1) := by decide +kernel
theorem dX10_cluster_16 : decode cX10_cluster 16 = .ok (.invokevirtual 137, 3) := by decide +kernel
theorem dX10_cluster_19 : decode cX10_cluster 19 = .ok (.ireturn, 1) := by decide +kernel
theorem dX10_merge_0 : decode cX10_merge 0 = .ok (.aload_n 0, 1) := by decide +kernel
theorem dX10_merge_1 : decode cX10_merge 1 = .ok (.iload_n 1, 1) := by decide +kernel
theorem dX10_merge_2 : decode cX10_merge 2 = .ok (.invokevirtual 134, 3) := by decide +kernel
theorem dX10_merge_5 : decode cX10_merge 5 = .ok (.iload_n 1, 1) := by decide +kernel
theorem dX10_merge_6 : decode cX10_merge 6 = .ok (.aload_n 0, 1) := by decide +kernel
theorem dX10_merge_7 : decode cX10_merge 7 = .ok (.getfield 10, 3) := by decide +kernel
theorem dX10_merge_10 : decode cX10_merge 10 = .ok (.getfield 141, 3) := by decide +kernel
theorem dX10_merge_13 : decode cX10_merge 13 = .ok (.invokevirtual 41, 3) := by decide +kernel
theorem dX10_merge_16 : decode cX10_merge 16 = .ok (.iconst 1, 1) := by decide +kernel
theorem dX10_merge_17 : decode cX10_merge 17 = .ok (.isub, 1) := by decide +kernel
theorem dX10_merge_18 : decode cX10_merge 18 = .ok (.if_icmp .lt 13, 3) := by decide +kernel
theorem dX10_merge_21 : decode cX10_merge 21 = .ok (.new 144, 3) := by decide +kernel
theorem dX10_merge_24 : decode cX10_merge 24 = .ok (.dup, 1) := by decide +kernel
theorem dX10_merge_25 : decode cX10_merge 25 = .ok (.ldc 146, 2) := by decide +kernel
theorem dX10_merge_27 : decode cX10_merge 27 = .ok (.invokespecial 148, 3) := by decide +kernel
theorem dX10_merge_30 : decode cX10_merge 30 = .ok (.athrow, 1) := by decide +kernel
theorem dX10_merge_31 : decode cX10_merge 31 = .ok (.aload_n 0, 1) := by decide +kernel
theorem dX10_merge_32 : decode cX10_merge 32 = .ok (.getfield 10, 3) := by decide +kernel
theorem dX10_merge_35 : decode cX10_merge 35 = .ok (.iload_n 1, 1) := by decide +kernel
theorem dX10_merge_36 : decode cX10_merge 36 = .ok (.invokevirtual 149, 3) := by decide +kernel
theorem dX10_merge_39 : decode cX10_merge 39 = .ok (.aload_n 0, 1) := by decide +kernel
theorem dX10_merge_40 : decode cX10_merge 40 = .ok (.getfield 10, 3) := by decide +kernel
theorem dX10_merge_43 : decode cX10_merge 43 = .ok (.iload_n 1, 1) := by decide +kernel
theorem dX10_merge_44 : decode cX10_merge 44 = .ok (.iconst 1, 1) := by decide +kernel
theorem dX10_merge_45 : decode cX10_merge 45 = .ok (.iadd, 1) := by decide +kernel
theorem dX10_merge_46 : decode cX10_merge 46 = .ok (.invokevirtual 149, 3) := by decide +kernel
theorem dX10_merge_49 : decode cX10_merge 49 = .ok (.iadd, 1) := by decide +kernel
theorem dX10_merge_50 : decode cX10_merge 50 = .ok (.bipush 64, 2) := by decide +kernel
theorem dX10_merge_52 : decode cX10_merge 52 = .ok (.if_icmp .le 13, 3) := by decide +kernel
theorem dX10_merge_55 : decode cX10_merge 55 = .ok (.new 47, 3) := by decide +kernel
theorem dX10_merge_58 : decode cX10_merge 58 = .ok (.dup, 1) := by decide +kernel
theorem dX10_merge_59 : decode cX10_merge 59 = .ok (.ldc 153, 2) := by decide +kernel
theorem dX10_merge_61 : decode cX10_merge 61 = .ok (.invokespecial 51, 3) := by decide +kernel
theorem dX10_merge_64 : decode cX10_merge 64 = .ok (.athrow, 1) := by decide +kernel
theorem dX10_merge_65 : decode cX10_merge 65 = .ok (.aload_n 0, 1) := by decide +kernel
theorem dX10_merge_66 : decode cX10_merge 66 = .ok (.getfield 10, 3) := by decide +kernel
theorem dX10_merge_69 : decode cX10_merge 69 = .ok (.iload_n 1, 1) := by decide +kernel
theorem dX10_merge_70 : decode cX10_merge 70 = .ok (.invokevirtual 155, 3) := by decide +kernel
theorem dX10_merge_73 : decode cX10_merge 73 = .ok (.ireturn, 1) := by decide +kernel
theorem dX10_index_0 : decode cX10_index 0 = .ok (.aload_n 0, 1) := by decide +kernel
theorem dX10_index_1 : decode cX10_index 1 = .ok (.iload_n 1, 1) := by decide +kernel
theorem dX10_index_2 : decode cX10_index 2 = .ok (.invokevirtual 67, 3) := by decide +kernel
theorem dX10_index_5 : decode cX10_index 5 = .ok (.aload_n 0, 1) := by decide +kernel
theorem dX10_index_6 : decode cX10_index 6 = .ok (.getfield 10, 3) := by decide +kernel
theorem dX10_index_9 : decode cX10_index 9 = .ok (.getfield 37, 3) := by decide +kernel
theorem dX10_index_12 : decode cX10_index 12 = .ok (.iload_n 1, 1) := by decide +kernel
theorem dX10_index_13 : decode cX10_index 13 = .ok (.invokevirtual 71, 3) := by decide +kernel
theorem dX10_index_16 : decode cX10_index 16 = .ok (.checkcast 60, 3) := by decide +kernel
theorem dX10_index_19 : decode cX10_index 19 = .ok (.astore_n 2, 1) := by decide +kernel
theorem dX10_index_20 : decode cX10_index 20 = .ok (.aload_n 2, 1) := by decide +kernel
theorem dX10_index_21 : decode cX10_index 21 = .ok (.aload_n 2, 1) := by decide +kernel
theorem dX10_index_22 : decode cX10_index 22 = .ok (.getfield 158, 3) := by decide +kernel
theorem dX10_index_25 : decode cX10_index 25 = .ok (.ifCond .ne 7, 3) := by decide +kernel
theorem dX10_index_28 : decode cX10_index 28 = .ok (.iconst 1, 1) := by decide +kernel
theorem dX10_index_29 : decode cX10_index 29 = .ok (.goto 4, 3) := by decide +kernel
theorem dX10_index_32 : decode cX10_index 32 = .ok (.iconst 0, 1) := by decide +kernel
theorem dX10_index_33 : decode cX10_index 33 = .ok (.putfield 158, 3) := by decide +kernel
theorem dX10_index_36 : decode cX10_index 36 = .ok (.aload_n 2, 1) := by decide +kernel
theorem dX10_index_37 : decode cX10_index 37 = .ok (.getfield 158, 3) := by decide +kernel
theorem dX10_index_40 : decode cX10_index 40 = .ok (.ireturn, 1) := by decide +kernel
theorem dX10_rows_0 : decode cX10_rows 0 = .ok (.aload_n 0, 1) := by decide +kernel
theorem dX10_rows_1 : decode cX10_rows 1 = .ok (.getfield 10, 3) := by decide +kernel
theorem dX10_rows_4 : decode cX10_rows 4 = .ok (.getfield 54, 3) := by decide +kernel
theorem dX10_rows_7 : decode cX10_rows 7 = .ok (.ireturn, 1) := by decide +kernel
theorem dX10_alive_0 : decode cX10_alive 0 = .ok (.aload_n 0, 1) := by decide +kernel
theorem dX10_alive_1 : decode cX10_alive 1 = .ok (.getfield 10, 3) := by decide +kernel
theorem dX10_alive_4 : decode cX10_alive 4 = .ok (.getfield 162, 3) := by decide +kernel
theorem dX10_alive_7 : decode cX10_alive 7 = .ok (.ireturn, 1) := by decide +kernel
theorem dX10_frames_0 : decode cX10_frames 0 = .ok (.aload_n 0, 1) := by decide +kernel
theorem dX10_frames_1 : decode cX10_frames 1 = .ok (.getfield 10, 3) := by decide +kernel
theorem dX10_frames_4 : decode cX10_frames 4 = .ok (.getfield 141, 3) := by decide +kernel
theorem dX10_frames_7 : decode cX10_frames 7 = .ok (.invokevirtual 41, 3) := by decide +kernel
theorem dX10_frames_10 : decode cX10_frames 10 = .ok (.ireturn, 1) := by decide +kernel
theorem dX10_isAlive_0 : decode cX10_isAlive 0 = .ok (.aload_n 0, 1) := by decide +kernel
theorem dX10_isAlive_1 : decode cX10_isAlive 1 = .ok (.iload_n 1, 1) := by decide +kernel
theorem dX10_isAlive_2 : decode cX10_isAlive 2 = .ok (.invokevirtual 96, 3) := by decide +kernel
theorem dX10_isAlive_5 : decode cX10_isAlive 5 = .ok (.aload_n 0, 1) := by decide +kernel
theorem dX10_isAlive_6 : decode cX10_isAlive 6 = .ok (.getfield 10, 3) := by decide +kernel
theorem dX10_isAlive_9 : decode cX10_isAlive 9 = .ok (.getfield 103, 3) := by decide +kernel
theorem dX10_isAlive_12 : decode cX10_isAlive 12 = .ok (.iload_n 1, 1) := by decide +kernel
theorem dX10_isAlive_13 : decode cX10_isAlive 13 = .ok (.baload, 1) := by decide +kernel
theorem dX10_isAlive_14 : decode cX10_isAlive 14 = .ok (.ireturn, 1) := by decide +kernel
theorem dX10_isNull_0 : decode cX10_isNull 0 = .ok (.aload_n 0, 1) := by decide +kernel
theorem dX10_isNull_1 : decode cX10_isNull 1 = .ok (.iload_n 1, 1) := by decide +kernel
theorem dX10_isNull_2 : decode cX10_isNull 2 = .ok (.invokevirtual 96, 3) := by decide +kernel
theorem dX10_isNull_5 : decode cX10_isNull 5 = .ok (.aload_n 0, 1) := by decide +kernel
theorem dX10_isNull_6 : decode cX10_isNull 6 = .ok (.iload_n 2, 1) := by decide +kernel
theorem dX10_isNull_7 : decode cX10_isNull 7 = .ok (.invokevirtual 67, 3) := by decide +kernel
theorem dX10_isNull_10 : decode cX10_isNull 10 = .ok (.aload_n 0, 1) := by decide +kernel
theorem dX10_isNull_11 : decode cX10_isNull 11 = .ok (.getfield 10, 3) := by decide +kernel
theorem dX10_isNull_14 : decode cX10_isNull 14 = .ok (.getfield 37, 3) := by decide +kernel
theorem dX10_isNull_17 : decode cX10_isNull 17 = .ok (.iload_n 2, 1) := by decide +kernel
theorem dX10_isNull_18 : decode cX10_isNull 18 = .ok (.invokevirtual 71, 3) := by decide +kernel
theorem dX10_isNull_21 : decode cX10_isNull 21 = .ok (.checkcast 60, 3) := by decide +kernel
theorem dX10_isNull_24 : decode cX10_isNull 24 = .ok (.getfield 165, 3) := by decide +kernel
theorem dX10_isNull_27 : decode cX10_isNull 27 = .ok (.iload_n 1, 1) := by decide +kernel
theorem dX10_isNull_28 : decode cX10_isNull 28 = .ok (.baload, 1) := by decide +kernel
theorem dX10_isNull_29 : decode cX10_isNull 29 = .ok (.ireturn, 1) := by decide +kernel
theorem dX10_valueOf_0 : decode cX10_valueOf 0 = .ok (.aload_n 0, 1) := by decide +kernel
theorem dX10_valueOf_1 : decode cX10_valueOf 1 = .ok (.iload_n 1, 1) := by decide +kernel
theorem dX10_valueOf_2 : decode cX10_valueOf 2 = .ok (.invokevirtual 96, 3) := by decide +kernel
theorem dX10_valueOf_5 : decode cX10_valueOf 5 = .ok (.aload_n 0, 1) := by decide +kernel
theorem dX10_valueOf_6 : decode cX10_valueOf 6 = .ok (.iload_n 2, 1) := by decide +kernel
theorem dX10_valueOf_7 : decode cX10_valueOf 7 = .ok (.invokevirtual 67, 3) := by decide +kernel
theorem dX10_valueOf_10 : decode cX10_valueOf 10 = .ok (.aload_n 0, 1) := by decide +kernel
theorem dX10_valueOf_11 : decode cX10_valueOf 11 = .ok (.getfield 10, 3) := by decide +kernel
theorem dX10_valueOf_14 : decode cX10_valueOf 14 = .ok (.getfield 37, 3) := by decide +kernel
theorem dX10_valueOf_17 : decode cX10_valueOf 17 = .ok (.iload_n 2, 1) := by decide +kernel
theorem dX10_valueOf_18 : decode cX10_valueOf 18 = .ok (.invokevirtual 71, 3) := by decide +kernel
theorem dX10_valueOf_21 : decode cX10_valueOf 21 = .ok (.checkcast 60, 3) := by decide +kernel
theorem dX10_valueOf_24 : decode cX10_valueOf 24 = .ok (.getfield 168, 3) := by decide +kernel
theorem dX10_valueOf_27 : decode cX10_valueOf 27 = .ok (.iload_n 1, 1) := by decide +kernel
theorem dX10_valueOf_28 : decode cX10_valueOf 28 = .ok (.iaload, 1) := by decide +kernel
theorem dX10_valueOf_29 : decode cX10_valueOf 29 = .ok (.ireturn, 1) := by decide +kernel
theorem dX10_frameOf_0 : decode cX10_frameOf 0 = .ok (.aload_n 0, 1) := by decide +kernel
theorem dX10_frameOf_1 : decode cX10_frameOf 1 = .ok (.iload_n 1, 1) := by decide +kernel
theorem dX10_frameOf_2 : decode cX10_frameOf 2 = .ok (.invokevirtual 96, 3) := by decide +kernel
theorem dX10_frameOf_5 : decode cX10_frameOf 5 = .ok (.aload_n 0, 1) := by decide +kernel
theorem dX10_frameOf_6 : decode cX10_frameOf 6 = .ok (.getfield 10, 3) := by decide +kernel
theorem dX10_frameOf_9 : decode cX10_frameOf 9 = .ok (.getfield 172, 3) := by decide +kernel
theorem dX10_frameOf_12 : decode cX10_frameOf 12 = .ok (.iload_n 1, 1) := by decide +kernel
theorem dX10_frameOf_13 : decode cX10_frameOf 13 = .ok (.iaload, 1) := by decide +kernel
theorem dX10_frameOf_14 : decode cX10_frameOf 14 = .ok (.ireturn, 1) := by decide +kernel
theorem dX10_rowsIn_0 : decode cX10_rowsIn 0 = .ok (.aload_n 0, 1) := by decide +kernel
theorem dX10_rowsIn_1 : decode cX10_rowsIn 1 = .ok (.iload_n 1, 1) := by decide +kernel
theorem dX10_rowsIn_2 : decode cX10_rowsIn 2 = .ok (.invokevirtual 134, 3) := by decide +kernel
theorem dX10_rowsIn_5 : decode cX10_rowsIn 5 = .ok (.aload_n 0, 1) := by decide +kernel
theorem dX10_rowsIn_6 : decode cX10_rowsIn 6 = .ok (.getfield 10, 3) := by decide +kernel
theorem dX10_rowsIn_9 : decode cX10_rowsIn 9 = .ok (.getfield 141, 3) := by decide +kernel
theorem dX10_rowsIn_12 : decode cX10_rowsIn 12 = .ok (.iload_n 1, 1) := by decide +kernel
theorem dX10_rowsIn_13 : decode cX10_rowsIn 13 = .ok (.invokevirtual 71, 3) := by decide +kernel
theorem dX10_rowsIn_16 : decode cX10_rowsIn 16 = .ok (.checkcast 125, 3) := by decide +kernel
theorem dX10_rowsIn_19 : decode cX10_rowsIn 19 = .ok (.getfield 124, 3) := by decide +kernel
theorem dX10_rowsIn_22 : decode cX10_rowsIn 22 = .ok (.ireturn, 1) := by decide +kernel
theorem dX10_rowAt_0 : decode cX10_rowAt 0 = .ok (.aload_n 0, 1) := by decide +kernel
theorem dX10_rowAt_1 : decode cX10_rowAt 1 = .ok (.iload_n 1, 1) := by decide +kernel
theorem dX10_rowAt_2 : decode cX10_rowAt 2 = .ok (.invokevirtual 134, 3) := by decide +kernel
theorem dX10_rowAt_5 : decode cX10_rowAt 5 = .ok (.aload_n 0, 1) := by decide +kernel
theorem dX10_rowAt_6 : decode cX10_rowAt 6 = .ok (.getfield 10, 3) := by decide +kernel
theorem dX10_rowAt_9 : decode cX10_rowAt 9 = .ok (.getfield 141, 3) := by decide +kernel
theorem dX10_rowAt_12 : decode cX10_rowAt 12 = .ok (.iload_n 1, 1) := by decide +kernel
theorem dX10_rowAt_13 : decode cX10_rowAt 13 = .ok (.invokevirtual 71, 3) := by decide +kernel
theorem dX10_rowAt_16 : decode cX10_rowAt 16 = .ok (.checkcast 125, 3) := by decide +kernel
theorem dX10_rowAt_19 : decode cX10_rowAt 19 = .ok (.astore_n 3, 1) := by decide +kernel
theorem dX10_rowAt_20 : decode cX10_rowAt 20 = .ok (.iload_n 2, 1) := by decide +kernel
theorem dX10_rowAt_21 : decode cX10_rowAt 21 = .ok (.ifCond .lt 11, 3) := by decide +kernel
theorem dX10_rowAt_24 : decode cX10_rowAt 24 = .ok (.iload_n 2, 1) := by decide +kernel
theorem dX10_rowAt_25 : decode cX10_rowAt 25 = .ok (.aload_n 3, 1) := by decide +kernel
theorem dX10_rowAt_26 : decode cX10_rowAt 26 = .ok (.getfield 124, 3) := by decide +kernel
theorem dX10_rowAt_29 : decode cX10_rowAt 29 = .ok (.if_icmp .lt 13, 3) := by decide +kernel
theorem dX10_rowAt_32 : decode cX10_rowAt 32 = .ok (.new 144, 3) := by decide +kernel
theorem dX10_rowAt_35 : decode cX10_rowAt 35 = .ok (.dup, 1) := by decide +kernel
theorem dX10_rowAt_36 : decode cX10_rowAt 36 = .ok (.ldc 175, 2) := by decide +kernel
theorem dX10_rowAt_38 : decode cX10_rowAt 38 = .ok (.invokespecial 148, 3) := by decide +kernel
theorem dX10_rowAt_41 : decode cX10_rowAt 41 = .ok (.athrow, 1) := by decide +kernel
theorem dX10_rowAt_42 : decode cX10_rowAt 42 = .ok (.aload_n 3, 1) := by decide +kernel
theorem dX10_rowAt_43 : decode cX10_rowAt 43 = .ok (.getfield 177, 3) := by decide +kernel
theorem dX10_rowAt_46 : decode cX10_rowAt 46 = .ok (.iload_n 2, 1) := by decide +kernel
theorem dX10_rowAt_47 : decode cX10_rowAt 47 = .ok (.iaload, 1) := by decide +kernel
theorem dX10_rowAt_48 : decode cX10_rowAt 48 = .ok (.ireturn, 1) := by decide +kernel
theorem dX10_formOf_0 : decode cX10_formOf 0 = .ok (.aload_n 0, 1) := by decide +kernel
theorem dX10_formOf_1 : decode cX10_formOf 1 = .ok (.iload_n 1, 1) := by decide +kernel
theorem dX10_formOf_2 : decode cX10_formOf 2 = .ok (.iload_n 2, 1) := by decide +kernel
theorem dX10_formOf_3 : decode cX10_formOf 3 = .ok (.invokevirtual 180, 3) := by decide +kernel
theorem dX10_formOf_6 : decode cX10_formOf 6 = .ok (.getfield 184, 3) := by decide +kernel
theorem dX10_formOf_9 : decode cX10_formOf 9 = .ok (.ireturn, 1) := by decide +kernel
theorem dX10_bytesAs_0 : decode cX10_bytesAs 0 = .ok (.aload_n 0, 1) := by decide +kernel
theorem dX10_bytesAs_1 : decode cX10_bytesAs 1 = .ok (.iload_n 1, 1) := by decide +kernel
theorem dX10_bytesAs_2 : decode cX10_bytesAs 2 = .ok (.iload_n 2, 1) := by decide +kernel
theorem dX10_bytesAs_3 : decode cX10_bytesAs 3 = .ok (.invokevirtual 180, 3) := by decide +kernel
theorem dX10_bytesAs_6 : decode cX10_bytesAs 6 = .ok (.astore 4, 2) := by decide +kernel
theorem dX10_bytesAs_8 : decode cX10_bytesAs 8 = .ok (.iload_n 3, 1) := by decide +kernel
theorem dX10_bytesAs_9 : decode cX10_bytesAs 9 = .ok (.ifCond .lt 8, 3) := by decide +kernel
theorem dX10_bytesAs_12 : decode cX10_bytesAs 12 = .ok (.iload_n 3, 1) := by decide +kernel
theorem dX10_bytesAs_13 : decode cX10_bytesAs 13 = .ok (.iconst 5, 1) := by decide +kernel
theorem dX10_bytesAs_14 : decode cX10_bytesAs 14 = .ok (.if_icmp .lt 13, 3) := by decide +kernel
theorem dX10_bytesAs_17 : decode cX10_bytesAs 17 = .ok (.new 113, 3) := by decide +kernel
theorem dX10_bytesAs_20 : decode cX10_bytesAs 20 = .ok (.dup, 1) := by decide +kernel
theorem dX10_bytesAs_21 : decode cX10_bytesAs 21 = .ok (.ldc 189, 2) := by decide +kernel
theorem dX10_bytesAs_23 : decode cX10_bytesAs 23 = .ok (.invokespecial 117, 3) := by decide +kernel
theorem dX10_bytesAs_26 : decode cX10_bytesAs 26 = .ok (.athrow, 1) := by decide +kernel
theorem dX10_bytesAs_27 : decode cX10_bytesAs 27 = .ok (.aload 4, 2) := by decide +kernel
theorem dX10_bytesAs_29 : decode cX10_bytesAs 29 = .ok (.iload_n 3, 1) := by decide +kernel
theorem dX10_bytesAs_30 : decode cX10_bytesAs 30 = .ok (.invokevirtual 191, 3) := by decide +kernel
theorem dX10_bytesAs_33 : decode cX10_bytesAs 33 = .ok (.ireturn, 1) := by decide +kernel
theorem dX10_bytes_0 : decode cX10_bytes 0 = .ok (.aload_n 0, 1) := by decide +kernel
theorem dX10_bytes_1 : decode cX10_bytes 1 = .ok (.iload_n 1, 1) := by decide +kernel
theorem dX10_bytes_2 : decode cX10_bytes 2 = .ok (.invokevirtual 134, 3) := by decide +kernel
theorem dX10_bytes_5 : decode cX10_bytes 5 = .ok (.aload_n 0, 1) := by decide +kernel
theorem dX10_bytes_6 : decode cX10_bytes 6 = .ok (.getfield 10, 3) := by decide +kernel
theorem dX10_bytes_9 : decode cX10_bytes 9 = .ok (.getfield 141, 3) := by decide +kernel
theorem dX10_bytes_12 : decode cX10_bytes 12 = .ok (.iload_n 1, 1) := by decide +kernel
theorem dX10_bytes_13 : decode cX10_bytes 13 = .ok (.invokevirtual 71, 3) := by decide +kernel
theorem dX10_bytes_16 : decode cX10_bytes 16 = .ok (.checkcast 125, 3) := by decide +kernel
theorem dX10_bytes_19 : decode cX10_bytes 19 = .ok (.getfield 194, 3) := by decide +kernel
theorem dX10_bytes_22 : decode cX10_bytes 22 = .ok (.ireturn, 1) := by decide +kernel
theorem dX10_bitmapBytes_0 : decode cX10_bitmapBytes 0 = .ok (.aload_n 0, 1) := by decide +kernel
theorem dX10_bitmapBytes_1 : decode cX10_bitmapBytes 1 = .ok (.getfield 10, 3) := by decide +kernel
theorem dX10_bitmapBytes_4 : decode cX10_bitmapBytes 4 = .ok (.invokevirtual 197, 3) := by decide +kernel
theorem dX10_bitmapBytes_7 : decode cX10_bitmapBytes 7 = .ok (.ireturn, 1) := by decide +kernel
theorem dX10_nulls_0 : decode cX10_nulls 0 = .ok (.aload_n 0, 1) := by decide +kernel
theorem dX10_nulls_1 : decode cX10_nulls 1 = .ok (.iload_n 1, 1) := by decide +kernel
theorem dX10_nulls_2 : decode cX10_nulls 2 = .ok (.iload_n 2, 1) := by decide +kernel
theorem dX10_nulls_3 : decode cX10_nulls 3 = .ok (.invokevirtual 180, 3) := by decide +kernel
theorem dX10_nulls_6 : decode cX10_nulls 6 = .ok (.getfield 200, 3) := by decide +kernel
theorem dX10_nulls_9 : decode cX10_nulls 9 = .ok (.ireturn, 1) := by decide +kernel
theorem dX10_distinct_0 : decode cX10_distinct 0 = .ok (.aload_n 0, 1) := by decide +kernel
theorem dX10_distinct_1 : decode cX10_distinct 1 = .ok (.iload_n 1, 1) := by decide +kernel
theorem dX10_distinct_2 : decode cX10_distinct 2 = .ok (.iload_n 2, 1) := by decide +kernel
theorem dX10_distinct_3 : decode cX10_distinct 3 = .ok (.invokevirtual 180, 3) := by decide +kernel
theorem dX10_distinct_6 : decode cX10_distinct 6 = .ok (.getfield 203, 3) := by decide +kernel
theorem dX10_distinct_9 : decode cX10_distinct 9 = .ok (.ireturn, 1) := by decide +kernel
theorem dX10_runs_0 : decode cX10_runs 0 = .ok (.aload_n 0, 1) := by decide +kernel
theorem dX10_runs_1 : decode cX10_runs 1 = .ok (.iload_n 1, 1) := by decide +kernel
theorem dX10_runs_2 : decode cX10_runs 2 = .ok (.iload_n 2, 1) := by decide +kernel
theorem dX10_runs_3 : decode cX10_runs 3 = .ok (.invokevirtual 180, 3) := by decide +kernel
theorem dX10_runs_6 : decode cX10_runs 6 = .ok (.getfield 206, 3) := by decide +kernel
theorem dX10_runs_9 : decode cX10_runs 9 = .ok (.ireturn, 1) := by decide +kernel
theorem dX10_least_0 : decode cX10_least 0 = .ok (.aload_n 0, 1) := by decide +kernel
theorem dX10_least_1 : decode cX10_least 1 = .ok (.iload_n 1, 1) := by decide +kernel
theorem dX10_least_2 : decode cX10_least 2 = .ok (.iload_n 2, 1) := by decide +kernel
theorem dX10_least_3 : decode cX10_least 3 = .ok (.invokevirtual 180, 3) := by decide +kernel
theorem dX10_least_6 : decode cX10_least 6 = .ok (.getfield 209, 3) := by decide +kernel
theorem dX10_least_9 : decode cX10_least 9 = .ok (.ireturn, 1) := by decide +kernel
theorem dX10_greatest_0 : decode cX10_greatest 0 = .ok (.aload_n 0, 1) := by decide +kernel
theorem dX10_greatest_1 : decode cX10_greatest 1 = .ok (.iload_n 1, 1) := by decide +kernel
theorem dX10_greatest_2 : decode cX10_greatest 2 = .ok (.iload_n 2, 1) := by decide +kernel
theorem dX10_greatest_3 : decode cX10_greatest 3 = .ok (.invokevirtual 180, 3) := by decide +kernel
theorem dX10_greatest_6 : decode cX10_greatest 6 = .ok (.getfield 212, 3) := by decide +kernel
theorem dX10_greatest_9 : decode cX10_greatest 9 = .ok (.ireturn, 1) := by decide +kernel
theorem dX10_where_0 : decode cX10_where 0 = .ok (.aload_n 0, 1) := by decide +kernel
theorem dX10_where_1 : decode cX10_where 1 = .ok (.iload_n 1, 1) := by decide +kernel
theorem dX10_where_2 : decode cX10_where 2 = .ok (.invokevirtual 67, 3) := by decide +kernel
theorem dX10_where_5 : decode cX10_where 5 = .ok (.iload_n 2, 1) := by decide +kernel
theorem dX10_where_6 : decode cX10_where 6 = .ok (.ifCond .lt 9, 3) := by decide +kernel
theorem dX10_where_9 : decode cX10_where 9 = .ok (.iload_n 2, 1) := by decide +kernel
theorem dX10_where_10 : decode cX10_where 10 = .ok (.bipush 8, 2) := by decide +kernel
theorem dX10_where_12 : decode cX10_where 12 = .ok (.if_icmp .lt 13, 3) := by decide +kernel
theorem dX10_where_15 : decode cX10_where 15 = .ok (.new 113, 3) := by decide +kernel
theorem dX10_where_18 : decode cX10_where 18 = .ok (.dup, 1) := by decide +kernel
theorem dX10_where_19 : decode cX10_where 19 = .ok (.ldc 215, 2) := by decide +kernel
theorem dX10_where_21 : decode cX10_where 21 = .ok (.invokespecial 117, 3) := by decide +kernel
theorem dX10_where_24 : decode cX10_where 24 = .ok (.athrow, 1) := by decide +kernel
theorem dX10_where_25 : decode cX10_where 25 = .ok (.aload_n 0, 1) := by decide +kernel
theorem dX10_where_26 : decode cX10_where 26 = .ok (.getfield 19, 3) := by decide +kernel
theorem dX10_where_29 : decode cX10_where 29 = .ok (.invokevirtual 217, 3) := by decide +kernel
theorem dX10_where_32 : decode cX10_where 32 = .ok (.getfield 221, 3) := by decide +kernel
theorem dX10_where_35 : decode cX10_where 35 = .ok (.iconst 4, 1) := by decide +kernel
theorem dX10_where_36 : decode cX10_where 36 = .ok (.if_icmp .lt 13, 3) := by decide +kernel
theorem dX10_where_39 : decode cX10_where 39 = .ok (.new 47, 3) := by decide +kernel
theorem dX10_where_42 : decode cX10_where 42 = .ok (.dup, 1) := by decide +kernel
theorem dX10_where_43 : decode cX10_where 43 = .ok (.ldc 224, 2) := by decide +kernel
theorem dX10_where_45 : decode cX10_where 45 = .ok (.invokespecial 51, 3) := by decide +kernel
theorem dX10_where_48 : decode cX10_where 48 = .ok (.athrow, 1) := by decide +kernel
theorem dX10_where_49 : decode cX10_where 49 = .ok (.aload_n 0, 1) := by decide +kernel
theorem dX10_where_50 : decode cX10_where 50 = .ok (.getfield 19, 3) := by decide +kernel
theorem dX10_where_53 : decode cX10_where 53 = .ok (.invokevirtual 217, 3) := by decide +kernel
theorem dX10_where_56 : decode cX10_where 56 = .ok (.iload_n 1, 1) := by decide +kernel
theorem dX10_where_57 : decode cX10_where 57 = .ok (.iload_n 2, 1) := by decide +kernel
theorem dX10_where_58 : decode cX10_where 58 = .ok (.iload_n 3, 1) := by decide +kernel
theorem dX10_where_59 : decode cX10_where 59 = .ok (.invokevirtual 226, 3) := by decide +kernel
theorem dX10_where_62 : decode cX10_where 62 = .ok (.ireturn, 1) := by decide +kernel
theorem dX10_orElse_0 : decode cX10_orElse 0 = .ok (.aload_n 0, 1) := by decide +kernel
theorem dX10_orElse_1 : decode cX10_orElse 1 = .ok (.getfield 19, 3) := by decide +kernel
theorem dX10_orElse_4 : decode cX10_orElse 4 = .ok (.getfield 229, 3) := by decide +kernel
theorem dX10_orElse_7 : decode cX10_orElse 7 = .ok (.iconst 4, 1) := by decide +kernel
theorem dX10_orElse_8 : decode cX10_orElse 8 = .ok (.if_icmp .lt 13, 3) := by decide +kernel
theorem dX10_orElse_11 : decode cX10_orElse 11 = .ok (.new 47, 3) := by decide +kernel
theorem dX10_orElse_14 : decode cX10_orElse 14 = .ok (.dup, 1) := by decide +kernel
theorem dX10_orElse_15 : decode cX10_orElse 15 = .ok (.ldc 230, 2) := by decide +kernel
theorem dX10_orElse_17 : decode cX10_orElse 17 = .ok (.invokespecial 51, 3) := by decide +kernel
theorem dX10_orElse_20 : decode cX10_orElse 20 = .ok (.athrow, 1) := by decide +kernel
theorem dX10_orElse_21 : decode cX10_orElse 21 = .ok (.aload_n 0, 1) := by decide +kernel
theorem dX10_orElse_22 : decode cX10_orElse 22 = .ok (.getfield 19, 3) := by decide +kernel
theorem dX10_orElse_25 : decode cX10_orElse 25 = .ok (.invokevirtual 217, 3) := by decide +kernel
theorem dX10_orElse_28 : decode cX10_orElse 28 = .ok (.getfield 221, 3) := by decide +kernel
theorem dX10_orElse_31 : decode cX10_orElse 31 = .ok (.ifCond .ne 13, 3) := by decide +kernel
theorem dX10_orElse_34 : decode cX10_orElse 34 = .ok (.new 47, 3) := by decide +kernel
theorem dX10_orElse_37 : decode cX10_orElse 37 = .ok (.dup, 1) := by decide +kernel
theorem dX10_orElse_38 : decode cX10_orElse 38 = .ok (.ldc 232, 2) := by decide +kernel
theorem dX10_orElse_40 : decode cX10_orElse 40 = .ok (.invokespecial 51, 3) := by decide +kernel
theorem dX10_orElse_43 : decode cX10_orElse 43 = .ok (.athrow, 1) := by decide +kernel
theorem dX10_orElse_44 : decode cX10_orElse 44 = .ok (.aload_n 0, 1) := by decide +kernel
theorem dX10_orElse_45 : decode cX10_orElse 45 = .ok (.getfield 19, 3) := by decide +kernel
theorem dX10_orElse_48 : decode cX10_orElse 48 = .ok (.invokevirtual 234, 3) := by decide +kernel
theorem dX10_orElse_51 : decode cX10_orElse 51 = .ok (.ireturn, 1) := by decide +kernel
theorem dX10_clear_0 : decode cX10_clear 0 = .ok (.aload_n 0, 1) := by decide +kernel
theorem dX10_clear_1 : decode cX10_clear 1 = .ok (.getfield 19, 3) := by decide +kernel
theorem dX10_clear_4 : decode cX10_clear 4 = .ok (.invokevirtual 237, 3) := by decide +kernel
theorem dX10_clear_7 : decode cX10_clear 7 = .ok (.istore_n 1, 1) := by decide +kernel
theorem dX10_clear_8 : decode cX10_clear 8 = .ok (.aload_n 0, 1) := by decide +kernel
theorem dX10_clear_9 : decode cX10_clear 9 = .ok (.getfield 19, 3) := by decide +kernel
theorem dX10_clear_12 : decode cX10_clear 12 = .ok (.invokevirtual 240, 3) := by decide +kernel
theorem dX10_clear_15 : decode cX10_clear 15 = .ok (.iload_n 1, 1) := by decide +kernel
theorem dX10_clear_16 : decode cX10_clear 16 = .ok (.ireturn, 1) := by decide +kernel
theorem dX10_find_0 : decode cX10_find 0 = .ok (.aload_n 0, 1) := by decide +kernel
theorem dX10_find_1 : decode cX10_find 1 = .ok (.getfield 26, 3) := by decide +kernel
theorem dX10_find_4 : decode cX10_find 4 = .ok (.aload_n 0, 1) := by decide +kernel
theorem dX10_find_5 : decode cX10_find 5 = .ok (.getfield 10, 3) := by decide +kernel
theorem dX10_find_8 : decode cX10_find 8 = .ok (.aload_n 0, 1) := by decide +kernel
theorem dX10_find_9 : decode cX10_find 9 = .ok (.getfield 19, 3) := by decide +kernel
theorem dX10_find_12 : decode cX10_find 12 = .ok (.iconst 1, 1) := by decide +kernel
theorem dX10_find_13 : decode cX10_find 13 = .ok (.invokevirtual 243, 3) := by decide +kernel
theorem dX10_find_16 : decode cX10_find 16 = .ok (.aload_n 0, 1) := by decide +kernel
theorem dX10_find_17 : decode cX10_find 17 = .ok (.aload_n 0, 1) := by decide +kernel
theorem dX10_find_18 : decode cX10_find 18 = .ok (.getfield 26, 3) := by decide +kernel
theorem dX10_find_21 : decode cX10_find 21 = .ok (.getfield 247, 3) := by decide +kernel
theorem dX10_find_24 : decode cX10_find 24 = .ok (.putfield 250, 3) := by decide +kernel
theorem dX10_find_27 : decode cX10_find 27 = .ok (.aload_n 0, 1) := by decide +kernel
theorem dX10_find_28 : decode cX10_find 28 = .ok (.aload_n 0, 1) := by decide +kernel
theorem dX10_find_29 : decode cX10_find 29 = .ok (.getfield 26, 3) := by decide +kernel
theorem dX10_find_32 : decode cX10_find 32 = .ok (.getfield 253, 3) := by decide +kernel
theorem dX10_find_35 : decode cX10_find 35 = .ok (.putfield 256, 3) := by decide +kernel
theorem dX10_find_38 : decode cX10_find 38 = .ok (.aload_n 0, 1) := by decide +kernel
theorem dX10_find_39 : decode cX10_find 39 = .ok (.getfield 33, 3) := by decide +kernel
theorem dX10_find_42 : decode cX10_find 42 = .ok (.aload_n 0, 1) := by decide +kernel
theorem dX10_find_43 : decode cX10_find 43 = .ok (.getfield 26, 3) := by decide +kernel
theorem dX10_find_46 : decode cX10_find 46 = .ok (.getfield 259, 3) := by decide +kernel
theorem dX10_find_49 : decode cX10_find 49 = .ok (.aload_n 0, 1) := by decide +kernel
theorem dX10_find_50 : decode cX10_find 50 = .ok (.getfield 26, 3) := by decide +kernel
theorem dX10_find_53 : decode cX10_find 53 = .ok (.getfield 260, 3) := by decide +kernel
theorem dX10_find_56 : decode cX10_find 56 = .ok (.invokevirtual 261, 3) := by decide +kernel
theorem dX10_find_59 : decode cX10_find 59 = .ok (.aload_n 0, 1) := by decide +kernel
theorem dX10_find_60 : decode cX10_find 60 = .ok (.getfield 33, 3) := by decide +kernel
theorem dX10_find_63 : decode cX10_find 63 = .ok (.getfield 265, 3) := by decide +kernel
theorem dX10_find_66 : decode cX10_find 66 = .ok (.ireturn, 1) := by decide +kernel
theorem dX10_passed_0 : decode cX10_passed 0 = .ok (.aload_n 0, 1) := by decide +kernel
theorem dX10_passed_1 : decode cX10_passed 1 = .ok (.getfield 256, 3) := by decide +kernel
theorem dX10_passed_4 : decode cX10_passed 4 = .ok (.ireturn, 1) := by decide +kernel
theorem dX10_foundAt_0 : decode cX10_foundAt 0 = .ok (.iload_n 1, 1) := by decide +kernel
theorem dX10_foundAt_1 : decode cX10_foundAt 1 = .ok (.ifCond .lt 14, 3) := by decide +kernel
theorem dX10_foundAt_4 : decode cX10_foundAt 4 = .ok (.iload_n 1, 1) := by decide +kernel
theorem dX10_foundAt_5 : decode cX10_foundAt 5 = .ok (.aload_n 0, 1) := by decide +kernel
theorem dX10_foundAt_6 : decode cX10_foundAt 6 = .ok (.getfield 33, 3) := by decide +kernel
theorem dX10_foundAt_9 : decode cX10_foundAt 9 = .ok (.getfield 265, 3) := by decide +kernel
theorem dX10_foundAt_12 : decode cX10_foundAt 12 = .ok (.if_icmp .lt 14, 3) := by decide +kernel
theorem dX10_foundAt_15 : decode cX10_foundAt 15 = .ok (.new 144, 3) := by decide +kernel
theorem dX10_foundAt_18 : decode cX10_foundAt 18 = .ok (.dup, 1) := by decide +kernel
theorem dX10_foundAt_19 : decode cX10_foundAt 19 = .ok (.ldc_w 283, 3) := by decide +kernel
theorem dX10_foundAt_22 : decode cX10_foundAt 22 = .ok (.invokespecial 148, 3) := by decide +kernel
theorem dX10_foundAt_25 : decode cX10_foundAt 25 = .ok (.athrow, 1) := by decide +kernel
theorem dX10_foundAt_26 : decode cX10_foundAt 26 = .ok (.aload_n 0, 1) := by decide +kernel
theorem dX10_foundAt_27 : decode cX10_foundAt 27 = .ok (.getfield 33, 3) := by decide +kernel
theorem dX10_foundAt_30 : decode cX10_foundAt 30 = .ok (.getfield 285, 3) := by decide +kernel
theorem dX10_foundAt_33 : decode cX10_foundAt 33 = .ok (.iload_n 1, 1) := by decide +kernel
theorem dX10_foundAt_34 : decode cX10_foundAt 34 = .ok (.iaload, 1) := by decide +kernel
theorem dX10_foundAt_35 : decode cX10_foundAt 35 = .ok (.ireturn, 1) := by decide +kernel
theorem dX10_sort_0 : decode cX10_sort 0 = .ok (.aload_n 0, 1) := by decide +kernel
theorem dX10_sort_1 : decode cX10_sort 1 = .ok (.iload_n 1, 1) := by decide +kernel
theorem dX10_sort_2 : decode cX10_sort 2 = .ok (.invokevirtual 67, 3) := by decide +kernel
theorem dX10_sort_5 : decode cX10_sort 5 = .ok (.aload_n 0, 1) := by decide +kernel
theorem dX10_sort_6 : decode cX10_sort 6 = .ok (.getfield 10, 3) := by decide +kernel
theorem dX10_sort_9 : decode cX10_sort 9 = .ok (.getfield 286, 3) := by decide +kernel
theorem dX10_sort_12 : decode cX10_sort 12 = .ok (.aload_n 0, 1) := by decide +kernel
theorem dX10_sort_13 : decode cX10_sort 13 = .ok (.getfield 33, 3) := by decide +kernel
theorem dX10_sort_16 : decode cX10_sort 16 = .ok (.getfield 285, 3) := by decide +kernel
theorem dX10_sort_19 : decode cX10_sort 19 = .ok (.aload_n 0, 1) := by decide +kernel
theorem dX10_sort_20 : decode cX10_sort 20 = .ok (.getfield 33, 3) := by decide +kernel
theorem dX10_sort_23 : decode cX10_sort 23 = .ok (.getfield 265, 3) := by decide +kernel
theorem dX10_sort_26 : decode cX10_sort 26 = .ok (.aload_n 0, 1) := by decide +kernel
theorem dX10_sort_27 : decode cX10_sort 27 = .ok (.getfield 10, 3) := by decide +kernel
theorem dX10_sort_30 : decode cX10_sort 30 = .ok (.getfield 37, 3) := by decide +kernel
theorem dX10_sort_33 : decode cX10_sort 33 = .ok (.iload_n 1, 1) := by decide +kernel
theorem dX10_sort_34 : decode cX10_sort 34 = .ok (.invokevirtual 71, 3) := by decide +kernel
theorem dX10_sort_37 : decode cX10_sort 37 = .ok (.checkcast 60, 3) := by decide +kernel
theorem dX10_sort_40 : decode cX10_sort 40 = .ok (.iload_n 2, 1) := by decide +kernel
theorem dX10_sort_41 : decode cX10_sort 41 = .ok (.iconst 0, 1) := by decide +kernel
theorem dX10_sort_42 : decode cX10_sort 42 = .ok (.invokevirtual 290, 3) := by decide +kernel
theorem dX10_sort_45 : decode cX10_sort 45 = .ok (.aload_n 0, 1) := by decide +kernel
theorem dX10_sort_46 : decode cX10_sort 46 = .ok (.getfield 33, 3) := by decide +kernel
theorem dX10_sort_49 : decode cX10_sort 49 = .ok (.getfield 265, 3) := by decide +kernel
theorem dX10_sort_52 : decode cX10_sort 52 = .ok (.ifCond .ne 7, 3) := by decide +kernel
theorem dX10_sort_55 : decode cX10_sort 55 = .ok (.iconst (-1), 1) := by decide +kernel
theorem dX10_sort_56 : decode cX10_sort 56 = .ok (.goto 12, 3) := by decide +kernel
theorem dX10_sort_59 : decode cX10_sort 59 = .ok (.aload_n 0, 1) := by decide +kernel
theorem dX10_sort_60 : decode cX10_sort 60 = .ok (.getfield 33, 3) := by decide +kernel
theorem dX10_sort_63 : decode cX10_sort 63 = .ok (.getfield 285, 3) := by decide +kernel
theorem dX10_sort_66 : decode cX10_sort 66 = .ok (.iconst 0, 1) := by decide +kernel
theorem dX10_sort_67 : decode cX10_sort 67 = .ok (.iaload, 1) := by decide +kernel
theorem dX10_sort_68 : decode cX10_sort 68 = .ok (.ireturn, 1) := by decide +kernel
theorem dX10_limit_0 : decode cX10_limit 0 = .ok (.iload_n 1, 1) := by decide +kernel
theorem dX10_limit_1 : decode cX10_limit 1 = .ok (.ifCond .ge 14, 3) := by decide +kernel
theorem dX10_limit_4 : decode cX10_limit 4 = .ok (.new 113, 3) := by decide +kernel
theorem dX10_limit_7 : decode cX10_limit 7 = .ok (.dup, 1) := by decide +kernel
theorem dX10_limit_8 : decode cX10_limit 8 = .ok (.ldc_w 296, 3) := by decide +kernel
theorem dX10_limit_11 : decode cX10_limit 11 = .ok (.invokespecial 117, 3) := by decide +kernel
theorem dX10_limit_14 : decode cX10_limit 14 = .ok (.athrow, 1) := by decide +kernel
theorem dX10_limit_15 : decode cX10_limit 15 = .ok (.aload_n 0, 1) := by decide +kernel
theorem dX10_limit_16 : decode cX10_limit 16 = .ok (.getfield 33, 3) := by decide +kernel
theorem dX10_limit_19 : decode cX10_limit 19 = .ok (.aload_n 0, 1) := by decide +kernel
theorem dX10_limit_20 : decode cX10_limit 20 = .ok (.getfield 33, 3) := by decide +kernel
theorem dX10_limit_23 : decode cX10_limit 23 = .ok (.getfield 265, 3) := by decide +kernel
theorem dX10_limit_26 : decode cX10_limit 26 = .ok (.iload_n 1, 1) := by decide +kernel
theorem dX10_limit_27 : decode cX10_limit 27 = .ok (.invokestatic 298, 3) := by decide +kernel
theorem dX10_limit_30 : decode cX10_limit 30 = .ok (.putfield 265, 3) := by decide +kernel
theorem dX10_limit_33 : decode cX10_limit 33 = .ok (.aload_n 0, 1) := by decide +kernel
theorem dX10_limit_34 : decode cX10_limit 34 = .ok (.getfield 33, 3) := by decide +kernel
theorem dX10_limit_37 : decode cX10_limit 37 = .ok (.getfield 265, 3) := by decide +kernel
theorem dX10_limit_40 : decode cX10_limit 40 = .ok (.ireturn, 1) := by decide +kernel
theorem dX10_sum_0 : decode cX10_sum 0 = .ok (.aload_n 0, 1) := by decide +kernel
theorem dX10_sum_1 : decode cX10_sum 1 = .ok (.iload_n 1, 1) := by decide +kernel
theorem dX10_sum_2 : decode cX10_sum 2 = .ok (.invokevirtual 67, 3) := by decide +kernel
theorem dX10_sum_5 : decode cX10_sum 5 = .ok (.aload_n 0, 1) := by decide +kernel
theorem dX10_sum_6 : decode cX10_sum 6 = .ok (.getfield 33, 3) := by decide +kernel
theorem dX10_sum_9 : decode cX10_sum 9 = .ok (.aload_n 0, 1) := by decide +kernel
theorem dX10_sum_10 : decode cX10_sum 10 = .ok (.getfield 10, 3) := by decide +kernel
theorem dX10_sum_13 : decode cX10_sum 13 = .ok (.getfield 37, 3) := by decide +kernel
theorem dX10_sum_16 : decode cX10_sum 16 = .ok (.iload_n 1, 1) := by decide +kernel
theorem dX10_sum_17 : decode cX10_sum 17 = .ok (.invokevirtual 71, 3) := by decide +kernel
theorem dX10_sum_20 : decode cX10_sum 20 = .ok (.checkcast 60, 3) := by decide +kernel
theorem dX10_sum_23 : decode cX10_sum 23 = .ok (.invokevirtual 303, 3) := by decide +kernel
theorem dX10_sum_26 : decode cX10_sum 26 = .ok (.l2i, 1) := by decide +kernel
theorem dX10_sum_27 : decode cX10_sum 27 = .ok (.ireturn, 1) := by decide +kernel
theorem dX10_groups_0 : decode cX10_groups 0 = .ok (.aload_n 0, 1) := by decide +kernel
theorem dX10_groups_1 : decode cX10_groups 1 = .ok (.iload_n 1, 1) := by decide +kernel
theorem dX10_groups_2 : decode cX10_groups 2 = .ok (.invokevirtual 67, 3) := by decide +kernel
theorem dX10_groups_5 : decode cX10_groups 5 = .ok (.aload_n 0, 1) := by decide +kernel
theorem dX10_groups_6 : decode cX10_groups 6 = .ok (.getfield 33, 3) := by decide +kernel
theorem dX10_groups_9 : decode cX10_groups 9 = .ok (.aload_n 0, 1) := by decide +kernel
theorem dX10_groups_10 : decode cX10_groups 10 = .ok (.getfield 10, 3) := by decide +kernel
theorem dX10_groups_13 : decode cX10_groups 13 = .ok (.getfield 37, 3) := by decide +kernel
theorem dX10_groups_16 : decode cX10_groups 16 = .ok (.iload_n 1, 1) := by decide +kernel
theorem dX10_groups_17 : decode cX10_groups 17 = .ok (.invokevirtual 71, 3) := by decide +kernel
theorem dX10_groups_20 : decode cX10_groups 20 = .ok (.checkcast 60, 3) := by decide +kernel
theorem dX10_groups_23 : decode cX10_groups 23 = .ok (.aload_n 0, 1) := by decide +kernel
theorem dX10_groups_24 : decode cX10_groups 24 = .ok (.getfield 10, 3) := by decide +kernel
theorem dX10_groups_27 : decode cX10_groups 27 = .ok (.getfield 286, 3) := by decide +kernel
theorem dX10_groups_30 : decode cX10_groups 30 = .ok (.invokevirtual 311, 3) := by decide +kernel
theorem dX10_groups_33 : decode cX10_groups 33 = .ok (.aload_n 0, 1) := by decide +kernel
theorem dX10_groups_34 : decode cX10_groups 34 = .ok (.getfield 33, 3) := by decide +kernel
theorem dX10_groups_37 : decode cX10_groups 37 = .ok (.getfield 315, 3) := by decide +kernel
theorem dX10_groups_40 : decode cX10_groups 40 = .ok (.ireturn, 1) := by decide +kernel
theorem dX10_ofGroup_0 : decode cX10_ofGroup 0 = .ok (.aload_n 0, 1) := by decide +kernel
theorem dX10_ofGroup_1 : decode cX10_ofGroup 1 = .ok (.iload_n 1, 1) := by decide +kernel
theorem dX10_ofGroup_2 : decode cX10_ofGroup 2 = .ok (.invokevirtual 67, 3) := by decide +kernel
theorem dX10_ofGroup_5 : decode cX10_ofGroup 5 = .ok (.aload_n 0, 1) := by decide +kernel
theorem dX10_ofGroup_6 : decode cX10_ofGroup 6 = .ok (.iload_n 3, 1) := by decide +kernel
theorem dX10_ofGroup_7 : decode cX10_ofGroup 7 = .ok (.invokevirtual 67, 3) := by decide +kernel
theorem dX10_ofGroup_10 : decode cX10_ofGroup 10 = .ok (.aload_n 0, 1) := by decide +kernel
theorem dX10_ofGroup_11 : decode cX10_ofGroup 11 = .ok (.getfield 10, 3) := by decide +kernel
theorem dX10_ofGroup_14 : decode cX10_ofGroup 14 = .ok (.getfield 37, 3) := by decide +kernel
theorem dX10_ofGroup_17 : decode cX10_ofGroup 17 = .ok (.iload_n 1, 1) := by decide +kernel
theorem dX10_ofGroup_18 : decode cX10_ofGroup 18 = .ok (.invokevirtual 71, 3) := by decide +kernel
theorem dX10_ofGroup_21 : decode cX10_ofGroup 21 = .ok (.checkcast 60, 3) := by decide +kernel
theorem dX10_ofGroup_24 : decode cX10_ofGroup 24 = .ok (.astore 5, 2) := by decide +kernel
theorem dX10_ofGroup_26 : decode cX10_ofGroup 26 = .ok (.aload_n 0, 1) := by decide +kernel
theorem dX10_ofGroup_27 : decode cX10_ofGroup 27 = .ok (.getfield 33, 3) := by decide +kernel
theorem dX10_ofGroup_30 : decode cX10_ofGroup 30 = .ok (.aload 5, 2) := by decide +kernel
theorem dX10_ofGroup_32 : decode cX10_ofGroup 32 = .ok (.aload_n 0, 1) := by decide +kernel
theorem dX10_ofGroup_33 : decode cX10_ofGroup 33 = .ok (.getfield 10, 3) := by decide +kernel
theorem dX10_ofGroup_36 : decode cX10_ofGroup 36 = .ok (.getfield 286, 3) := by decide +kernel
theorem dX10_ofGroup_39 : decode cX10_ofGroup 39 = .ok (.invokevirtual 311, 3) := by decide +kernel
theorem dX10_ofGroup_42 : decode cX10_ofGroup 42 = .ok (.iload_n 2, 1) := by decide +kernel
theorem dX10_ofGroup_43 : decode cX10_ofGroup 43 = .ok (.ifCond .lt 14, 3) := by decide +kernel
theorem dX10_ofGroup_46 : decode cX10_ofGroup 46 = .ok (.iload_n 2, 1) := by decide +kernel
theorem dX10_ofGroup_47 : decode cX10_ofGroup 47 = .ok (.aload_n 0, 1) := by decide +kernel
theorem dX10_ofGroup_48 : decode cX10_ofGroup 48 = .ok (.getfield 33, 3) := by decide +kernel
theorem dX10_ofGroup_51 : decode cX10_ofGroup 51 = .ok (.getfield 315, 3) := by decide +kernel
theorem dX10_ofGroup_54 : decode cX10_ofGroup 54 = .ok (.if_icmp .lt 14, 3) := by decide +kernel
theorem dX10_ofGroup_57 : decode cX10_ofGroup 57 = .ok (.new 144, 3) := by decide +kernel
theorem dX10_ofGroup_60 : decode cX10_ofGroup 60 = .ok (.dup, 1) := by decide +kernel
theorem dX10_ofGroup_61 : decode cX10_ofGroup 61 = .ok (.ldc_w 318, 3) := by decide +kernel
theorem dX10_ofGroup_64 : decode cX10_ofGroup 64 = .ok (.invokespecial 148, 3) := by decide +kernel
theorem dX10_ofGroup_67 : decode cX10_ofGroup 67 = .ok (.athrow, 1) := by decide +kernel
theorem dX10_ofGroup_68 : decode cX10_ofGroup 68 = .ok (.iload 4, 2) := by decide +kernel
theorem dX10_ofGroup_70 : decode cX10_ofGroup 70 = .ok (.ifCond .lt 9, 3) := by decide +kernel
theorem dX10_ofGroup_73 : decode cX10_ofGroup 73 = .ok (.iload 4, 2) := by decide +kernel
theorem dX10_ofGroup_75 : decode cX10_ofGroup 75 = .ok (.iconst 5, 1) := by decide +kernel
theorem dX10_ofGroup_76 : decode cX10_ofGroup 76 = .ok (.if_icmp .lt 14, 3) := by decide +kernel
theorem dX10_ofGroup_79 : decode cX10_ofGroup 79 = .ok (.new 113, 3) := by decide +kernel
theorem dX10_ofGroup_82 : decode cX10_ofGroup 82 = .ok (.dup, 1) := by decide +kernel
theorem dX10_ofGroup_83 : decode cX10_ofGroup 83 = .ok (.ldc_w 320, 3) := by decide +kernel
theorem dX10_ofGroup_86 : decode cX10_ofGroup 86 = .ok (.invokespecial 117, 3) := by decide +kernel
theorem dX10_ofGroup_89 : decode cX10_ofGroup 89 = .ok (.athrow, 1) := by decide +kernel
theorem dX10_ofGroup_90 : decode cX10_ofGroup 90 = .ok (.aload_n 0, 1) := by decide +kernel
theorem dX10_ofGroup_91 : decode cX10_ofGroup 91 = .ok (.getfield 33, 3) := by decide +kernel
theorem dX10_ofGroup_94 : decode cX10_ofGroup 94 = .ok (.iload_n 2, 1) := by decide +kernel
theorem dX10_ofGroup_95 : decode cX10_ofGroup 95 = .ok (.aload 5, 2) := by decide +kernel
theorem dX10_ofGroup_97 : decode cX10_ofGroup 97 = .ok (.aload_n 0, 1) := by decide +kernel
theorem dX10_ofGroup_98 : decode cX10_ofGroup 98 = .ok (.getfield 10, 3) := by decide +kernel
theorem dX10_ofGroup_101 : decode cX10_ofGroup 101 = .ok (.getfield 37, 3) := by decide +kernel
theorem dX10_ofGroup_104 : decode cX10_ofGroup 104 = .ok (.iload_n 3, 1) := by decide +kernel
theorem dX10_ofGroup_105 : decode cX10_ofGroup 105 = .ok (.invokevirtual 71, 3) := by decide +kernel
theorem dX10_ofGroup_108 : decode cX10_ofGroup 108 = .ok (.checkcast 60, 3) := by decide +kernel
theorem dX10_ofGroup_111 : decode cX10_ofGroup 111 = .ok (.iload 4, 2) := by decide +kernel
theorem dX10_ofGroup_113 : decode cX10_ofGroup 113 = .ok (.invokevirtual 322, 3) := by decide +kernel
theorem dX10_ofGroup_116 : decode cX10_ofGroup 116 = .ok (.ireturn, 1) := by decide +kernel
theorem dX10_keep_0 : decode cX10_keep 0 = .ok (.aload_n 0, 1) := by decide +kernel
theorem dX10_keep_1 : decode cX10_keep 1 = .ok (.getfield 33, 3) := by decide +kernel
theorem dX10_keep_4 : decode cX10_keep 4 = .ok (.invokevirtual 326, 3) := by decide +kernel
theorem dX10_keep_7 : decode cX10_keep 7 = .ok (.ireturn, 1) := by decide +kernel
theorem dX10_pairs_0 : decode cX10_pairs 0 = .ok (.aload_n 0, 1) := by decide +kernel
theorem dX10_pairs_1 : decode cX10_pairs 1 = .ok (.iload_n 1, 1) := by decide +kernel
theorem dX10_pairs_2 : decode cX10_pairs 2 = .ok (.invokevirtual 67, 3) := by decide +kernel
theorem dX10_pairs_5 : decode cX10_pairs 5 = .ok (.aload_n 0, 1) := by decide +kernel
theorem dX10_pairs_6 : decode cX10_pairs 6 = .ok (.iload_n 2, 1) := by decide +kernel
theorem dX10_pairs_7 : decode cX10_pairs 7 = .ok (.invokevirtual 67, 3) := by decide +kernel
theorem dX10_pairs_10 : decode cX10_pairs 10 = .ok (.aload_n 0, 1) := by decide +kernel
theorem dX10_pairs_11 : decode cX10_pairs 11 = .ok (.getfield 33, 3) := by decide +kernel
theorem dX10_pairs_14 : decode cX10_pairs 14 = .ok (.aload_n 0, 1) := by decide +kernel
theorem dX10_pairs_15 : decode cX10_pairs 15 = .ok (.getfield 10, 3) := by decide +kernel
theorem dX10_pairs_18 : decode cX10_pairs 18 = .ok (.getfield 37, 3) := by decide +kernel
theorem dX10_pairs_21 : decode cX10_pairs 21 = .ok (.iload_n 1, 1) := by decide +kernel
theorem dX10_pairs_22 : decode cX10_pairs 22 = .ok (.invokevirtual 71, 3) := by decide +kernel
theorem dX10_pairs_25 : decode cX10_pairs 25 = .ok (.checkcast 60, 3) := by decide +kernel
theorem dX10_pairs_28 : decode cX10_pairs 28 = .ok (.aload_n 0, 1) := by decide +kernel
theorem dX10_pairs_29 : decode cX10_pairs 29 = .ok (.getfield 10, 3) := by decide +kernel
theorem dX10_pairs_32 : decode cX10_pairs 32 = .ok (.getfield 37, 3) := by decide +kernel
theorem dX10_pairs_35 : decode cX10_pairs 35 = .ok (.iload_n 2, 1) := by decide +kernel
theorem dX10_pairs_36 : decode cX10_pairs 36 = .ok (.invokevirtual 71, 3) := by decide +kernel
theorem dX10_pairs_39 : decode cX10_pairs 39 = .ok (.checkcast 60, 3) := by decide +kernel
theorem dX10_pairs_42 : decode cX10_pairs 42 = .ok (.invokevirtual 329, 3) := by decide +kernel
theorem dX10_pairs_45 : decode cX10_pairs 45 = .ok (.ireturn, 1) := by decide +kernel
theorem dX10_costWithout_0 : decode cX10_costWithout 0 = .ok (.aload_n 0, 1) := by decide +kernel
theorem dX10_costWithout_1 : decode cX10_costWithout 1 = .ok (.getfield 26, 3) := by decide +kernel
theorem dX10_costWithout_4 : decode cX10_costWithout 4 = .ok (.aload_n 0, 1) := by decide +kernel
theorem dX10_costWithout_5 : decode cX10_costWithout 5 = .ok (.getfield 10, 3) := by decide +kernel
theorem dX10_costWithout_8 : decode cX10_costWithout 8 = .ok (.aload_n 0, 1) := by decide +kernel
theorem dX10_costWithout_9 : decode cX10_costWithout 9 = .ok (.getfield 19, 3) := by decide +kernel
theorem dX10_costWithout_12 : decode cX10_costWithout 12 = .ok (.iconst 0, 1) := by decide +kernel
theorem dX10_costWithout_13 : decode cX10_costWithout 13 = .ok (.invokevirtual 243, 3) := by decide +kernel
theorem dX10_costWithout_16 : decode cX10_costWithout 16 = .ok (.aload_n 0, 1) := by decide +kernel
theorem dX10_costWithout_17 : decode cX10_costWithout 17 = .ok (.getfield 26, 3) := by decide +kernel
theorem dX10_costWithout_20 : decode cX10_costWithout 20 = .ok (.getfield 247, 3) := by decide +kernel
theorem dX10_costWithout_23 : decode cX10_costWithout 23 = .ok (.ireturn, 1) := by decide +kernel
theorem dX10_wouldFind_0 : decode cX10_wouldFind 0 = .ok (.aload_n 0, 1) := by decide +kernel
theorem dX10_wouldFind_1 : decode cX10_wouldFind 1 = .ok (.getfield 26, 3) := by decide +kernel
theorem dX10_wouldFind_4 : decode cX10_wouldFind 4 = .ok (.aload_n 0, 1) := by decide +kernel
theorem dX10_wouldFind_5 : decode cX10_wouldFind 5 = .ok (.getfield 10, 3) := by decide +kernel
theorem dX10_wouldFind_8 : decode cX10_wouldFind 8 = .ok (.aload_n 0, 1) := by decide +kernel
theorem dX10_wouldFind_9 : decode cX10_wouldFind 9 = .ok (.getfield 19, 3) := by decide +kernel
theorem dX10_wouldFind_12 : decode cX10_wouldFind 12 = .ok (.iconst 1, 1) := by decide +kernel
theorem dX10_wouldFind_13 : decode cX10_wouldFind 13 = .ok (.invokevirtual 243, 3) := by decide +kernel
theorem dX10_wouldFind_16 : decode cX10_wouldFind 16 = .ok (.aload_n 0, 1) := by decide +kernel
theorem dX10_wouldFind_17 : decode cX10_wouldFind 17 = .ok (.getfield 26, 3) := by decide +kernel
theorem dX10_wouldFind_20 : decode cX10_wouldFind 20 = .ok (.getfield 260, 3) := by decide +kernel
theorem dX10_wouldFind_23 : decode cX10_wouldFind 23 = .ok (.ireturn, 1) := by decide +kernel
theorem dX10_digest_0 : decode cX10_digest 0 = .ok (.aload_n 0, 1) := by decide +kernel
theorem dX10_digest_1 : decode cX10_digest 1 = .ok (.aload_n 0, 1) := by decide +kernel
theorem dX10_digest_2 : decode cX10_digest 2 = .ok (.aload_n 0, 1) := by decide +kernel
theorem dX10_digest_3 : decode cX10_digest 3 = .ok (.ldc2_w 336, 3) := by decide +kernel
theorem dX10_digest_6 : decode cX10_digest 6 = .ok (.invokevirtual 338, 3) := by decide +kernel
theorem dX10_digest_9 : decode cX10_digest 9 = .ok (.invokevirtual 342, 3) := by decide +kernel
theorem dX10_digest_12 : decode cX10_digest 12 = .ok (.invokevirtual 345, 3) := by decide +kernel
theorem dX10_digest_15 : decode cX10_digest 15 = .ok (.lreturn, 1) := by decide +kernel
theorem dX10_needColumn_0 : decode cX10_needColumn 0 = .ok (.iload_n 1, 1) := by decide +kernel
theorem dX10_needColumn_1 : decode cX10_needColumn 1 = .ok (.ifCond .lt 17, 3) := by decide +kernel
theorem dX10_needColumn_4 : decode cX10_needColumn 4 = .ok (.iload_n 1, 1) := by decide +kernel
theorem dX10_needColumn_5 : decode cX10_needColumn 5 = .ok (.aload_n 0, 1) := by decide +kernel
theorem dX10_needColumn_6 : decode cX10_needColumn 6 = .ok (.getfield 10, 3) := by decide +kernel
theorem dX10_needColumn_9 : decode cX10_needColumn 9 = .ok (.getfield 37, 3) := by decide +kernel
theorem dX10_needColumn_12 : decode cX10_needColumn 12 = .ok (.invokevirtual 41, 3) := by decide +kernel
theorem dX10_needColumn_15 : decode cX10_needColumn 15 = .ok (.if_icmp .lt 14, 3) := by decide +kernel
theorem dX10_needColumn_18 : decode cX10_needColumn 18 = .ok (.new 144, 3) := by decide +kernel
theorem dX10_needColumn_21 : decode cX10_needColumn 21 = .ok (.dup, 1) := by decide +kernel
theorem dX10_needColumn_22 : decode cX10_needColumn 22 = .ok (.ldc_w 348, 3) := by decide +kernel
theorem dX10_needColumn_25 : decode cX10_needColumn 25 = .ok (.invokespecial 148, 3) := by decide +kernel
theorem dX10_needColumn_28 : decode cX10_needColumn 28 = .ok (.athrow, 1) := by decide +kernel
theorem dX10_needColumn_29 : decode cX10_needColumn 29 = .ok (.return_, 1) := by decide +kernel
theorem dX10_needRow_0 : decode cX10_needRow 0 = .ok (.iload_n 1, 1) := by decide +kernel
theorem dX10_needRow_1 : decode cX10_needRow 1 = .ok (.ifCond .lt 14, 3) := by decide +kernel
theorem dX10_needRow_4 : decode cX10_needRow 4 = .ok (.iload_n 1, 1) := by decide +kernel
theorem dX10_needRow_5 : decode cX10_needRow 5 = .ok (.aload_n 0, 1) := by decide +kernel
theorem dX10_needRow_6 : decode cX10_needRow 6 = .ok (.getfield 10, 3) := by decide +kernel
theorem dX10_needRow_9 : decode cX10_needRow 9 = .ok (.getfield 54, 3) := by decide +kernel
theorem dX10_needRow_12 : decode cX10_needRow 12 = .ok (.if_icmp .lt 14, 3) := by decide +kernel
theorem dX10_needRow_15 : decode cX10_needRow 15 = .ok (.new 144, 3) := by decide +kernel
theorem dX10_needRow_18 : decode cX10_needRow 18 = .ok (.dup, 1) := by decide +kernel
theorem dX10_needRow_19 : decode cX10_needRow 19 = .ok (.ldc_w 350, 3) := by decide +kernel
theorem dX10_needRow_22 : decode cX10_needRow 22 = .ok (.invokespecial 148, 3) := by decide +kernel
theorem dX10_needRow_25 : decode cX10_needRow 25 = .ok (.athrow, 1) := by decide +kernel
theorem dX10_needRow_26 : decode cX10_needRow 26 = .ok (.return_, 1) := by decide +kernel
theorem dX10_needFrame_0 : decode cX10_needFrame 0 = .ok (.iload_n 1, 1) := by decide +kernel
theorem dX10_needFrame_1 : decode cX10_needFrame 1 = .ok (.ifCond .lt 17, 3) := by decide +kernel
theorem dX10_needFrame_4 : decode cX10_needFrame 4 = .ok (.iload_n 1, 1) := by decide +kernel
theorem dX10_needFrame_5 : decode cX10_needFrame 5 = .ok (.aload_n 0, 1) := by decide +kernel
theorem dX10_needFrame_6 : decode cX10_needFrame 6 = .ok (.getfield 10, 3) := by decide +kernel
theorem dX10_needFrame_9 : decode cX10_needFrame 9 = .ok (.getfield 141, 3) := by decide +kernel
theorem dX10_needFrame_12 : decode cX10_needFrame 12 = .ok (.invokevirtual 41, 3) := by decide +kernel
theorem dX10_needFrame_15 : decode cX10_needFrame 15 = .ok (.if_icmp .lt 14, 3) := by decide +kernel
theorem dX10_needFrame_18 : decode cX10_needFrame 18 = .ok (.new 144, 3) := by decide +kernel
theorem dX10_needFrame_21 : decode cX10_needFrame 21 = .ok (.dup, 1) := by decide +kernel
theorem dX10_needFrame_22 : decode cX10_needFrame 22 = .ok (.ldc_w 352, 3) := by decide +kernel
theorem dX10_needFrame_25 : decode cX10_needFrame 25 = .ok (.invokespecial 148, 3) := by decide +kernel
theorem dX10_needFrame_28 : decode cX10_needFrame 28 = .ok (.athrow, 1) := by decide +kernel
theorem dX10_needFrame_29 : decode cX10_needFrame 29 = .ok (.return_, 1) := by decide +kernel
theorem dX10_needRoom_0 : decode cX10_needRoom 0 = .ok (.aload_n 0, 1) := by decide +kernel
theorem dX10_needRoom_1 : decode cX10_needRoom 1 = .ok (.getfield 10, 3) := by decide +kernel
theorem dX10_needRoom_4 : decode cX10_needRoom 4 = .ok (.getfield 54, 3) := by decide +kernel
theorem dX10_needRoom_7 : decode cX10_needRoom 7 = .ok (.sipush 600, 3) := by decide +kernel
theorem dX10_needRoom_10 : decode cX10_needRoom 10 = .ok (.if_icmp .lt 14, 3) := by decide +kernel
theorem dX10_needRoom_13 : decode cX10_needRoom 13 = .ok (.new 47, 3) := by decide +kernel
theorem dX10_needRoom_16 : decode cX10_needRoom 16 = .ok (.dup, 1) := by decide +kernel
theorem dX10_needRoom_17 : decode cX10_needRoom 17 = .ok (.ldc_w 354, 3) := by decide +kernel
theorem dX10_needRoom_20 : decode cX10_needRoom 20 = .ok (.invokespecial 51, 3) := by decide +kernel
theorem dX10_needRoom_23 : decode cX10_needRoom 23 = .ok (.athrow, 1) := by decide +kernel
theorem dX10_needRoom_24 : decode cX10_needRoom 24 = .ok (.return_, 1) := by decide +kernel
theorem dX10_zoneOf_0 : decode cX10_zoneOf 0 = .ok (.aload_n 0, 1) := by decide +kernel
theorem dX10_zoneOf_1 : decode cX10_zoneOf 1 = .ok (.iload_n 1, 1) := by decide +kernel
theorem dX10_zoneOf_2 : decode cX10_zoneOf 2 = .ok (.invokevirtual 134, 3) := by decide +kernel
theorem dX10_zoneOf_5 : decode cX10_zoneOf 5 = .ok (.aload_n 0, 1) := by decide +kernel
theorem dX10_zoneOf_6 : decode cX10_zoneOf 6 = .ok (.iload_n 2, 1) := by decide +kernel
theorem dX10_zoneOf_7 : decode cX10_zoneOf 7 = .ok (.invokevirtual 67, 3) := by decide +kernel
theorem dX10_zoneOf_10 : decode cX10_zoneOf 10 = .ok (.aload_n 0, 1) := by decide +kernel
theorem dX10_zoneOf_11 : decode cX10_zoneOf 11 = .ok (.getfield 10, 3) := by decide +kernel
theorem dX10_zoneOf_14 : decode cX10_zoneOf 14 = .ok (.getfield 141, 3) := by decide +kernel
theorem dX10_zoneOf_17 : decode cX10_zoneOf 17 = .ok (.iload_n 1, 1) := by decide +kernel
theorem dX10_zoneOf_18 : decode cX10_zoneOf 18 = .ok (.invokevirtual 71, 3) := by decide +kernel
theorem dX10_zoneOf_21 : decode cX10_zoneOf 21 = .ok (.checkcast 125, 3) := by decide +kernel
theorem dX10_zoneOf_24 : decode cX10_zoneOf 24 = .ok (.getfield 356, 3) := by decide +kernel
theorem dX10_zoneOf_27 : decode cX10_zoneOf 27 = .ok (.iload_n 2, 1) := by decide +kernel
theorem dX10_zoneOf_28 : decode cX10_zoneOf 28 = .ok (.aaload, 1) := by decide +kernel
theorem dX10_zoneOf_29 : decode cX10_zoneOf 29 = .ok (.areturn, 1) := by decide +kernel
theorem dX10_mixed_0 : decode cX10_mixed 0 = .ok (.lload_n 0, 1) := by decide +kernel
theorem dX10_mixed_1 : decode cX10_mixed 1 = .ok (.ldc2_w 370, 3) := by decide +kernel
theorem dX10_mixed_4 : decode cX10_mixed 4 = .ok (.lmul, 1) := by decide +kernel
theorem dX10_mixed_5 : decode cX10_mixed 5 = .ok (.lload_n 2, 1) := by decide +kernel
theorem dX10_mixed_6 : decode cX10_mixed 6 = .ok (.ladd, 1) := by decide +kernel
theorem dX10_mixed_7 : decode cX10_mixed 7 = .ok (.lreturn, 1) := by decide +kernel
theorem dX10_digestOfCounts_0 : decode cX10_digestOfCounts 0 = .ok (.lload_n 1, 1) := by decide +kernel
theorem dX10_digestOfCounts_1 : decode cX10_digestOfCounts 1 = .ok (.aload_n 0, 1) := by decide +kernel
theorem dX10_digestOfCounts_2 : decode cX10_digestOfCounts 2 = .ok (.getfield 10, 3) := by decide +kernel
theorem dX10_digestOfCounts_5 : decode cX10_digestOfCounts 5 = .ok (.getfield 37, 3) := by decide +kernel
theorem dX10_digestOfCounts_8 : decode cX10_digestOfCounts 8 = .ok (.invokevirtual 41, 3) := by decide +kernel
theorem dX10_digestOfCounts_11 : decode cX10_digestOfCounts 11 = .ok (.i2l, 1) := by decide +kernel
theorem dX10_digestOfCounts_12 : decode cX10_digestOfCounts 12 = .ok (.invokestatic 372, 3) := by decide +kernel
theorem dX10_digestOfCounts_15 : decode cX10_digestOfCounts 15 = .ok (.lstore_n 3, 1) := by decide +kernel
theorem dX10_digestOfCounts_16 : decode cX10_digestOfCounts 16 = .ok (.lload_n 3, 1) := by decide +kernel
theorem dX10_digestOfCounts_17 : decode cX10_digestOfCounts 17 = .ok (.aload_n 0, 1) := by decide +kernel
theorem dX10_digestOfCounts_18 : decode cX10_digestOfCounts 18 = .ok (.getfield 10, 3) := by decide +kernel
theorem dX10_digestOfCounts_21 : decode cX10_digestOfCounts 21 = .ok (.getfield 54, 3) := by decide +kernel
theorem dX10_digestOfCounts_24 : decode cX10_digestOfCounts 24 = .ok (.i2l, 1) := by decide +kernel
theorem dX10_digestOfCounts_25 : decode cX10_digestOfCounts 25 = .ok (.invokestatic 372, 3) := by decide +kernel
theorem dX10_digestOfCounts_28 : decode cX10_digestOfCounts 28 = .ok (.lstore_n 3, 1) := by decide +kernel
theorem dX10_digestOfCounts_29 : decode cX10_digestOfCounts 29 = .ok (.lload_n 3, 1) := by decide +kernel
theorem dX10_digestOfCounts_30 : decode cX10_digestOfCounts 30 = .ok (.aload_n 0, 1) := by decide +kernel
theorem dX10_digestOfCounts_31 : decode cX10_digestOfCounts 31 = .ok (.getfield 10, 3) := by decide +kernel
theorem dX10_digestOfCounts_34 : decode cX10_digestOfCounts 34 = .ok (.getfield 162, 3) := by decide +kernel
theorem dX10_digestOfCounts_37 : decode cX10_digestOfCounts 37 = .ok (.i2l, 1) := by decide +kernel
theorem dX10_digestOfCounts_38 : decode cX10_digestOfCounts 38 = .ok (.invokestatic 372, 3) := by decide +kernel
theorem dX10_digestOfCounts_41 : decode cX10_digestOfCounts 41 = .ok (.lstore_n 3, 1) := by decide +kernel
theorem dX10_digestOfCounts_42 : decode cX10_digestOfCounts 42 = .ok (.lload_n 3, 1) := by decide +kernel
theorem dX10_digestOfCounts_43 : decode cX10_digestOfCounts 43 = .ok (.aload_n 0, 1) := by decide +kernel
theorem dX10_digestOfCounts_44 : decode cX10_digestOfCounts 44 = .ok (.getfield 10, 3) := by decide +kernel
theorem dX10_digestOfCounts_47 : decode cX10_digestOfCounts 47 = .ok (.getfield 141, 3) := by decide +kernel
theorem dX10_digestOfCounts_50 : decode cX10_digestOfCounts 50 = .ok (.invokevirtual 41, 3) := by decide +kernel
theorem dX10_digestOfCounts_53 : decode cX10_digestOfCounts 53 = .ok (.i2l, 1) := by decide +kernel
theorem dX10_digestOfCounts_54 : decode cX10_digestOfCounts 54 = .ok (.invokestatic 372, 3) := by decide +kernel
theorem dX10_digestOfCounts_57 : decode cX10_digestOfCounts 57 = .ok (.lstore_n 3, 1) := by decide +kernel
theorem dX10_digestOfCounts_58 : decode cX10_digestOfCounts 58 = .ok (.lload_n 3, 1) := by decide +kernel
theorem dX10_digestOfCounts_59 : decode cX10_digestOfCounts 59 = .ok (.aload_n 0, 1) := by decide +kernel
theorem dX10_digestOfCounts_60 : decode cX10_digestOfCounts 60 = .ok (.getfield 10, 3) := by decide +kernel
theorem dX10_digestOfCounts_63 : decode cX10_digestOfCounts 63 = .ok (.getfield 120, 3) := by decide +kernel
theorem dX10_digestOfCounts_66 : decode cX10_digestOfCounts 66 = .ok (.getfield 124, 3) := by decide +kernel
theorem dX10_digestOfCounts_69 : decode cX10_digestOfCounts 69 = .ok (.i2l, 1) := by decide +kernel
theorem dX10_digestOfCounts_70 : decode cX10_digestOfCounts 70 = .ok (.invokestatic 372, 3) := by decide +kernel
theorem dX10_digestOfCounts_73 : decode cX10_digestOfCounts 73 = .ok (.lstore_n 3, 1) := by decide +kernel
theorem dX10_digestOfCounts_74 : decode cX10_digestOfCounts 74 = .ok (.lload_n 3, 1) := by decide +kernel
theorem dX10_digestOfCounts_75 : decode cX10_digestOfCounts 75 = .ok (.aload_n 0, 1) := by decide +kernel
theorem dX10_digestOfCounts_76 : decode cX10_digestOfCounts 76 = .ok (.getfield 10, 3) := by decide +kernel
theorem dX10_digestOfCounts_79 : decode cX10_digestOfCounts 79 = .ok (.invokevirtual 197, 3) := by decide +kernel
theorem dX10_digestOfCounts_82 : decode cX10_digestOfCounts 82 = .ok (.i2l, 1) := by decide +kernel
theorem dX10_digestOfCounts_83 : decode cX10_digestOfCounts 83 = .ok (.invokestatic 372, 3) := by decide +kernel
theorem dX10_digestOfCounts_86 : decode cX10_digestOfCounts 86 = .ok (.lstore_n 3, 1) := by decide +kernel
theorem dX10_digestOfCounts_87 : decode cX10_digestOfCounts 87 = .ok (.lload_n 3, 1) := by decide +kernel
theorem dX10_digestOfCounts_88 : decode cX10_digestOfCounts 88 = .ok (.aload_n 0, 1) := by decide +kernel
theorem dX10_digestOfCounts_89 : decode cX10_digestOfCounts 89 = .ok (.getfield 250, 3) := by decide +kernel
theorem dX10_digestOfCounts_92 : decode cX10_digestOfCounts 92 = .ok (.i2l, 1) := by decide +kernel
theorem dX10_digestOfCounts_93 : decode cX10_digestOfCounts 93 = .ok (.invokestatic 372, 3) := by decide +kernel
theorem dX10_digestOfCounts_96 : decode cX10_digestOfCounts 96 = .ok (.lstore_n 3, 1) := by decide +kernel
theorem dX10_digestOfCounts_97 : decode cX10_digestOfCounts 97 = .ok (.lload_n 3, 1) := by decide +kernel
theorem dX10_digestOfCounts_98 : decode cX10_digestOfCounts 98 = .ok (.aload_n 0, 1) := by decide +kernel
theorem dX10_digestOfCounts_99 : decode cX10_digestOfCounts 99 = .ok (.getfield 256, 3) := by decide +kernel
theorem dX10_digestOfCounts_102 : decode cX10_digestOfCounts 102 = .ok (.i2l, 1) := by decide +kernel
theorem dX10_digestOfCounts_103 : decode cX10_digestOfCounts 103 = .ok (.invokestatic 372, 3) := by decide +kernel
theorem dX10_digestOfCounts_106 : decode cX10_digestOfCounts 106 = .ok (.lstore_n 3, 1) := by decide +kernel
theorem dX10_digestOfCounts_107 : decode cX10_digestOfCounts 107 = .ok (.lload_n 3, 1) := by decide +kernel
theorem dX10_digestOfCounts_108 : decode cX10_digestOfCounts 108 = .ok (.aload_n 0, 1) := by decide +kernel
theorem dX10_digestOfCounts_109 : decode cX10_digestOfCounts 109 = .ok (.getfield 33, 3) := by decide +kernel
theorem dX10_digestOfCounts_112 : decode cX10_digestOfCounts 112 = .ok (.getfield 265, 3) := by decide +kernel
theorem dX10_digestOfCounts_115 : decode cX10_digestOfCounts 115 = .ok (.i2l, 1) := by decide +kernel
theorem dX10_digestOfCounts_116 : decode cX10_digestOfCounts 116 = .ok (.invokestatic 372, 3) := by decide +kernel
theorem dX10_digestOfCounts_119 : decode cX10_digestOfCounts 119 = .ok (.lstore_n 3, 1) := by decide +kernel
theorem dX10_digestOfCounts_120 : decode cX10_digestOfCounts 120 = .ok (.iconst 0, 1) := by decide +kernel
theorem dX10_digestOfCounts_121 : decode cX10_digestOfCounts 121 = .ok (.istore 5, 2) := by decide +kernel
theorem dX10_digestOfCounts_123 : decode cX10_digestOfCounts 123 = .ok (.iload 5, 2) := by decide +kernel
theorem dX10_digestOfCounts_125 : decode cX10_digestOfCounts 125 = .ok (.aload_n 0, 1) := by decide +kernel
theorem dX10_digestOfCounts_126 : decode cX10_digestOfCounts 126 = .ok (.getfield 33, 3) := by decide +kernel
theorem dX10_digestOfCounts_129 : decode cX10_digestOfCounts 129 = .ok (.getfield 265, 3) := by decide +kernel
theorem dX10_digestOfCounts_132 : decode cX10_digestOfCounts 132 = .ok (.if_icmp .ge 25, 3) := by decide +kernel
theorem dX10_digestOfCounts_135 : decode cX10_digestOfCounts 135 = .ok (.lload_n 3, 1) := by decide +kernel
theorem dX10_digestOfCounts_136 : decode cX10_digestOfCounts 136 = .ok (.aload_n 0, 1) := by decide +kernel
theorem dX10_digestOfCounts_137 : decode cX10_digestOfCounts 137 = .ok (.getfield 33, 3) := by decide +kernel
theorem dX10_digestOfCounts_140 : decode cX10_digestOfCounts 140 = .ok (.getfield 285, 3) := by decide +kernel
theorem dX10_digestOfCounts_143 : decode cX10_digestOfCounts 143 = .ok (.iload 5, 2) := by decide +kernel
theorem dX10_digestOfCounts_145 : decode cX10_digestOfCounts 145 = .ok (.iaload, 1) := by decide +kernel
theorem dX10_digestOfCounts_146 : decode cX10_digestOfCounts 146 = .ok (.i2l, 1) := by decide +kernel
theorem dX10_digestOfCounts_147 : decode cX10_digestOfCounts 147 = .ok (.invokestatic 372, 3) := by decide +kernel
theorem dX10_digestOfCounts_150 : decode cX10_digestOfCounts 150 = .ok (.lstore_n 3, 1) := by decide +kernel
theorem dX10_digestOfCounts_151 : decode cX10_digestOfCounts 151 = .ok (.iinc 5 1, 3) := by decide +kernel
theorem dX10_digestOfCounts_154 : decode cX10_digestOfCounts 154 = .ok (.goto (-31), 3) := by decide +kernel
theorem dX10_digestOfCounts_157 : decode cX10_digestOfCounts 157 = .ok (.lload_n 3, 1) := by decide +kernel
theorem dX10_digestOfCounts_158 : decode cX10_digestOfCounts 158 = .ok (.lreturn, 1) := by decide +kernel
theorem dX10_digestOfRows_0 : decode cX10_digestOfRows 0 = .ok (.lload_n 1, 1) := by decide +kernel
theorem dX10_digestOfRows_1 : decode cX10_digestOfRows 1 = .ok (.lstore_n 3, 1) := by decide +kernel
theorem dX10_digestOfRows_2 : decode cX10_digestOfRows 2 = .ok (.iconst 0, 1) := by decide +kernel
theorem dX10_digestOfRows_3 : decode cX10_digestOfRows 3 = .ok (.istore 5, 2) := by decide +kernel
theorem dX10_digestOfRows_5 : decode cX10_digestOfRows 5 = .ok (.iload 5, 2) := by decide +kernel
theorem dX10_digestOfRows_7 : decode cX10_digestOfRows 7 = .ok (.aload_n 0, 1) := by decide +kernel
theorem dX10_digestOfRows_8 : decode cX10_digestOfRows 8 = .ok (.getfield 10, 3) := by decide +kernel
theorem dX10_digestOfRows_11 : decode cX10_digestOfRows 11 = .ok (.getfield 54, 3) := by decide +kernel
theorem dX10_digestOfRows_14 : decode cX10_digestOfRows 14 = .ok (.if_icmp .ge 124, 3) := by decide +kernel
theorem dX10_digestOfRows_17 : decode cX10_digestOfRows 17 = .ok (.lload_n 3, 1) := by decide +kernel
theorem dX10_digestOfRows_18 : decode cX10_digestOfRows 18 = .ok (.aload_n 0, 1) := by decide +kernel
theorem dX10_digestOfRows_19 : decode cX10_digestOfRows 19 = .ok (.getfield 10, 3) := by decide +kernel
theorem dX10_digestOfRows_22 : decode cX10_digestOfRows 22 = .ok (.getfield 103, 3) := by decide +kernel
theorem dX10_digestOfRows_25 : decode cX10_digestOfRows 25 = .ok (.iload 5, 2) := by decide +kernel
theorem dX10_digestOfRows_27 : decode cX10_digestOfRows 27 = .ok (.baload, 1) := by decide +kernel
theorem dX10_digestOfRows_28 : decode cX10_digestOfRows 28 = .ok (.ifCond .eq 7, 3) := by decide +kernel
theorem dX10_digestOfRows_31 : decode cX10_digestOfRows 31 = .ok (.lconst 1, 1) := by decide +kernel
theorem dX10_digestOfRows_32 : decode cX10_digestOfRows 32 = .ok (.goto 4, 3) := by decide +kernel
theorem dX10_digestOfRows_35 : decode cX10_digestOfRows 35 = .ok (.lconst 0, 1) := by decide +kernel
theorem dX10_digestOfRows_36 : decode cX10_digestOfRows 36 = .ok (.invokestatic 372, 3) := by decide +kernel
theorem dX10_digestOfRows_39 : decode cX10_digestOfRows 39 = .ok (.lstore_n 3, 1) := by decide +kernel
theorem dX10_digestOfRows_40 : decode cX10_digestOfRows 40 = .ok (.lload_n 3, 1) := by decide +kernel
theorem dX10_digestOfRows_41 : decode cX10_digestOfRows 41 = .ok (.aload_n 0, 1) := by decide +kernel
theorem dX10_digestOfRows_42 : decode cX10_digestOfRows 42 = .ok (.getfield 10, 3) := by decide +kernel
theorem dX10_digestOfRows_45 : decode cX10_digestOfRows 45 = .ok (.getfield 172, 3) := by decide +kernel
theorem dX10_digestOfRows_48 : decode cX10_digestOfRows 48 = .ok (.iload 5, 2) := by decide +kernel
theorem dX10_digestOfRows_50 : decode cX10_digestOfRows 50 = .ok (.iaload, 1) := by decide +kernel
theorem dX10_digestOfRows_51 : decode cX10_digestOfRows 51 = .ok (.i2l, 1) := by decide +kernel
theorem dX10_digestOfRows_52 : decode cX10_digestOfRows 52 = .ok (.invokestatic 372, 3) := by decide +kernel
theorem dX10_digestOfRows_55 : decode cX10_digestOfRows 55 = .ok (.lstore_n 3, 1) := by decide +kernel
theorem dX10_digestOfRows_56 : decode cX10_digestOfRows 56 = .ok (.iconst 0, 1) := by decide +kernel
theorem dX10_digestOfRows_57 : decode cX10_digestOfRows 57 = .ok (.istore 6, 2) := by decide +kernel
theorem dX10_digestOfRows_59 : decode cX10_digestOfRows 59 = .ok (.iload 6, 2) := by decide +kernel
theorem dX10_digestOfRows_61 : decode cX10_digestOfRows 61 = .ok (.aload_n 0, 1) := by decide +kernel
theorem dX10_digestOfRows_62 : decode cX10_digestOfRows 62 = .ok (.getfield 10, 3) := by decide +kernel
theorem dX10_digestOfRows_65 : decode cX10_digestOfRows 65 = .ok (.getfield 37, 3) := by decide +kernel
theorem dX10_digestOfRows_68 : decode cX10_digestOfRows 68 = .ok (.invokevirtual 41, 3) := by decide +kernel
theorem dX10_digestOfRows_71 : decode cX10_digestOfRows 71 = .ok (.if_icmp .ge 61, 3) := by decide +kernel
theorem dX10_digestOfRows_74 : decode cX10_digestOfRows 74 = .ok (.aload_n 0, 1) := by decide +kernel
theorem dX10_digestOfRows_75 : decode cX10_digestOfRows 75 = .ok (.getfield 10, 3) := by decide +kernel
theorem dX10_digestOfRows_78 : decode cX10_digestOfRows 78 = .ok (.getfield 37, 3) := by decide +kernel
theorem dX10_digestOfRows_81 : decode cX10_digestOfRows 81 = .ok (.iload 6, 2) := by decide +kernel
theorem dX10_digestOfRows_83 : decode cX10_digestOfRows 83 = .ok (.invokevirtual 71, 3) := by decide +kernel
theorem dX10_digestOfRows_86 : decode cX10_digestOfRows 86 = .ok (.checkcast 60, 3) := by decide +kernel
theorem dX10_digestOfRows_89 : decode cX10_digestOfRows 89 = .ok (.astore 7, 2) := by decide +kernel
theorem dX10_digestOfRows_91 : decode cX10_digestOfRows 91 = .ok (.lload_n 3, 1) := by decide +kernel
theorem dX10_digestOfRows_92 : decode cX10_digestOfRows 92 = .ok (.aload 7, 2) := by decide +kernel
theorem dX10_digestOfRows_94 : decode cX10_digestOfRows 94 = .ok (.getfield 165, 3) := by decide +kernel
theorem dX10_digestOfRows_97 : decode cX10_digestOfRows 97 = .ok (.iload 5, 2) := by decide +kernel
theorem dX10_digestOfRows_99 : decode cX10_digestOfRows 99 = .ok (.baload, 1) := by decide +kernel
theorem dX10_digestOfRows_100 : decode cX10_digestOfRows 100 = .ok (.ifCond .eq 7, 3) := by decide +kernel
theorem dX10_digestOfRows_103 : decode cX10_digestOfRows 103 = .ok (.lconst 1, 1) := by decide +kernel
theorem dX10_digestOfRows_104 : decode cX10_digestOfRows 104 = .ok (.goto 4, 3) := by decide +kernel
theorem dX10_digestOfRows_107 : decode cX10_digestOfRows 107 = .ok (.lconst 0, 1) := by decide +kernel
theorem dX10_digestOfRows_108 : decode cX10_digestOfRows 108 = .ok (.invokestatic 372, 3) := by decide +kernel
theorem dX10_digestOfRows_111 : decode cX10_digestOfRows 111 = .ok (.lstore_n 3, 1) := by decide +kernel
theorem dX10_digestOfRows_112 : decode cX10_digestOfRows 112 = .ok (.lload_n 3, 1) := by decide +kernel
theorem dX10_digestOfRows_113 : decode cX10_digestOfRows 113 = .ok (.aload 7, 2) := by decide +kernel
end
section
theorem dX10_digestOfRows_115 : decode cX10_digestOfRows 115 = .ok (.getfield 168, 3) := by decide +kernel
theorem dX10_digestOfRows_118 : decode cX10_digestOfRows 118 = .ok (.iload 5, 2) := by decide +kernel
theorem dX10_digestOfRows_120 : decode cX10_digestOfRows 120 = .ok (.iaload, 1) := by decide +kernel
theorem dX10_digestOfRows_121 : decode cX10_digestOfRows 121 = .ok (.i2l, 1) := by decide +kernel
theorem dX10_digestOfRows_122 : decode cX10_digestOfRows 122 = .ok (.invokestatic 372, 3) := by decide +kernel
theorem dX10_digestOfRows_125 : decode cX10_digestOfRows 125 = .ok (.lstore_n 3, 1) := by decide +kernel
theorem dX10_digestOfRows_126 : decode cX10_digestOfRows 126 = .ok (.iinc 6 1, 3) := by decide +kernel
theorem dX10_digestOfRows_129 : decode cX10_digestOfRows 129 = .ok (.goto (-70), 3) := by decide +kernel
theorem dX10_digestOfRows_132 : decode cX10_digestOfRows 132 = .ok (.iinc 5 1, 3) := by decide +kernel
theorem dX10_digestOfRows_135 : decode cX10_digestOfRows 135 = .ok (.goto (-130), 3) := by decide +kernel
theorem dX10_digestOfRows_138 : decode cX10_digestOfRows 138 = .ok (.lload_n 3, 1) := by decide +kernel
theorem dX10_digestOfRows_139 : decode cX10_digestOfRows 139 = .ok (.lreturn, 1) := by decide +kernel
theorem dX10_digestOfFrames_0 : decode cX10_digestOfFrames 0 = .ok (.lload_n 1, 1) := by decide +kernel
theorem dX10_digestOfFrames_1 : decode cX10_digestOfFrames 1 = .ok (.lstore_n 3, 1) := by decide +kernel
theorem dX10_digestOfFrames_2 : decode cX10_digestOfFrames 2 = .ok (.iconst 0, 1) := by decide +kernel
theorem dX10_digestOfFrames_3 : decode cX10_digestOfFrames 3 = .ok (.istore 5, 2) := by decide +kernel
theorem dX10_digestOfFrames_5 : decode cX10_digestOfFrames 5 = .ok (.iload 5, 2) := by decide +kernel
theorem dX10_digestOfFrames_7 : decode cX10_digestOfFrames 7 = .ok (.aload_n 0, 1) := by decide +kernel
theorem dX10_digestOfFrames_8 : decode cX10_digestOfFrames 8 = .ok (.getfield 10, 3) := by decide +kernel
theorem dX10_digestOfFrames_11 : decode cX10_digestOfFrames 11 = .ok (.getfield 141, 3) := by decide +kernel
theorem dX10_digestOfFrames_14 : decode cX10_digestOfFrames 14 = .ok (.invokevirtual 41, 3) := by decide +kernel
theorem dX10_digestOfFrames_17 : decode cX10_digestOfFrames 17 = .ok (.if_icmp .ge 118, 3) := by decide +kernel
theorem dX10_digestOfFrames_20 : decode cX10_digestOfFrames 20 = .ok (.aload_n 0, 1) := by decide +kernel
theorem dX10_digestOfFrames_21 : decode cX10_digestOfFrames 21 = .ok (.getfield 10, 3) := by decide +kernel
theorem dX10_digestOfFrames_24 : decode cX10_digestOfFrames 24 = .ok (.getfield 141, 3) := by decide +kernel
theorem dX10_digestOfFrames_27 : decode cX10_digestOfFrames 27 = .ok (.iload 5, 2) := by decide +kernel
theorem dX10_digestOfFrames_29 : decode cX10_digestOfFrames 29 = .ok (.invokevirtual 71, 3) := by decide +kernel
theorem dX10_digestOfFrames_32 : decode cX10_digestOfFrames 32 = .ok (.checkcast 125, 3) := by decide +kernel
theorem dX10_digestOfFrames_35 : decode cX10_digestOfFrames 35 = .ok (.astore 6, 2) := by decide +kernel
theorem dX10_digestOfFrames_37 : decode cX10_digestOfFrames 37 = .ok (.lload_n 3, 1) := by decide +kernel
theorem dX10_digestOfFrames_38 : decode cX10_digestOfFrames 38 = .ok (.aload 6, 2) := by decide +kernel
theorem dX10_digestOfFrames_40 : decode cX10_digestOfFrames 40 = .ok (.getfield 124, 3) := by decide +kernel
theorem dX10_digestOfFrames_43 : decode cX10_digestOfFrames 43 = .ok (.i2l, 1) := by decide +kernel
theorem dX10_digestOfFrames_44 : decode cX10_digestOfFrames 44 = .ok (.invokestatic 372, 3) := by decide +kernel
theorem dX10_digestOfFrames_47 : decode cX10_digestOfFrames 47 = .ok (.lstore_n 3, 1) := by decide +kernel
theorem dX10_digestOfFrames_48 : decode cX10_digestOfFrames 48 = .ok (.iconst 0, 1) := by decide +kernel
theorem dX10_digestOfFrames_49 : decode cX10_digestOfFrames 49 = .ok (.istore 7, 2) := by decide +kernel
theorem dX10_digestOfFrames_51 : decode cX10_digestOfFrames 51 = .ok (.iload 7, 2) := by decide +kernel
theorem dX10_digestOfFrames_53 : decode cX10_digestOfFrames 53 = .ok (.aload 6, 2) := by decide +kernel
theorem dX10_digestOfFrames_55 : decode cX10_digestOfFrames 55 = .ok (.getfield 124, 3) := by decide +kernel
theorem dX10_digestOfFrames_58 : decode cX10_digestOfFrames 58 = .ok (.if_icmp .ge 23, 3) := by decide +kernel
theorem dX10_digestOfFrames_61 : decode cX10_digestOfFrames 61 = .ok (.lload_n 3, 1) := by decide +kernel
theorem dX10_digestOfFrames_62 : decode cX10_digestOfFrames 62 = .ok (.aload 6, 2) := by decide +kernel
theorem dX10_digestOfFrames_64 : decode cX10_digestOfFrames 64 = .ok (.getfield 177, 3) := by decide +kernel
theorem dX10_digestOfFrames_67 : decode cX10_digestOfFrames 67 = .ok (.iload 7, 2) := by decide +kernel
theorem dX10_digestOfFrames_69 : decode cX10_digestOfFrames 69 = .ok (.iaload, 1) := by decide +kernel
theorem dX10_digestOfFrames_70 : decode cX10_digestOfFrames 70 = .ok (.i2l, 1) := by decide +kernel
theorem dX10_digestOfFrames_71 : decode cX10_digestOfFrames 71 = .ok (.invokestatic 372, 3) := by decide +kernel
theorem dX10_digestOfFrames_74 : decode cX10_digestOfFrames 74 = .ok (.lstore_n 3, 1) := by decide +kernel
theorem dX10_digestOfFrames_75 : decode cX10_digestOfFrames 75 = .ok (.iinc 7 1, 3) := by decide +kernel
theorem dX10_digestOfFrames_78 : decode cX10_digestOfFrames 78 = .ok (.goto (-27), 3) := by decide +kernel
theorem dX10_digestOfFrames_81 : decode cX10_digestOfFrames 81 = .ok (.lload_n 3, 1) := by decide +kernel
theorem dX10_digestOfFrames_82 : decode cX10_digestOfFrames 82 = .ok (.aload 6, 2) := by decide +kernel
theorem dX10_digestOfFrames_84 : decode cX10_digestOfFrames 84 = .ok (.getfield 194, 3) := by decide +kernel
theorem dX10_digestOfFrames_87 : decode cX10_digestOfFrames 87 = .ok (.i2l, 1) := by decide +kernel
theorem dX10_digestOfFrames_88 : decode cX10_digestOfFrames 88 = .ok (.invokestatic 372, 3) := by decide +kernel
theorem dX10_digestOfFrames_91 : decode cX10_digestOfFrames 91 = .ok (.lstore_n 3, 1) := by decide +kernel
theorem dX10_digestOfFrames_92 : decode cX10_digestOfFrames 92 = .ok (.iconst 0, 1) := by decide +kernel
theorem dX10_digestOfFrames_93 : decode cX10_digestOfFrames 93 = .ok (.istore 7, 2) := by decide +kernel
theorem dX10_digestOfFrames_95 : decode cX10_digestOfFrames 95 = .ok (.iload 7, 2) := by decide +kernel
theorem dX10_digestOfFrames_97 : decode cX10_digestOfFrames 97 = .ok (.aload_n 0, 1) := by decide +kernel
theorem dX10_digestOfFrames_98 : decode cX10_digestOfFrames 98 = .ok (.getfield 10, 3) := by decide +kernel
theorem dX10_digestOfFrames_101 : decode cX10_digestOfFrames 101 = .ok (.getfield 37, 3) := by decide +kernel
theorem dX10_digestOfFrames_104 : decode cX10_digestOfFrames 104 = .ok (.invokevirtual 41, 3) := by decide +kernel
theorem dX10_digestOfFrames_107 : decode cX10_digestOfFrames 107 = .ok (.if_icmp .ge 22, 3) := by decide +kernel
theorem dX10_digestOfFrames_110 : decode cX10_digestOfFrames 110 = .ok (.lload_n 3, 1) := by decide +kernel
theorem dX10_digestOfFrames_111 : decode cX10_digestOfFrames 111 = .ok (.aload 6, 2) := by decide +kernel
theorem dX10_digestOfFrames_113 : decode cX10_digestOfFrames 113 = .ok (.getfield 356, 3) := by decide +kernel
theorem dX10_digestOfFrames_116 : decode cX10_digestOfFrames 116 = .ok (.iload 7, 2) := by decide +kernel
theorem dX10_digestOfFrames_118 : decode cX10_digestOfFrames 118 = .ok (.aaload, 1) := by decide +kernel
theorem dX10_digestOfFrames_119 : decode cX10_digestOfFrames 119 = .ok (.invokestatic 376, 3) := by decide +kernel
theorem dX10_digestOfFrames_122 : decode cX10_digestOfFrames 122 = .ok (.lstore_n 3, 1) := by decide +kernel
theorem dX10_digestOfFrames_123 : decode cX10_digestOfFrames 123 = .ok (.iinc 7 1, 3) := by decide +kernel
theorem dX10_digestOfFrames_126 : decode cX10_digestOfFrames 126 = .ok (.goto (-31), 3) := by decide +kernel
theorem dX10_digestOfFrames_129 : decode cX10_digestOfFrames 129 = .ok (.iinc 5 1, 3) := by decide +kernel
theorem dX10_digestOfFrames_132 : decode cX10_digestOfFrames 132 = .ok (.goto (-127), 3) := by decide +kernel
theorem dX10_digestOfFrames_135 : decode cX10_digestOfFrames 135 = .ok (.lload_n 3, 1) := by decide +kernel
theorem dX10_digestOfFrames_136 : decode cX10_digestOfFrames 136 = .ok (.lreturn, 1) := by decide +kernel
theorem dX10_digestOfZone_0 : decode cX10_digestOfZone 0 = .ok (.lload_n 0, 1) := by decide +kernel
theorem dX10_digestOfZone_1 : decode cX10_digestOfZone 1 = .ok (.aload_n 2, 1) := by decide +kernel
theorem dX10_digestOfZone_2 : decode cX10_digestOfZone 2 = .ok (.getfield 184, 3) := by decide +kernel
theorem dX10_digestOfZone_5 : decode cX10_digestOfZone 5 = .ok (.i2l, 1) := by decide +kernel
theorem dX10_digestOfZone_6 : decode cX10_digestOfZone 6 = .ok (.invokestatic 372, 3) := by decide +kernel
theorem dX10_digestOfZone_9 : decode cX10_digestOfZone 9 = .ok (.lstore_n 3, 1) := by decide +kernel
theorem dX10_digestOfZone_10 : decode cX10_digestOfZone 10 = .ok (.lload_n 3, 1) := by decide +kernel
theorem dX10_digestOfZone_11 : decode cX10_digestOfZone 11 = .ok (.aload_n 2, 1) := by decide +kernel
theorem dX10_digestOfZone_12 : decode cX10_digestOfZone 12 = .ok (.getfield 200, 3) := by decide +kernel
theorem dX10_digestOfZone_15 : decode cX10_digestOfZone 15 = .ok (.i2l, 1) := by decide +kernel
theorem dX10_digestOfZone_16 : decode cX10_digestOfZone 16 = .ok (.invokestatic 372, 3) := by decide +kernel
theorem dX10_digestOfZone_19 : decode cX10_digestOfZone 19 = .ok (.lstore_n 3, 1) := by decide +kernel
theorem dX10_digestOfZone_20 : decode cX10_digestOfZone 20 = .ok (.lload_n 3, 1) := by decide +kernel
theorem dX10_digestOfZone_21 : decode cX10_digestOfZone 21 = .ok (.aload_n 2, 1) := by decide +kernel
theorem dX10_digestOfZone_22 : decode cX10_digestOfZone 22 = .ok (.getfield 203, 3) := by decide +kernel
theorem dX10_digestOfZone_25 : decode cX10_digestOfZone 25 = .ok (.i2l, 1) := by decide +kernel
theorem dX10_digestOfZone_26 : decode cX10_digestOfZone 26 = .ok (.invokestatic 372, 3) := by decide +kernel
theorem dX10_digestOfZone_29 : decode cX10_digestOfZone 29 = .ok (.lstore_n 3, 1) := by decide +kernel
theorem dX10_digestOfZone_30 : decode cX10_digestOfZone 30 = .ok (.lload_n 3, 1) := by decide +kernel
theorem dX10_digestOfZone_31 : decode cX10_digestOfZone 31 = .ok (.aload_n 2, 1) := by decide +kernel
theorem dX10_digestOfZone_32 : decode cX10_digestOfZone 32 = .ok (.getfield 206, 3) := by decide +kernel
theorem dX10_digestOfZone_35 : decode cX10_digestOfZone 35 = .ok (.i2l, 1) := by decide +kernel
theorem dX10_digestOfZone_36 : decode cX10_digestOfZone 36 = .ok (.invokestatic 372, 3) := by decide +kernel
theorem dX10_digestOfZone_39 : decode cX10_digestOfZone 39 = .ok (.lstore_n 3, 1) := by decide +kernel
theorem dX10_digestOfZone_40 : decode cX10_digestOfZone 40 = .ok (.lload_n 3, 1) := by decide +kernel
theorem dX10_digestOfZone_41 : decode cX10_digestOfZone 41 = .ok (.aload_n 2, 1) := by decide +kernel
theorem dX10_digestOfZone_42 : decode cX10_digestOfZone 42 = .ok (.getfield 209, 3) := by decide +kernel
theorem dX10_digestOfZone_45 : decode cX10_digestOfZone 45 = .ok (.i2l, 1) := by decide +kernel
theorem dX10_digestOfZone_46 : decode cX10_digestOfZone 46 = .ok (.invokestatic 372, 3) := by decide +kernel
theorem dX10_digestOfZone_49 : decode cX10_digestOfZone 49 = .ok (.lstore_n 3, 1) := by decide +kernel
theorem dX10_digestOfZone_50 : decode cX10_digestOfZone 50 = .ok (.lload_n 3, 1) := by decide +kernel
theorem dX10_digestOfZone_51 : decode cX10_digestOfZone 51 = .ok (.aload_n 2, 1) := by decide +kernel
theorem dX10_digestOfZone_52 : decode cX10_digestOfZone 52 = .ok (.getfield 212, 3) := by decide +kernel
theorem dX10_digestOfZone_55 : decode cX10_digestOfZone 55 = .ok (.i2l, 1) := by decide +kernel
theorem dX10_digestOfZone_56 : decode cX10_digestOfZone 56 = .ok (.invokestatic 372, 3) := by decide +kernel
theorem dX10_digestOfZone_59 : decode cX10_digestOfZone 59 = .ok (.lreturn, 1) := by decide +kernel
theorem dJ9_max_7cf53_0 : decode cJ9_max_7cf53 0 = .ok (.iload_n 0, 1) := by decide +kernel
theorem dJ9_max_7cf53_1 : decode cJ9_max_7cf53 1 = .ok (.iload_n 1, 1) := by decide +kernel
theorem dJ9_max_7cf53_2 : decode cJ9_max_7cf53 2 = .ok (.if_icmp .lt 7, 3) := by decide +kernel
theorem dJ9_max_7cf53_5 : decode cJ9_max_7cf53 5 = .ok (.iload_n 0, 1) := by decide +kernel
theorem dJ9_max_7cf53_6 : decode cJ9_max_7cf53 6 = .ok (.goto 4, 3) := by decide +kernel
theorem dJ9_max_7cf53_9 : decode cJ9_max_7cf53 9 = .ok (.iload_n 1, 1) := by decide +kernel
theorem dJ9_max_7cf53_10 : decode cJ9_max_7cf53 10 = .ok (.ireturn, 1) := by decide +kernel
theorem dJ9_max_f86c9_0 : decode cJ9_max_f86c9 0 = .ok (.lload_n 0, 1) := by decide +kernel
theorem dJ9_max_f86c9_1 : decode cJ9_max_f86c9 1 = .ok (.lload_n 2, 1) := by decide +kernel
theorem dJ9_max_f86c9_2 : decode cJ9_max_f86c9 2 = .ok (.lcmp, 1) := by decide +kernel
theorem dJ9_max_f86c9_3 : decode cJ9_max_f86c9 3 = .ok (.ifCond .lt 7, 3) := by decide +kernel
theorem dJ9_max_f86c9_6 : decode cJ9_max_f86c9 6 = .ok (.lload_n 0, 1) := by decide +kernel
theorem dJ9_max_f86c9_7 : decode cJ9_max_f86c9 7 = .ok (.goto 4, 3) := by decide +kernel
theorem dJ9_max_f86c9_10 : decode cJ9_max_f86c9 10 = .ok (.lload_n 2, 1) := by decide +kernel
theorem dJ9_max_f86c9_11 : decode cJ9_max_f86c9 11 = .ok (.lreturn, 1) := by decide +kernel
theorem dJ9_min_7cf53_0 : decode cJ9_min_7cf53 0 = .ok (.iload_n 0, 1) := by decide +kernel
theorem dJ9_min_7cf53_1 : decode cJ9_min_7cf53 1 = .ok (.iload_n 1, 1) := by decide +kernel
theorem dJ9_min_7cf53_2 : decode cJ9_min_7cf53 2 = .ok (.if_icmp .gt 7, 3) := by decide +kernel
theorem dJ9_min_7cf53_5 : decode cJ9_min_7cf53 5 = .ok (.iload_n 0, 1) := by decide +kernel
theorem dJ9_min_7cf53_6 : decode cJ9_min_7cf53 6 = .ok (.goto 4, 3) := by decide +kernel
theorem dJ9_min_7cf53_9 : decode cJ9_min_7cf53 9 = .ok (.iload_n 1, 1) := by decide +kernel
theorem dJ9_min_7cf53_10 : decode cJ9_min_7cf53 10 = .ok (.ireturn, 1) := by decide +kernel
theorem dJ9_min_f86c9_0 : decode cJ9_min_f86c9 0 = .ok (.lload_n 0, 1) := by decide +kernel
theorem dJ9_min_f86c9_1 : decode cJ9_min_f86c9 1 = .ok (.lload_n 2, 1) := by decide +kernel
theorem dJ9_min_f86c9_2 : decode cJ9_min_f86c9 2 = .ok (.lcmp, 1) := by decide +kernel
theorem dJ9_min_f86c9_3 : decode cJ9_min_f86c9 3 = .ok (.ifCond .gt 7, 3) := by decide +kernel
theorem dJ9_min_f86c9_6 : decode cJ9_min_f86c9 6 = .ok (.lload_n 0, 1) := by decide +kernel
theorem dJ9_min_f86c9_7 : decode cJ9_min_f86c9 7 = .ok (.goto 4, 3) := by decide +kernel
theorem dJ9_min_f86c9_10 : decode cJ9_min_f86c9 10 = .ok (.lload_n 2, 1) := by decide +kernel
theorem dJ9_min_f86c9_11 : decode cJ9_min_f86c9 11 = .ok (.lreturn, 1) := by decide +kernel
theorem dJxa1e45_init_da8c8_0 : decode cJxa1e45_init_da8c8 0 = .ok (.aload_n 0, 1) := by decide +kernel
theorem dJxa1e45_init_da8c8_1 : decode cJxa1e45_init_da8c8 1 = .ok (.invokespecial 1, 3) := by decide +kernel
theorem dJxa1e45_init_da8c8_4 : decode cJxa1e45_init_da8c8 4 = .ok (.return_, 1) := by decide +kernel
theorem dJxc12de_init_da8c8_0 : decode cJxc12de_init_da8c8 0 = .ok (.aload_n 0, 1) := by decide +kernel
theorem dJxc12de_init_da8c8_1 : decode cJxc12de_init_da8c8 1 = .ok (.invokespecial 1, 3) := by decide +kernel
theorem dJxc12de_init_da8c8_4 : decode cJxc12de_init_da8c8 4 = .ok (.aload_n 0, 1) := by decide +kernel
theorem dJxc12de_init_da8c8_5 : decode cJxc12de_init_da8c8 5 = .ok (.iconst 0, 1) := by decide +kernel
theorem dJxc12de_init_da8c8_6 : decode cJxc12de_init_da8c8 6 = .ok (.putfield 7, 3) := by decide +kernel
theorem dJxc12de_init_da8c8_9 : decode cJxc12de_init_da8c8 9 = .ok (.return_, 1) := by decide +kernel
theorem dJx4a65c_init_da8c8_0 : decode cJx4a65c_init_da8c8 0 = .ok (.aload_n 0, 1) := by decide +kernel
theorem dJx4a65c_init_da8c8_1 : decode cJx4a65c_init_da8c8 1 = .ok (.invokespecial 1, 3) := by decide +kernel
theorem dJx4a65c_init_da8c8_4 : decode cJx4a65c_init_da8c8 4 = .ok (.aload_n 0, 1) := by decide +kernel
theorem dJx4a65c_init_da8c8_5 : decode cJx4a65c_init_da8c8 5 = .ok (.getstatic 39, 3) := by decide +kernel
theorem dJx4a65c_init_da8c8_8 : decode cJx4a65c_init_da8c8 8 = .ok (.putfield 9, 3) := by decide +kernel
theorem dJx4a65c_init_da8c8_11 : decode cJx4a65c_init_da8c8 11 = .ok (.return_, 1) := by decide +kernel
theorem dJx4a65c_grow_92f84_0 : decode cJx4a65c_grow_92f84 0 = .ok (.aload_n 0, 1) := by decide +kernel
theorem dJx4a65c_grow_92f84_1 : decode cJx4a65c_grow_92f84 1 = .ok (.getfield 9, 3) := by decide +kernel
theorem dJx4a65c_grow_92f84_4 : decode cJx4a65c_grow_92f84 4 = .ok (.arraylength, 1) := by decide +kernel
theorem dJx4a65c_grow_92f84_5 : decode cJx4a65c_grow_92f84 5 = .ok (.istore_n 2, 1) := by decide +kernel
theorem dJx4a65c_grow_92f84_6 : decode cJx4a65c_grow_92f84 6 = .ok (.iload_n 2, 1) := by decide +kernel
theorem dJx4a65c_grow_92f84_7 : decode cJx4a65c_grow_92f84 7 = .ok (.ifCond .gt 13, 3) := by decide +kernel
theorem dJx4a65c_grow_92f84_10 : decode cJx4a65c_grow_92f84 10 = .ok (.aload_n 0, 1) := by decide +kernel
theorem dJx4a65c_grow_92f84_11 : decode cJx4a65c_grow_92f84 11 = .ok (.getfield 9, 3) := by decide +kernel
theorem dJx4a65c_grow_92f84_14 : decode cJx4a65c_grow_92f84 14 = .ok (.getstatic 39, 3) := by decide +kernel
theorem dJx4a65c_grow_92f84_17 : decode cJx4a65c_grow_92f84 17 = .ok (.if_acmp .eq 28, 3) := by decide +kernel
theorem dJx4a65c_grow_92f84_20 : decode cJx4a65c_grow_92f84 20 = .ok (.iload_n 2, 1) := by decide +kernel
theorem dJx4a65c_grow_92f84_21 : decode cJx4a65c_grow_92f84 21 = .ok (.iload_n 1, 1) := by decide +kernel
theorem dJx4a65c_grow_92f84_22 : decode cJx4a65c_grow_92f84 22 = .ok (.iload_n 2, 1) := by decide +kernel
theorem dJx4a65c_grow_92f84_23 : decode cJx4a65c_grow_92f84 23 = .ok (.isub, 1) := by decide +kernel
theorem dJx4a65c_grow_92f84_24 : decode cJx4a65c_grow_92f84 24 = .ok (.iload_n 2, 1) := by decide +kernel
theorem dJx4a65c_grow_92f84_25 : decode cJx4a65c_grow_92f84 25 = .ok (.iconst 1, 1) := by decide +kernel
theorem dJx4a65c_grow_92f84_26 : decode cJx4a65c_grow_92f84 26 = .ok (.ishr, 1) := by decide +kernel
theorem dJx4a65c_grow_92f84_27 : decode cJx4a65c_grow_92f84 27 = .ok (.invokestatic 73, 3) := by decide +kernel
theorem dJx4a65c_grow_92f84_30 : decode cJx4a65c_grow_92f84 30 = .ok (.istore_n 3, 1) := by decide +kernel
theorem dJx4a65c_grow_92f84_31 : decode cJx4a65c_grow_92f84 31 = .ok (.aload_n 0, 1) := by decide +kernel
theorem dJx4a65c_grow_92f84_32 : decode cJx4a65c_grow_92f84 32 = .ok (.aload_n 0, 1) := by decide +kernel
theorem dJx4a65c_grow_92f84_33 : decode cJx4a65c_grow_92f84 33 = .ok (.getfield 9, 3) := by decide +kernel
theorem dJx4a65c_grow_92f84_36 : decode cJx4a65c_grow_92f84 36 = .ok (.iload_n 3, 1) := by decide +kernel
theorem dJx4a65c_grow_92f84_37 : decode cJx4a65c_grow_92f84 37 = .ok (.invokestatic 66, 3) := by decide +kernel
theorem dJx4a65c_grow_92f84_40 : decode cJx4a65c_grow_92f84 40 = .ok (.dup_x1, 1) := by decide +kernel
theorem dJx4a65c_grow_92f84_41 : decode cJx4a65c_grow_92f84 41 = .ok (.putfield 9, 3) := by decide +kernel
theorem dJx4a65c_grow_92f84_44 : decode cJx4a65c_grow_92f84 44 = .ok (.areturn, 1) := by decide +kernel
theorem dJx4a65c_grow_92f84_45 : decode cJx4a65c_grow_92f84 45 = .ok (.aload_n 0, 1) := by decide +kernel
theorem dJx4a65c_grow_92f84_46 : decode cJx4a65c_grow_92f84 46 = .ok (.bipush 10, 2) := by decide +kernel
theorem dJx4a65c_grow_92f84_48 : decode cJx4a65c_grow_92f84 48 = .ok (.iload_n 1, 1) := by decide +kernel
theorem dJx4a65c_grow_92f84_49 : decode cJx4a65c_grow_92f84 49 = .ok (.invokestatic 79, 3) := by decide +kernel
theorem dJx4a65c_grow_92f84_52 : decode cJx4a65c_grow_92f84 52 = .ok (.anewarray 7, 3) := by decide +kernel
theorem dJx4a65c_grow_92f84_55 : decode cJx4a65c_grow_92f84 55 = .ok (.dup_x1, 1) := by decide +kernel
theorem dJx4a65c_grow_92f84_56 : decode cJx4a65c_grow_92f84 56 = .ok (.putfield 9, 3) := by decide +kernel
theorem dJx4a65c_grow_92f84_59 : decode cJx4a65c_grow_92f84 59 = .ok (.areturn, 1) := by decide +kernel
theorem dJx4a65c_grow_d5877_0 : decode cJx4a65c_grow_d5877 0 = .ok (.aload_n 0, 1) := by decide +kernel
theorem dJx4a65c_grow_d5877_1 : decode cJx4a65c_grow_d5877 1 = .ok (.aload_n 0, 1) := by decide +kernel
theorem dJx4a65c_grow_d5877_2 : decode cJx4a65c_grow_d5877 2 = .ok (.getfield 48, 3) := by decide +kernel
theorem dJx4a65c_grow_d5877_5 : decode cJx4a65c_grow_d5877 5 = .ok (.iconst 1, 1) := by decide +kernel
theorem dJx4a65c_grow_d5877_6 : decode cJx4a65c_grow_d5877 6 = .ok (.iadd, 1) := by decide +kernel
theorem dJx4a65c_grow_d5877_7 : decode cJx4a65c_grow_d5877 7 = .ok (.invokevirtual 69, 3) := by decide +kernel
theorem dJx4a65c_grow_d5877_10 : decode cJx4a65c_grow_d5877 10 = .ok (.areturn, 1) := by decide +kernel
theorem dJx4a65c_size_8abf5_0 : decode cJx4a65c_size_8abf5 0 = .ok (.aload_n 0, 1) := by decide +kernel
theorem dJx4a65c_size_8abf5_1 : decode cJx4a65c_size_8abf5 1 = .ok (.getfield 48, 3) := by decide +kernel
theorem dJx4a65c_size_8abf5_4 : decode cJx4a65c_size_8abf5 4 = .ok (.ireturn, 1) := by decide +kernel
theorem dJx4a65c_isEmpty_aae02_0 : decode cJx4a65c_isEmpty_aae02 0 = .ok (.aload_n 0, 1) := by decide +kernel
theorem dJx4a65c_isEmpty_aae02_1 : decode cJx4a65c_isEmpty_aae02 1 = .ok (.getfield 48, 3) := by decide +kernel
theorem dJx4a65c_isEmpty_aae02_4 : decode cJx4a65c_isEmpty_aae02 4 = .ok (.ifCond .ne 7, 3) := by decide +kernel
theorem dJx4a65c_isEmpty_aae02_7 : decode cJx4a65c_isEmpty_aae02 7 = .ok (.iconst 1, 1) := by decide +kernel
theorem dJx4a65c_isEmpty_aae02_8 : decode cJx4a65c_isEmpty_aae02 8 = .ok (.goto 4, 3) := by decide +kernel
theorem dJx4a65c_isEmpty_aae02_11 : decode cJx4a65c_isEmpty_aae02 11 = .ok (.iconst 0, 1) := by decide +kernel
theorem dJx4a65c_isEmpty_aae02_12 : decode cJx4a65c_isEmpty_aae02 12 = .ok (.ireturn, 1) := by decide +kernel
theorem dJx4a65c_elementData_915e3_0 : decode cJx4a65c_elementData_915e3 0 = .ok (.aload_n 0, 1) := by decide +kernel
theorem dJx4a65c_elementData_915e3_1 : decode cJx4a65c_elementData_915e3 1 = .ok (.getfield 9, 3) := by decide +kernel
theorem dJx4a65c_elementData_915e3_4 : decode cJx4a65c_elementData_915e3 4 = .ok (.iload_n 1, 1) := by decide +kernel
theorem dJx4a65c_elementData_915e3_5 : decode cJx4a65c_elementData_915e3 5 = .ok (.aaload, 1) := by decide +kernel
theorem dJx4a65c_elementData_915e3_6 : decode cJx4a65c_elementData_915e3 6 = .ok (.areturn, 1) := by decide +kernel
theorem dJx4a65c_get_915e3_0 : decode cJx4a65c_get_915e3 0 = .ok (.iload_n 1, 1) := by decide +kernel
theorem dJx4a65c_get_915e3_1 : decode cJx4a65c_get_915e3 1 = .ok (.aload_n 0, 1) := by decide +kernel
theorem dJx4a65c_get_915e3_2 : decode cJx4a65c_get_915e3 2 = .ok (.getfield 48, 3) := by decide +kernel
theorem dJx4a65c_get_915e3_5 : decode cJx4a65c_get_915e3 5 = .ok (.invokestatic 118, 3) := by decide +kernel
theorem dJx4a65c_get_915e3_8 : decode cJx4a65c_get_915e3 8 = .ok (.pop, 1) := by decide +kernel
theorem dJx4a65c_get_915e3_9 : decode cJx4a65c_get_915e3 9 = .ok (.aload_n 0, 1) := by decide +kernel
theorem dJx4a65c_get_915e3_10 : decode cJx4a65c_get_915e3 10 = .ok (.iload_n 1, 1) := by decide +kernel
theorem dJx4a65c_get_915e3_11 : decode cJx4a65c_get_915e3 11 = .ok (.invokevirtual 123, 3) := by decide +kernel
theorem dJx4a65c_get_915e3_14 : decode cJx4a65c_get_915e3 14 = .ok (.areturn, 1) := by decide +kernel
theorem dJx4a65c_add_72be8_0 : decode cJx4a65c_add_72be8 0 = .ok (.iload_n 3, 1) := by decide +kernel
theorem dJx4a65c_add_72be8_1 : decode cJx4a65c_add_72be8 1 = .ok (.aload_n 2, 1) := by decide +kernel
theorem dJx4a65c_add_72be8_2 : decode cJx4a65c_add_72be8 2 = .ok (.arraylength, 1) := by decide +kernel
theorem dJx4a65c_add_72be8_3 : decode cJx4a65c_add_72be8 3 = .ok (.if_icmp .ne 8, 3) := by decide +kernel
theorem dJx4a65c_add_72be8_6 : decode cJx4a65c_add_72be8 6 = .ok (.aload_n 0, 1) := by decide +kernel
theorem dJx4a65c_add_72be8_7 : decode cJx4a65c_add_72be8 7 = .ok (.invokevirtual 129, 3) := by decide +kernel
theorem dJx4a65c_add_72be8_10 : decode cJx4a65c_add_72be8 10 = .ok (.astore_n 2, 1) := by decide +kernel
theorem dJx4a65c_add_72be8_11 : decode cJx4a65c_add_72be8 11 = .ok (.aload_n 2, 1) := by decide +kernel
theorem dJx4a65c_add_72be8_12 : decode cJx4a65c_add_72be8 12 = .ok (.iload_n 3, 1) := by decide +kernel
theorem dJx4a65c_add_72be8_13 : decode cJx4a65c_add_72be8 13 = .ok (.aload_n 1, 1) := by decide +kernel
theorem dJx4a65c_add_72be8_14 : decode cJx4a65c_add_72be8 14 = .ok (.aastore, 1) := by decide +kernel
theorem dJx4a65c_add_72be8_15 : decode cJx4a65c_add_72be8 15 = .ok (.aload_n 0, 1) := by decide +kernel
theorem dJx4a65c_add_72be8_16 : decode cJx4a65c_add_72be8 16 = .ok (.iload_n 3, 1) := by decide +kernel
theorem dJx4a65c_add_72be8_17 : decode cJx4a65c_add_72be8 17 = .ok (.iconst 1, 1) := by decide +kernel
theorem dJx4a65c_add_72be8_18 : decode cJx4a65c_add_72be8 18 = .ok (.iadd, 1) := by decide +kernel
theorem dJx4a65c_add_72be8_19 : decode cJx4a65c_add_72be8 19 = .ok (.putfield 48, 3) := by decide +kernel
theorem dJx4a65c_add_72be8_22 : decode cJx4a65c_add_72be8 22 = .ok (.return_, 1) := by decide +kernel
theorem dJx4a65c_add_9ea2d_0 : decode cJx4a65c_add_9ea2d 0 = .ok (.aload_n 0, 1) := by decide +kernel
theorem dJx4a65c_add_9ea2d_1 : decode cJx4a65c_add_9ea2d 1 = .ok (.dup, 1) := by decide +kernel
theorem dJx4a65c_add_9ea2d_2 : decode cJx4a65c_add_9ea2d 2 = .ok (.getfield 63, 3) := by decide +kernel
theorem dJx4a65c_add_9ea2d_5 : decode cJx4a65c_add_9ea2d 5 = .ok (.iconst 1, 1) := by decide +kernel
theorem dJx4a65c_add_9ea2d_6 : decode cJx4a65c_add_9ea2d 6 = .ok (.iadd, 1) := by decide +kernel
theorem dJx4a65c_add_9ea2d_7 : decode cJx4a65c_add_9ea2d 7 = .ok (.putfield 63, 3) := by decide +kernel
theorem dJx4a65c_add_9ea2d_10 : decode cJx4a65c_add_9ea2d 10 = .ok (.aload_n 0, 1) := by decide +kernel
theorem dJx4a65c_add_9ea2d_11 : decode cJx4a65c_add_9ea2d 11 = .ok (.aload_n 1, 1) := by decide +kernel
theorem dJx4a65c_add_9ea2d_12 : decode cJx4a65c_add_9ea2d 12 = .ok (.aload_n 0, 1) := by decide +kernel
theorem dJx4a65c_add_9ea2d_13 : decode cJx4a65c_add_9ea2d 13 = .ok (.getfield 9, 3) := by decide +kernel
theorem dJx4a65c_add_9ea2d_16 : decode cJx4a65c_add_9ea2d 16 = .ok (.aload_n 0, 1) := by decide +kernel
theorem dJx4a65c_add_9ea2d_17 : decode cJx4a65c_add_9ea2d 17 = .ok (.getfield 48, 3) := by decide +kernel
theorem dJx4a65c_add_9ea2d_20 : decode cJx4a65c_add_9ea2d 20 = .ok (.invokevirtual 131, 3) := by decide +kernel
theorem dJx4a65c_add_9ea2d_23 : decode cJx4a65c_add_9ea2d 23 = .ok (.iconst 1, 1) := by decide +kernel
theorem dJx4a65c_add_9ea2d_24 : decode cJx4a65c_add_9ea2d 24 = .ok (.ireturn, 1) := by decide +kernel
theorem dJx4a65c_remove_915e3_0 : decode cJx4a65c_remove_915e3 0 = .ok (.iload_n 1, 1) := by decide +kernel
theorem dJx4a65c_remove_915e3_1 : decode cJx4a65c_remove_915e3 1 = .ok (.aload_n 0, 1) := by decide +kernel
theorem dJx4a65c_remove_915e3_2 : decode cJx4a65c_remove_915e3 2 = .ok (.getfield 48, 3) := by decide +kernel
theorem dJx4a65c_remove_915e3_5 : decode cJx4a65c_remove_915e3 5 = .ok (.invokestatic 118, 3) := by decide +kernel
theorem dJx4a65c_remove_915e3_8 : decode cJx4a65c_remove_915e3 8 = .ok (.pop, 1) := by decide +kernel
theorem dJx4a65c_remove_915e3_9 : decode cJx4a65c_remove_915e3 9 = .ok (.aload_n 0, 1) := by decide +kernel
theorem dJx4a65c_remove_915e3_10 : decode cJx4a65c_remove_915e3 10 = .ok (.getfield 9, 3) := by decide +kernel
theorem dJx4a65c_remove_915e3_13 : decode cJx4a65c_remove_915e3 13 = .ok (.astore_n 2, 1) := by decide +kernel
theorem dJx4a65c_remove_915e3_14 : decode cJx4a65c_remove_915e3 14 = .ok (.aload_n 2, 1) := by decide +kernel
theorem dJx4a65c_remove_915e3_15 : decode cJx4a65c_remove_915e3 15 = .ok (.iload_n 1, 1) := by decide +kernel
theorem dJx4a65c_remove_915e3_16 : decode cJx4a65c_remove_915e3 16 = .ok (.aaload, 1) := by decide +kernel
theorem dJx4a65c_remove_915e3_17 : decode cJx4a65c_remove_915e3 17 = .ok (.astore_n 3, 1) := by decide +kernel
theorem dJx4a65c_remove_915e3_18 : decode cJx4a65c_remove_915e3 18 = .ok (.aload_n 0, 1) := by decide +kernel
theorem dJx4a65c_remove_915e3_19 : decode cJx4a65c_remove_915e3 19 = .ok (.aload_n 2, 1) := by decide +kernel
theorem dJx4a65c_remove_915e3_20 : decode cJx4a65c_remove_915e3 20 = .ok (.iload_n 1, 1) := by decide +kernel
theorem dJx4a65c_remove_915e3_21 : decode cJx4a65c_remove_915e3 21 = .ok (.invokevirtual 144, 3) := by decide +kernel
theorem dJx4a65c_remove_915e3_24 : decode cJx4a65c_remove_915e3 24 = .ok (.aload_n 3, 1) := by decide +kernel
theorem dJx4a65c_remove_915e3_25 : decode cJx4a65c_remove_915e3 25 = .ok (.areturn, 1) := by decide +kernel
theorem dJx4a65c_fastRemove_b59b0_0 : decode cJx4a65c_fastRemove_b59b0 0 = .ok (.aload_n 0, 1) := by decide +kernel
theorem dJx4a65c_fastRemove_b59b0_1 : decode cJx4a65c_fastRemove_b59b0 1 = .ok (.dup, 1) := by decide +kernel
theorem dJx4a65c_fastRemove_b59b0_2 : decode cJx4a65c_fastRemove_b59b0 2 = .ok (.getfield 63, 3) := by decide +kernel
theorem dJx4a65c_fastRemove_b59b0_5 : decode cJx4a65c_fastRemove_b59b0 5 = .ok (.iconst 1, 1) := by decide +kernel
theorem dJx4a65c_fastRemove_b59b0_6 : decode cJx4a65c_fastRemove_b59b0 6 = .ok (.iadd, 1) := by decide +kernel
theorem dJx4a65c_fastRemove_b59b0_7 : decode cJx4a65c_fastRemove_b59b0 7 = .ok (.putfield 63, 3) := by decide +kernel
theorem dJx4a65c_fastRemove_b59b0_10 : decode cJx4a65c_fastRemove_b59b0 10 = .ok (.aload_n 0, 1) := by decide +kernel
theorem dJx4a65c_fastRemove_b59b0_11 : decode cJx4a65c_fastRemove_b59b0 11 = .ok (.getfield 48, 3) := by decide +kernel
theorem dJx4a65c_fastRemove_b59b0_14 : decode cJx4a65c_fastRemove_b59b0 14 = .ok (.iconst 1, 1) := by decide +kernel
theorem dJx4a65c_fastRemove_b59b0_15 : decode cJx4a65c_fastRemove_b59b0 15 = .ok (.isub, 1) := by decide +kernel
theorem dJx4a65c_fastRemove_b59b0_16 : decode cJx4a65c_fastRemove_b59b0 16 = .ok (.dup, 1) := by decide +kernel
theorem dJx4a65c_fastRemove_b59b0_17 : decode cJx4a65c_fastRemove_b59b0 17 = .ok (.istore_n 3, 1) := by decide +kernel
theorem dJx4a65c_fastRemove_b59b0_18 : decode cJx4a65c_fastRemove_b59b0 18 = .ok (.iload_n 2, 1) := by decide +kernel
theorem dJx4a65c_fastRemove_b59b0_19 : decode cJx4a65c_fastRemove_b59b0 19 = .ok (.if_icmp .le 15, 3) := by decide +kernel
theorem dJx4a65c_fastRemove_b59b0_22 : decode cJx4a65c_fastRemove_b59b0 22 = .ok (.aload_n 1, 1) := by decide +kernel
theorem dJx4a65c_fastRemove_b59b0_23 : decode cJx4a65c_fastRemove_b59b0 23 = .ok (.iload_n 2, 1) := by decide +kernel
theorem dJx4a65c_fastRemove_b59b0_24 : decode cJx4a65c_fastRemove_b59b0 24 = .ok (.iconst 1, 1) := by decide +kernel
theorem dJx4a65c_fastRemove_b59b0_25 : decode cJx4a65c_fastRemove_b59b0 25 = .ok (.iadd, 1) := by decide +kernel
theorem dJx4a65c_fastRemove_b59b0_26 : decode cJx4a65c_fastRemove_b59b0 26 = .ok (.aload_n 1, 1) := by decide +kernel
theorem dJx4a65c_fastRemove_b59b0_27 : decode cJx4a65c_fastRemove_b59b0 27 = .ok (.iload_n 2, 1) := by decide +kernel
theorem dJx4a65c_fastRemove_b59b0_28 : decode cJx4a65c_fastRemove_b59b0 28 = .ok (.iload_n 3, 1) := by decide +kernel
theorem dJx4a65c_fastRemove_b59b0_29 : decode cJx4a65c_fastRemove_b59b0 29 = .ok (.iload_n 2, 1) := by decide +kernel
theorem dJx4a65c_fastRemove_b59b0_30 : decode cJx4a65c_fastRemove_b59b0 30 = .ok (.isub, 1) := by decide +kernel
theorem dJx4a65c_fastRemove_b59b0_31 : decode cJx4a65c_fastRemove_b59b0 31 = .ok (.invokestatic 112, 3) := by decide +kernel
theorem dJx4a65c_fastRemove_b59b0_34 : decode cJx4a65c_fastRemove_b59b0 34 = .ok (.aload_n 1, 1) := by decide +kernel
theorem dJx4a65c_fastRemove_b59b0_35 : decode cJx4a65c_fastRemove_b59b0 35 = .ok (.aload_n 0, 1) := by decide +kernel
theorem dJx4a65c_fastRemove_b59b0_36 : decode cJx4a65c_fastRemove_b59b0 36 = .ok (.iload_n 3, 1) := by decide +kernel
theorem dJx4a65c_fastRemove_b59b0_37 : decode cJx4a65c_fastRemove_b59b0 37 = .ok (.dup_x1, 1) := by decide +kernel
theorem dJx4a65c_fastRemove_b59b0_38 : decode cJx4a65c_fastRemove_b59b0 38 = .ok (.putfield 48, 3) := by decide +kernel
theorem dJx4a65c_fastRemove_b59b0_41 : decode cJx4a65c_fastRemove_b59b0 41 = .ok (.aconst_null, 1) := by decide +kernel
theorem dJx4a65c_fastRemove_b59b0_42 : decode cJx4a65c_fastRemove_b59b0 42 = .ok (.aastore, 1) := by decide +kernel
theorem dJx4a65c_fastRemove_b59b0_43 : decode cJx4a65c_fastRemove_b59b0 43 = .ok (.return_, 1) := by decide +kernel
theorem dJ7_copyOf_1904c_0 : decode cJ7_copyOf_1904c 0 = .ok (.aload_n 0, 1) := by decide +kernel
theorem dJ7_copyOf_1904c_1 : decode cJ7_copyOf_1904c 1 = .ok (.iload_n 1, 1) := by decide +kernel
theorem dJ7_copyOf_1904c_2 : decode cJ7_copyOf_1904c 2 = .ok (.aload_n 0, 1) := by decide +kernel
theorem dJ7_copyOf_1904c_3 : decode cJ7_copyOf_1904c 3 = .ok (.invokevirtual 86, 3) := by decide +kernel
theorem dJ7_copyOf_1904c_6 : decode cJ7_copyOf_1904c 6 = .ok (.invokestatic 300, 3) := by decide +kernel
theorem dJ7_copyOf_1904c_9 : decode cJ7_copyOf_1904c 9 = .ok (.areturn, 1) := by decide +kernel
theorem dJ7_copyOf_6403c_0 : decode cJ7_copyOf_6403c 0 = .ok (.aload_n 2, 1) := by decide +kernel
theorem dJ7_copyOf_6403c_1 : decode cJ7_copyOf_6403c 1 = .ok (.ldc 110, 2) := by decide +kernel
theorem dJ7_copyOf_6403c_3 : decode cJ7_copyOf_6403c 3 = .ok (.if_acmp .ne 10, 3) := by decide +kernel
theorem dJ7_copyOf_6403c_6 : decode cJ7_copyOf_6403c 6 = .ok (.iload_n 1, 1) := by decide +kernel
theorem dJ7_copyOf_6403c_7 : decode cJ7_copyOf_6403c 7 = .ok (.anewarray 2, 3) := by decide +kernel
theorem dJ7_copyOf_6403c_10 : decode cJ7_copyOf_6403c 10 = .ok (.goto 14, 3) := by decide +kernel
theorem dJ7_copyOf_6403c_13 : decode cJ7_copyOf_6403c 13 = .ok (.aload_n 2, 1) := by decide +kernel
theorem dJ7_copyOf_6403c_14 : decode cJ7_copyOf_6403c 14 = .ok (.invokevirtual 90, 3) := by decide +kernel
theorem dJ7_copyOf_6403c_17 : decode cJ7_copyOf_6403c 17 = .ok (.iload_n 1, 1) := by decide +kernel
theorem dJ7_copyOf_6403c_18 : decode cJ7_copyOf_6403c 18 = .ok (.invokestatic 95, 3) := by decide +kernel
theorem dJ7_copyOf_6403c_21 : decode cJ7_copyOf_6403c 21 = .ok (.checkcast 110, 3) := by decide +kernel
theorem dJ7_copyOf_6403c_24 : decode cJ7_copyOf_6403c 24 = .ok (.astore_n 3, 1) := by decide +kernel
theorem dJ7_copyOf_6403c_25 : decode cJ7_copyOf_6403c 25 = .ok (.aload_n 0, 1) := by decide +kernel
theorem dJ7_copyOf_6403c_26 : decode cJ7_copyOf_6403c 26 = .ok (.iconst 0, 1) := by decide +kernel
theorem dJ7_copyOf_6403c_27 : decode cJ7_copyOf_6403c 27 = .ok (.aload_n 3, 1) := by decide +kernel
theorem dJ7_copyOf_6403c_28 : decode cJ7_copyOf_6403c 28 = .ok (.iconst 0, 1) := by decide +kernel
theorem dJ7_copyOf_6403c_29 : decode cJ7_copyOf_6403c 29 = .ok (.aload_n 0, 1) := by decide +kernel
theorem dJ7_copyOf_6403c_30 : decode cJ7_copyOf_6403c 30 = .ok (.arraylength, 1) := by decide +kernel
theorem dJ7_copyOf_6403c_31 : decode cJ7_copyOf_6403c 31 = .ok (.iload_n 1, 1) := by decide +kernel
theorem dJ7_copyOf_6403c_32 : decode cJ7_copyOf_6403c 32 = .ok (.invokestatic 304, 3) := by decide +kernel
theorem dJ7_copyOf_6403c_35 : decode cJ7_copyOf_6403c 35 = .ok (.invokestatic 150, 3) := by decide +kernel
theorem dJ7_copyOf_6403c_38 : decode cJ7_copyOf_6403c 38 = .ok (.aload_n 3, 1) := by decide +kernel
theorem dJ7_copyOf_6403c_39 : decode cJ7_copyOf_6403c 39 = .ok (.areturn, 1) := by decide +kernel
theorem dJ15_checkIndex_7cf53_0 : decode cJ15_checkIndex_7cf53 0 = .ok (.iload_n 0, 1) := by decide +kernel
theorem dJ15_checkIndex_7cf53_1 : decode cJ15_checkIndex_7cf53 1 = .ok (.iload_n 1, 1) := by decide +kernel
theorem dJ15_checkIndex_7cf53_2 : decode cJ15_checkIndex_7cf53 2 = .ok (.aconst_null, 1) := by decide +kernel
theorem dJ15_checkIndex_7cf53_3 : decode cJ15_checkIndex_7cf53 3 = .ok (.invokestatic 105, 3) := by decide +kernel
theorem dJ15_checkIndex_7cf53_6 : decode cJ15_checkIndex_7cf53 6 = .ok (.ireturn, 1) := by decide +kernel
theorem dJ8_newLength_cabcc_0 : decode cJ8_newLength_cabcc 0 = .ok (.iload_n 0, 1) := by decide +kernel
theorem dJ8_newLength_cabcc_1 : decode cJ8_newLength_cabcc 1 = .ok (.iload_n 1, 1) := by decide +kernel
theorem dJ8_newLength_cabcc_2 : decode cJ8_newLength_cabcc 2 = .ok (.iload_n 2, 1) := by decide +kernel
theorem dJ8_newLength_cabcc_3 : decode cJ8_newLength_cabcc 3 = .ok (.invokestatic 194, 3) := by decide +kernel
theorem dJ8_newLength_cabcc_6 : decode cJ8_newLength_cabcc 6 = .ok (.iadd, 1) := by decide +kernel
theorem dJ8_newLength_cabcc_7 : decode cJ8_newLength_cabcc 7 = .ok (.istore_n 3, 1) := by decide +kernel
theorem dJ8_newLength_cabcc_8 : decode cJ8_newLength_cabcc 8 = .ok (.iconst 0, 1) := by decide +kernel
theorem dJ8_newLength_cabcc_9 : decode cJ8_newLength_cabcc 9 = .ok (.iload_n 3, 1) := by decide +kernel
theorem dJ8_newLength_cabcc_10 : decode cJ8_newLength_cabcc 10 = .ok (.if_icmp .ge 11, 3) := by decide +kernel
theorem dJ8_newLength_cabcc_13 : decode cJ8_newLength_cabcc 13 = .ok (.iload_n 3, 1) := by decide +kernel
theorem dJ8_newLength_cabcc_14 : decode cJ8_newLength_cabcc 14 = .ok (.ldc 200, 2) := by decide +kernel
theorem dJ8_newLength_cabcc_16 : decode cJ8_newLength_cabcc 16 = .ok (.if_icmp .gt 5, 3) := by decide +kernel
theorem dJ8_newLength_cabcc_19 : decode cJ8_newLength_cabcc 19 = .ok (.iload_n 3, 1) := by decide +kernel
theorem dJ8_newLength_cabcc_20 : decode cJ8_newLength_cabcc 20 = .ok (.ireturn, 1) := by decide +kernel
theorem dJ8_newLength_cabcc_21 : decode cJ8_newLength_cabcc 21 = .ok (.iload_n 0, 1) := by decide +kernel
theorem dJ8_newLength_cabcc_22 : decode cJ8_newLength_cabcc 22 = .ok (.iload_n 1, 1) := by decide +kernel
theorem dJ8_newLength_cabcc_23 : decode cJ8_newLength_cabcc 23 = .ok (.invokestatic 201, 3) := by decide +kernel
theorem dJ8_newLength_cabcc_26 : decode cJ8_newLength_cabcc 26 = .ok (.ireturn, 1) := by decide +kernel
theorem dJ8_hugeLength_7cf53_0 : decode cJ8_hugeLength_7cf53 0 = .ok (.iload_n 0, 1) := by decide +kernel
theorem dJ8_hugeLength_7cf53_1 : decode cJ8_hugeLength_7cf53 1 = .ok (.iload_n 1, 1) := by decide +kernel
theorem dJ8_hugeLength_7cf53_2 : decode cJ8_hugeLength_7cf53 2 = .ok (.iadd, 1) := by decide +kernel
theorem dJ8_hugeLength_7cf53_3 : decode cJ8_hugeLength_7cf53 3 = .ok (.istore_n 2, 1) := by decide +kernel
theorem dJ8_hugeLength_7cf53_4 : decode cJ8_hugeLength_7cf53 4 = .ok (.iload_n 2, 1) := by decide +kernel
theorem dJ8_hugeLength_7cf53_5 : decode cJ8_hugeLength_7cf53 5 = .ok (.ifCond .ge 44, 3) := by decide +kernel
theorem dJ8_hugeLength_7cf53_8 : decode cJ8_hugeLength_7cf53 8 = .ok (.new 204, 3) := by decide +kernel
theorem dJ8_hugeLength_7cf53_11 : decode cJ8_hugeLength_7cf53 11 = .ok (.dup, 1) := by decide +kernel
theorem dJ8_hugeLength_7cf53_12 : decode cJ8_hugeLength_7cf53 12 = .ok (.new 89, 3) := by decide +kernel
theorem dJ8_hugeLength_7cf53_15 : decode cJ8_hugeLength_7cf53 15 = .ok (.dup, 1) := by decide +kernel
theorem dJ8_hugeLength_7cf53_16 : decode cJ8_hugeLength_7cf53 16 = .ok (.invokespecial 91, 3) := by decide +kernel
theorem dJ8_hugeLength_7cf53_19 : decode cJ8_hugeLength_7cf53 19 = .ok (.ldc 206, 2) := by decide +kernel
theorem dJ8_hugeLength_7cf53_21 : decode cJ8_hugeLength_7cf53 21 = .ok (.invokevirtual 94, 3) := by decide +kernel
theorem dJ8_hugeLength_7cf53_24 : decode cJ8_hugeLength_7cf53 24 = .ok (.iload_n 0, 1) := by decide +kernel
theorem dJ8_hugeLength_7cf53_25 : decode cJ8_hugeLength_7cf53 25 = .ok (.invokevirtual 98, 3) := by decide +kernel
theorem dJ8_hugeLength_7cf53_28 : decode cJ8_hugeLength_7cf53 28 = .ok (.ldc 208, 2) := by decide +kernel
theorem dJ8_hugeLength_7cf53_30 : decode cJ8_hugeLength_7cf53 30 = .ok (.invokevirtual 94, 3) := by decide +kernel
theorem dJ8_hugeLength_7cf53_33 : decode cJ8_hugeLength_7cf53 33 = .ok (.iload_n 1, 1) := by decide +kernel
theorem dJ8_hugeLength_7cf53_34 : decode cJ8_hugeLength_7cf53 34 = .ok (.invokevirtual 98, 3) := by decide +kernel
theorem dJ8_hugeLength_7cf53_37 : decode cJ8_hugeLength_7cf53 37 = .ok (.ldc 210, 2) := by decide +kernel
theorem dJ8_hugeLength_7cf53_39 : decode cJ8_hugeLength_7cf53 39 = .ok (.invokevirtual 94, 3) := by decide +kernel
theorem dJ8_hugeLength_7cf53_42 : decode cJ8_hugeLength_7cf53 42 = .ok (.invokevirtual 101, 3) := by decide +kernel
theorem dJ8_hugeLength_7cf53_45 : decode cJ8_hugeLength_7cf53 45 = .ok (.invokespecial 212, 3) := by decide +kernel
theorem dJ8_hugeLength_7cf53_48 : decode cJ8_hugeLength_7cf53 48 = .ok (.athrow, 1) := by decide +kernel
theorem dJ8_hugeLength_7cf53_49 : decode cJ8_hugeLength_7cf53 49 = .ok (.iload_n 2, 1) := by decide +kernel
theorem dJ8_hugeLength_7cf53_50 : decode cJ8_hugeLength_7cf53 50 = .ok (.ldc 200, 2) := by decide +kernel
theorem dJ8_hugeLength_7cf53_52 : decode cJ8_hugeLength_7cf53 52 = .ok (.if_icmp .gt 6, 3) := by decide +kernel
theorem dJ8_hugeLength_7cf53_55 : decode cJ8_hugeLength_7cf53 55 = .ok (.ldc 200, 2) := by decide +kernel
theorem dJ8_hugeLength_7cf53_57 : decode cJ8_hugeLength_7cf53 57 = .ok (.ireturn, 1) := by decide +kernel
theorem dJ8_hugeLength_7cf53_58 : decode cJ8_hugeLength_7cf53 58 = .ok (.iload_n 2, 1) := by decide +kernel
theorem dJ8_hugeLength_7cf53_59 : decode cJ8_hugeLength_7cf53 59 = .ok (.ireturn, 1) := by decide +kernel
theorem dJ3_checkIndex_8e157_0 : decode cJ3_checkIndex_8e157 0 = .ok (.iload_n 0, 1) := by decide +kernel
theorem dJ3_checkIndex_8e157_1 : decode cJ3_checkIndex_8e157 1 = .ok (.ifCond .lt 8, 3) := by decide +kernel
theorem dJ3_checkIndex_8e157_4 : decode cJ3_checkIndex_8e157 4 = .ok (.iload_n 0, 1) := by decide +kernel
theorem dJ3_checkIndex_8e157_5 : decode cJ3_checkIndex_8e157 5 = .ok (.iload_n 1, 1) := by decide +kernel
theorem dJ3_checkIndex_8e157_6 : decode cJ3_checkIndex_8e157 6 = .ok (.if_icmp .lt 10, 3) := by decide +kernel
theorem dJ3_checkIndex_8e157_9 : decode cJ3_checkIndex_8e157 9 = .ok (.aload_n 2, 1) := by decide +kernel
theorem dJ3_checkIndex_8e157_10 : decode cJ3_checkIndex_8e157 10 = .ok (.iload_n 0, 1) := by decide +kernel
theorem dJ3_checkIndex_8e157_11 : decode cJ3_checkIndex_8e157 11 = .ok (.iload_n 1, 1) := by decide +kernel
theorem dJ3_checkIndex_8e157_12 : decode cJ3_checkIndex_8e157 12 = .ok (.invokestatic 95, 3) := by decide +kernel
theorem dJ3_checkIndex_8e157_15 : decode cJ3_checkIndex_8e157 15 = .ok (.athrow, 1) := by decide +kernel
theorem dJ3_checkIndex_8e157_16 : decode cJ3_checkIndex_8e157 16 = .ok (.iload_n 0, 1) := by decide +kernel
theorem dJ3_checkIndex_8e157_17 : decode cJ3_checkIndex_8e157 17 = .ok (.ireturn, 1) := by decide +kernel
theorem dL_below_0 : decode cL_below 0 = .ok (.iload_n 0, 1) := by decide +kernel
theorem dL_below_1 : decode cL_below 1 = .ok (.ldc 7, 2) := by decide +kernel
theorem dL_below_3 : decode cL_below 3 = .ok (.iand, 1) := by decide +kernel
theorem dL_below_4 : decode cL_below 4 = .ok (.iload_n 1, 1) := by decide +kernel
theorem dL_below_5 : decode cL_below 5 = .ok (.irem, 1) := by decide +kernel
theorem dL_below_6 : decode cL_below 6 = .ok (.ireturn, 1) := by decide +kernel
theorem dL_cell_0 : decode cL_cell 0 = .ok (.iload_n 1, 1) := by decide +kernel
theorem dL_cell_1 : decode cL_cell 1 = .ok (.aload_n 0, 1) := by decide +kernel
theorem dL_cell_2 : decode cL_cell 2 = .ok (.arraylength, 1) := by decide +kernel
theorem dL_cell_3 : decode cL_cell 3 = .ok (.if_icmp .ge 9, 3) := by decide +kernel
theorem dL_cell_6 : decode cL_cell 6 = .ok (.aload_n 0, 1) := by decide +kernel
theorem dL_cell_7 : decode cL_cell 7 = .ok (.iload_n 1, 1) := by decide +kernel
theorem dL_cell_8 : decode cL_cell 8 = .ok (.iaload, 1) := by decide +kernel
theorem dL_cell_9 : decode cL_cell 9 = .ok (.goto 9, 3) := by decide +kernel
theorem dL_cell_12 : decode cL_cell 12 = .ok (.ldc 8, 2) := by decide +kernel
theorem dL_cell_14 : decode cL_cell 14 = .ok (.iload_n 1, 1) := by decide +kernel
theorem dL_cell_15 : decode cL_cell 15 = .ok (.iconst 3, 1) := by decide +kernel
theorem dL_cell_16 : decode cL_cell 16 = .ok (.iadd, 1) := by decide +kernel
theorem dL_cell_17 : decode cL_cell 17 = .ok (.imul, 1) := by decide +kernel
theorem dL_cell_18 : decode cL_cell 18 = .ok (.ireturn, 1) := by decide +kernel
theorem dL_law_0 : decode cL_law 0 = .ok (.new 9, 3) := by decide +kernel
theorem dL_law_3 : decode cL_law 3 = .ok (.dup, 1) := by decide +kernel
theorem dL_law_4 : decode cL_law 4 = .ok (.invokespecial 11, 3) := by decide +kernel
theorem dL_law_7 : decode cL_law 7 = .ok (.astore_n 1, 1) := by decide +kernel
theorem dL_law_8 : decode cL_law 8 = .ok (.iconst 1, 1) := by decide +kernel
theorem dL_law_9 : decode cL_law 9 = .ok (.aload_n 0, 1) := by decide +kernel
theorem dL_law_10 : decode cL_law 10 = .ok (.iconst 0, 1) := by decide +kernel
theorem dL_law_11 : decode cL_law 11 = .ok (.invokestatic 12, 3) := by decide +kernel
theorem dL_law_14 : decode cL_law 14 = .ok (.iconst 3, 1) := by decide +kernel
theorem dL_law_15 : decode cL_law 15 = .ok (.invokestatic 18, 3) := by decide +kernel
theorem dL_law_18 : decode cL_law 18 = .ok (.iadd, 1) := by decide +kernel
theorem dL_law_19 : decode cL_law 19 = .ok (.istore_n 2, 1) := by decide +kernel
theorem dL_law_20 : decode cL_law 20 = .ok (.iconst 0, 1) := by decide +kernel
theorem dL_law_21 : decode cL_law 21 = .ok (.istore_n 3, 1) := by decide +kernel
theorem dL_law_22 : decode cL_law 22 = .ok (.iload_n 3, 1) := by decide +kernel
theorem dL_law_23 : decode cL_law 23 = .ok (.iload_n 2, 1) := by decide +kernel
theorem dL_law_24 : decode cL_law 24 = .ok (.if_icmp .ge 14, 3) := by decide +kernel
theorem dL_law_27 : decode cL_law 27 = .ok (.aload_n 1, 1) := by decide +kernel
theorem dL_law_28 : decode cL_law 28 = .ok (.invokevirtual 22, 3) := by decide +kernel
theorem dL_law_31 : decode cL_law 31 = .ok (.pop, 1) := by decide +kernel
theorem dL_law_32 : decode cL_law 32 = .ok (.iinc 3 1, 3) := by decide +kernel
theorem dL_law_35 : decode cL_law 35 = .ok (.goto (-13), 3) := by decide +kernel
theorem dL_law_38 : decode cL_law 38 = .ok (.iconst 0, 1) := by decide +kernel
theorem dL_law_39 : decode cL_law 39 = .ok (.istore_n 3, 1) := by decide +kernel
theorem dL_law_40 : decode cL_law 40 = .ok (.iload_n 3, 1) := by decide +kernel
theorem dL_law_41 : decode cL_law 41 = .ok (.bipush 100, 2) := by decide +kernel
theorem dL_law_43 : decode cL_law 43 = .ok (.if_icmp .ge 94, 3) := by decide +kernel
theorem dL_law_46 : decode cL_law 46 = .ok (.aload_n 1, 1) := by decide +kernel
theorem dL_law_47 : decode cL_law 47 = .ok (.iload_n 2, 1) := by decide +kernel
theorem dL_law_48 : decode cL_law 48 = .ok (.aload_n 0, 1) := by decide +kernel
theorem dL_law_49 : decode cL_law 49 = .ok (.iconst 1, 1) := by decide +kernel
theorem dL_law_50 : decode cL_law 50 = .ok (.iload_n 3, 1) := by decide +kernel
theorem dL_law_51 : decode cL_law 51 = .ok (.bipush 25, 2) := by decide +kernel
theorem dL_law_53 : decode cL_law 53 = .ok (.irem, 1) := by decide +kernel
theorem dL_law_54 : decode cL_law 54 = .ok (.iadd, 1) := by decide +kernel
theorem dL_law_55 : decode cL_law 55 = .ok (.invokestatic 12, 3) := by decide +kernel
theorem dL_law_58 : decode cL_law 58 = .ok (.iload_n 3, 1) := by decide +kernel
theorem dL_law_59 : decode cL_law 59 = .ok (.bipush 25, 2) := by decide +kernel
theorem dL_law_61 : decode cL_law 61 = .ok (.idiv, 1) := by decide +kernel
theorem dL_law_62 : decode cL_law 62 = .ok (.bipush 6, 2) := by decide +kernel
theorem dL_law_64 : decode cL_law 64 = .ok (.imul, 1) := by decide +kernel
theorem dL_law_65 : decode cL_law 65 = .ok (.ishr, 1) := by decide +kernel
theorem dL_law_66 : decode cL_law 66 = .ok (.invokestatic 26, 3) := by decide +kernel
theorem dL_law_69 : decode cL_law 69 = .ok (.iload_n 3, 1) := by decide +kernel
theorem dL_law_70 : decode cL_law 70 = .ok (.bipush 20, 2) := by decide +kernel
theorem dL_law_72 : decode cL_law 72 = .ok (.irem, 1) := by decide +kernel
theorem dL_law_73 : decode cL_law 73 = .ok (.bipush 19, 2) := by decide +kernel
theorem dL_law_75 : decode cL_law 75 = .ok (.if_icmp .eq 6, 3) := by decide +kernel
theorem dL_law_78 : decode cL_law 78 = .ok (.goto 53, 3) := by decide +kernel
theorem dL_law_81 : decode cL_law 81 = .ok (.aload_n 1, 1) := by decide +kernel
theorem dL_law_82 : decode cL_law 82 = .ok (.invokevirtual 30, 3) := by decide +kernel
theorem dL_law_85 : decode cL_law 85 = .ok (.lstore 4, 2) := by decide +kernel
theorem dL_law_87 : decode cL_law 87 = .ok (.aload_n 1, 1) := by decide +kernel
theorem dL_law_88 : decode cL_law 88 = .ok (.iload_n 2, 1) := by decide +kernel
theorem dL_law_89 : decode cL_law 89 = .ok (.invokestatic 34, 3) := by decide +kernel
theorem dL_law_92 : decode cL_law 92 = .ok (.ifCond .eq 27, 3) := by decide +kernel
theorem dL_law_95 : decode cL_law 95 = .ok (.aload_n 1, 1) := by decide +kernel
theorem dL_law_96 : decode cL_law 96 = .ok (.invokevirtual 38, 3) := by decide +kernel
theorem dL_law_99 : decode cL_law 99 = .ok (.ifCond .lt 20, 3) := by decide +kernel
theorem dL_law_102 : decode cL_law 102 = .ok (.aload_n 1, 1) := by decide +kernel
theorem dL_law_103 : decode cL_law 103 = .ok (.invokevirtual 41, 3) := by decide +kernel
theorem dL_law_106 : decode cL_law 106 = .ok (.ifCond .lt 13, 3) := by decide +kernel
theorem dL_law_109 : decode cL_law 109 = .ok (.aload_n 1, 1) := by decide +kernel
theorem dL_law_110 : decode cL_law 110 = .ok (.invokevirtual 30, 3) := by decide +kernel
theorem dL_law_113 : decode cL_law 113 = .ok (.lload 4, 2) := by decide +kernel
theorem dL_law_115 : decode cL_law 115 = .ok (.lcmp, 1) := by decide +kernel
theorem dL_law_116 : decode cL_law 116 = .ok (.ifCond .eq 5, 3) := by decide +kernel
theorem dL_law_119 : decode cL_law 119 = .ok (.iconst 0, 1) := by decide +kernel
theorem dL_law_120 : decode cL_law 120 = .ok (.ireturn, 1) := by decide +kernel
theorem dL_law_121 : decode cL_law 121 = .ok (.aload_n 1, 1) := by decide +kernel
theorem dL_law_122 : decode cL_law 122 = .ok (.iload_n 2, 1) := by decide +kernel
theorem dL_law_123 : decode cL_law 123 = .ok (.invokestatic 44, 3) := by decide +kernel
theorem dL_law_126 : decode cL_law 126 = .ok (.ifCond .ne 5, 3) := by decide +kernel
theorem dL_law_129 : decode cL_law 129 = .ok (.iconst 0, 1) := by decide +kernel
theorem dL_law_130 : decode cL_law 130 = .ok (.ireturn, 1) := by decide +kernel
theorem dL_law_131 : decode cL_law 131 = .ok (.iinc 3 1, 3) := by decide +kernel
theorem dL_law_134 : decode cL_law 134 = .ok (.goto (-94), 3) := by decide +kernel
theorem dL_law_137 : decode cL_law 137 = .ok (.iconst 1, 1) := by decide +kernel
theorem dL_law_138 : decode cL_law 138 = .ok (.ireturn, 1) := by decide +kernel
theorem dL_act_0 : decode cL_act 0 = .ok (.iload_n 2, 1) := by decide +kernel
theorem dL_act_1 : decode cL_act 1 = .ok (.iconst 3, 1) := by decide +kernel
theorem dL_act_2 : decode cL_act 2 = .ok (.ishr, 1) := by decide +kernel
theorem dL_act_3 : decode cL_act 3 = .ok (.iload_n 1, 1) := by decide +kernel
theorem dL_act_4 : decode cL_act 4 = .ok (.invokestatic 18, 3) := by decide +kernel
theorem dL_act_7 : decode cL_act 7 = .ok (.istore_n 3, 1) := by decide +kernel
theorem dL_act_8 : decode cL_act 8 = .ok (.iload_n 2, 1) := by decide +kernel
theorem dL_act_9 : decode cL_act 9 = .ok (.iconst 5, 1) := by decide +kernel
theorem dL_act_10 : decode cL_act 10 = .ok (.ishr, 1) := by decide +kernel
theorem dL_act_11 : decode cL_act 11 = .ok (.iconst 1, 1) := by decide +kernel
theorem dL_act_12 : decode cL_act 12 = .ok (.aload_n 0, 1) := by decide +kernel
theorem dL_act_13 : decode cL_act 13 = .ok (.invokevirtual 47, 3) := by decide +kernel
theorem dL_act_16 : decode cL_act 16 = .ok (.invokestatic 50, 3) := by decide +kernel
theorem dL_act_19 : decode cL_act 19 = .ok (.invokestatic 18, 3) := by decide +kernel
theorem dL_act_22 : decode cL_act 22 = .ok (.istore 4, 2) := by decide +kernel
theorem dL_act_24 : decode cL_act 24 = .ok (.iload_n 2, 1) := by decide +kernel
theorem dL_act_25 : decode cL_act 25 = .ok (.iconst 4, 1) := by decide +kernel
theorem dL_act_26 : decode cL_act 26 = .ok (.ishr, 1) := by decide +kernel
theorem dL_act_27 : decode cL_act 27 = .ok (.iconst 1, 1) := by decide +kernel
theorem dL_act_28 : decode cL_act 28 = .ok (.aload_n 0, 1) := by decide +kernel
theorem dL_act_29 : decode cL_act 29 = .ok (.invokevirtual 55, 3) := by decide +kernel
theorem dL_act_32 : decode cL_act 32 = .ok (.invokestatic 50, 3) := by decide +kernel
theorem dL_act_35 : decode cL_act 35 = .ok (.invokestatic 18, 3) := by decide +kernel
theorem dL_act_38 : decode cL_act 38 = .ok (.istore 5, 2) := by decide +kernel
theorem dL_act_40 : decode cL_act 40 = .ok (.iload_n 2, 1) := by decide +kernel
theorem dL_act_41 : decode cL_act 41 = .ok (.bipush 16, 2) := by decide +kernel
theorem dL_act_43 : decode cL_act 43 = .ok (.invokestatic 18, 3) := by decide +kernel
theorem dL_act_46 : decode cL_act 46 = .ok (.tableswitch 191 0 8 #[50, 60, 80, 99, 107, 118, 128, 137, 164], 50) := by decide +kernel
theorem dL_act_96 : decode cL_act 96 = .ok (.aload_n 0, 1) := by decide +kernel
theorem dL_act_97 : decode cL_act 97 = .ok (.iload 4, 2) := by decide +kernel
theorem dL_act_99 : decode cL_act 99 = .ok (.invokevirtual 58, 3) := by decide +kernel
theorem dL_act_102 : decode cL_act 102 = .ok (.pop, 1) := by decide +kernel
theorem dL_act_103 : decode cL_act 103 = .ok (.goto 206, 3) := by decide +kernel
theorem dL_act_106 : decode cL_act 106 = .ok (.aload_n 0, 1) := by decide +kernel
theorem dL_act_107 : decode cL_act 107 = .ok (.iload 4, 2) := by decide +kernel
theorem dL_act_109 : decode cL_act 109 = .ok (.iload_n 3, 1) := by decide +kernel
theorem dL_act_110 : decode cL_act 110 = .ok (.iload_n 2, 1) := by decide +kernel
theorem dL_act_111 : decode cL_act 111 = .ok (.bipush 7, 2) := by decide +kernel
theorem dL_act_113 : decode cL_act 113 = .ok (.ishr, 1) := by decide +kernel
theorem dL_act_114 : decode cL_act 114 = .ok (.bipush 30, 2) := by decide +kernel
theorem dL_act_116 : decode cL_act 116 = .ok (.invokestatic 18, 3) := by decide +kernel
theorem dL_act_119 : decode cL_act 119 = .ok (.invokevirtual 62, 3) := by decide +kernel
theorem dL_act_122 : decode cL_act 122 = .ok (.pop, 1) := by decide +kernel
theorem dL_act_123 : decode cL_act 123 = .ok (.goto 186, 3) := by decide +kernel
theorem dL_act_126 : decode cL_act 126 = .ok (.aload_n 0, 1) := by decide +kernel
theorem dL_act_127 : decode cL_act 127 = .ok (.iconst 4, 1) := by decide +kernel
theorem dL_act_128 : decode cL_act 128 = .ok (.iload_n 2, 1) := by decide +kernel
theorem dL_act_129 : decode cL_act 129 = .ok (.bipush 6, 2) := by decide +kernel
theorem dL_act_131 : decode cL_act 131 = .ok (.ishr, 1) := by decide +kernel
theorem dL_act_132 : decode cL_act 132 = .ok (.bipush 20, 2) := by decide +kernel
theorem dL_act_134 : decode cL_act 134 = .ok (.invokestatic 18, 3) := by decide +kernel
theorem dL_act_137 : decode cL_act 137 = .ok (.iadd, 1) := by decide +kernel
theorem dL_act_138 : decode cL_act 138 = .ok (.invokevirtual 66, 3) := by decide +kernel
theorem dL_act_141 : decode cL_act 141 = .ok (.pop, 1) := by decide +kernel
theorem dL_act_142 : decode cL_act 142 = .ok (.goto 167, 3) := by decide +kernel
theorem dL_act_145 : decode cL_act 145 = .ok (.aload_n 0, 1) := by decide +kernel
theorem dL_act_146 : decode cL_act 146 = .ok (.invokevirtual 70, 3) := by decide +kernel
theorem dL_act_149 : decode cL_act 149 = .ok (.pop, 1) := by decide +kernel
theorem dL_act_150 : decode cL_act 150 = .ok (.goto 159, 3) := by decide +kernel
theorem dL_act_153 : decode cL_act 153 = .ok (.aload_n 0, 1) := by decide +kernel
theorem dL_act_154 : decode cL_act 154 = .ok (.iload 5, 2) := by decide +kernel
theorem dL_act_156 : decode cL_act 156 = .ok (.iload_n 3, 1) := by decide +kernel
theorem dL_act_157 : decode cL_act 157 = .ok (.invokevirtual 73, 3) := by decide +kernel
theorem dL_act_160 : decode cL_act 160 = .ok (.pop, 1) := by decide +kernel
theorem dL_act_161 : decode cL_act 161 = .ok (.goto 148, 3) := by decide +kernel
theorem dL_act_164 : decode cL_act 164 = .ok (.aload_n 0, 1) := by decide +kernel
theorem dL_act_165 : decode cL_act 165 = .ok (.iload 5, 2) := by decide +kernel
theorem dL_act_167 : decode cL_act 167 = .ok (.invokevirtual 76, 3) := by decide +kernel
theorem dL_act_170 : decode cL_act 170 = .ok (.pop, 1) := by decide +kernel
theorem dL_act_171 : decode cL_act 171 = .ok (.goto 138, 3) := by decide +kernel
theorem dL_act_174 : decode cL_act 174 = .ok (.aload_n 0, 1) := by decide +kernel
theorem dL_act_175 : decode cL_act 175 = .ok (.iload_n 3, 1) := by decide +kernel
theorem dL_act_176 : decode cL_act 176 = .ok (.invokevirtual 79, 3) := by decide +kernel
theorem dL_act_179 : decode cL_act 179 = .ok (.pop, 1) := by decide +kernel
theorem dL_act_180 : decode cL_act 180 = .ok (.goto 129, 3) := by decide +kernel
theorem dL_act_183 : decode cL_act 183 = .ok (.aload_n 0, 1) := by decide +kernel
theorem dL_act_184 : decode cL_act 184 = .ok (.iload_n 3, 1) := by decide +kernel
theorem dL_act_185 : decode cL_act 185 = .ok (.iload_n 2, 1) := by decide +kernel
theorem dL_act_186 : decode cL_act 186 = .ok (.bipush 6, 2) := by decide +kernel
theorem dL_act_188 : decode cL_act 188 = .ok (.ishr, 1) := by decide +kernel
theorem dL_act_189 : decode cL_act 189 = .ok (.bipush 8, 2) := by decide +kernel
theorem dL_act_191 : decode cL_act 191 = .ok (.invokestatic 18, 3) := by decide +kernel
theorem dL_act_194 : decode cL_act 194 = .ok (.iload_n 2, 1) := by decide +kernel
theorem dL_act_195 : decode cL_act 195 = .ok (.bipush 8, 2) := by decide +kernel
theorem dL_act_197 : decode cL_act 197 = .ok (.ishr, 1) := by decide +kernel
theorem dL_act_198 : decode cL_act 198 = .ok (.bipush 30, 2) := by decide +kernel
theorem dL_act_200 : decode cL_act 200 = .ok (.invokestatic 18, 3) := by decide +kernel
theorem dL_act_203 : decode cL_act 203 = .ok (.invokevirtual 82, 3) := by decide +kernel
theorem dL_act_206 : decode cL_act 206 = .ok (.pop, 1) := by decide +kernel
theorem dL_act_207 : decode cL_act 207 = .ok (.goto 102, 3) := by decide +kernel
theorem dL_act_210 : decode cL_act 210 = .ok (.iload_n 2, 1) := by decide +kernel
theorem dL_act_211 : decode cL_act 211 = .ok (.bipush 6, 2) := by decide +kernel
theorem dL_act_213 : decode cL_act 213 = .ok (.ishr, 1) := by decide +kernel
theorem dL_act_214 : decode cL_act 214 = .ok (.iconst 2, 1) := by decide +kernel
theorem dL_act_215 : decode cL_act 215 = .ok (.invokestatic 18, 3) := by decide +kernel
theorem dL_act_218 : decode cL_act 218 = .ok (.ifCond .ne 11, 3) := by decide +kernel
theorem dL_act_221 : decode cL_act 221 = .ok (.aload_n 0, 1) := by decide +kernel
theorem dL_act_222 : decode cL_act 222 = .ok (.invokevirtual 85, 3) := by decide +kernel
theorem dL_act_225 : decode cL_act 225 = .ok (.pop, 1) := by decide +kernel
theorem dL_act_226 : decode cL_act 226 = .ok (.goto 83, 3) := by decide +kernel
theorem dL_act_229 : decode cL_act 229 = .ok (.aload_n 0, 1) := by decide +kernel
theorem dL_act_230 : decode cL_act 230 = .ok (.invokevirtual 88, 3) := by decide +kernel
theorem dL_act_233 : decode cL_act 233 = .ok (.pop, 1) := by decide +kernel
theorem dL_act_234 : decode cL_act 234 = .ok (.goto 75, 3) := by decide +kernel
theorem dL_act_237 : decode cL_act 237 = .ok (.iconst 0, 1) := by decide +kernel
theorem dL_act_238 : decode cL_act 238 = .ok (.istore 6, 2) := by decide +kernel
theorem dL_act_240 : decode cL_act 240 = .ok (.iload 6, 2) := by decide +kernel
theorem dL_act_242 : decode cL_act 242 = .ok (.iload_n 1, 1) := by decide +kernel
theorem dL_act_243 : decode cL_act 243 = .ok (.if_icmp .ge 61, 3) := by decide +kernel
theorem dL_act_246 : decode cL_act 246 = .ok (.iload_n 2, 1) := by decide +kernel
theorem dL_act_247 : decode cL_act 247 = .ok (.iconst 2, 1) := by decide +kernel
theorem dL_act_248 : decode cL_act 248 = .ok (.iload 6, 2) := by decide +kernel
theorem dL_act_250 : decode cL_act 250 = .ok (.iadd, 1) := by decide +kernel
theorem dL_act_251 : decode cL_act 251 = .ok (.ishr, 1) := by decide +kernel
theorem dL_act_252 : decode cL_act 252 = .ok (.iconst 5, 1) := by decide +kernel
theorem dL_act_253 : decode cL_act 253 = .ok (.invokestatic 18, 3) := by decide +kernel
theorem dL_act_256 : decode cL_act 256 = .ok (.ifCond .le 42, 3) := by decide +kernel
theorem dL_act_259 : decode cL_act 259 = .ok (.aload_n 0, 1) := by decide +kernel
theorem dL_act_260 : decode cL_act 260 = .ok (.iload 6, 2) := by decide +kernel
theorem dL_act_262 : decode cL_act 262 = .ok (.iload_n 2, 1) := by decide +kernel
theorem dL_act_263 : decode cL_act 263 = .ok (.iconst 5, 1) := by decide +kernel
theorem dL_act_264 : decode cL_act 264 = .ok (.iload 6, 2) := by decide +kernel
theorem dL_act_266 : decode cL_act 266 = .ok (.iadd, 1) := by decide +kernel
theorem dL_act_267 : decode cL_act 267 = .ok (.ishr, 1) := by decide +kernel
theorem dL_act_268 : decode cL_act 268 = .ok (.iconst 4, 1) := by decide +kernel
theorem dL_act_269 : decode cL_act 269 = .ok (.invokestatic 18, 3) := by decide +kernel
theorem dL_act_272 : decode cL_act 272 = .ok (.ifCond .ne 10, 3) := by decide +kernel
theorem dL_act_275 : decode cL_act 275 = .ok (.iload_n 2, 1) := by decide +kernel
theorem dL_act_276 : decode cL_act 276 = .ok (.iload 6, 2) := by decide +kernel
theorem dL_act_278 : decode cL_act 278 = .ok (.ishr, 1) := by decide +kernel
theorem dL_act_279 : decode cL_act 279 = .ok (.goto 15, 3) := by decide +kernel
theorem dL_act_282 : decode cL_act 282 = .ok (.iload_n 2, 1) := by decide +kernel
theorem dL_act_283 : decode cL_act 283 = .ok (.bipush 6, 2) := by decide +kernel
theorem dL_act_285 : decode cL_act 285 = .ok (.iload 6, 2) := by decide +kernel
theorem dL_act_287 : decode cL_act 287 = .ok (.iadd, 1) := by decide +kernel
theorem dL_act_288 : decode cL_act 288 = .ok (.ishr, 1) := by decide +kernel
theorem dL_act_289 : decode cL_act 289 = .ok (.bipush 20, 2) := by decide +kernel
theorem dL_act_291 : decode cL_act 291 = .ok (.invokestatic 18, 3) := by decide +kernel
theorem dL_act_294 : decode cL_act 294 = .ok (.invokevirtual 91, 3) := by decide +kernel
theorem dL_act_297 : decode cL_act 297 = .ok (.pop, 1) := by decide +kernel
theorem dL_act_298 : decode cL_act 298 = .ok (.iinc 6 1, 3) := by decide +kernel
theorem dL_act_301 : decode cL_act 301 = .ok (.goto (-61), 3) := by decide +kernel
theorem dL_act_304 : decode cL_act 304 = .ok (.aload_n 0, 1) := by decide +kernel
theorem dL_act_305 : decode cL_act 305 = .ok (.invokevirtual 94, 3) := by decide +kernel
theorem dL_act_308 : decode cL_act 308 = .ok (.pop, 1) := by decide +kernel
theorem dL_act_309 : decode cL_act 309 = .ok (.goto 9, 3) := by decide +kernel
theorem dL_act_312 : decode cL_act 312 = .ok (.astore 6, 2) := by decide +kernel
theorem dL_act_314 : decode cL_act 314 = .ok (.return_, 1) := by decide +kernel
theorem dL_act_315 : decode cL_act 315 = .ok (.astore 6, 2) := by decide +kernel
theorem dL_act_317 : decode cL_act 317 = .ok (.return_, 1) := by decide +kernel
theorem dL_act_318 : decode cL_act 318 = .ok (.return_, 1) := by decide +kernel
theorem dL_isTableSound_0 : decode cL_isTableSound 0 = .ok (.iconst 0, 1) := by decide +kernel
theorem dL_isTableSound_1 : decode cL_isTableSound 1 = .ok (.istore_n 2, 1) := by decide +kernel
theorem dL_isTableSound_2 : decode cL_isTableSound 2 = .ok (.iconst 0, 1) := by decide +kernel
theorem dL_isTableSound_3 : decode cL_isTableSound 3 = .ok (.istore_n 3, 1) := by decide +kernel
theorem dL_isTableSound_4 : decode cL_isTableSound 4 = .ok (.iload_n 3, 1) := by decide +kernel
theorem dL_isTableSound_5 : decode cL_isTableSound 5 = .ok (.aload_n 0, 1) := by decide +kernel
theorem dL_isTableSound_6 : decode cL_isTableSound 6 = .ok (.invokevirtual 47, 3) := by decide +kernel
theorem dL_isTableSound_9 : decode cL_isTableSound 9 = .ok (.if_icmp .ge 155, 3) := by decide +kernel
theorem dL_isTableSound_12 : decode cL_isTableSound 12 = .ok (.aload_n 0, 1) := by decide +kernel
theorem dL_isTableSound_13 : decode cL_isTableSound 13 = .ok (.iload_n 3, 1) := by decide +kernel
theorem dL_isTableSound_14 : decode cL_isTableSound 14 = .ok (.invokevirtual 101, 3) := by decide +kernel
theorem dL_isTableSound_17 : decode cL_isTableSound 17 = .ok (.istore 4, 2) := by decide +kernel
theorem dL_isTableSound_19 : decode cL_isTableSound 19 = .ok (.aload_n 0, 1) := by decide +kernel
theorem dL_isTableSound_20 : decode cL_isTableSound 20 = .ok (.iload_n 3, 1) := by decide +kernel
theorem dL_isTableSound_21 : decode cL_isTableSound 21 = .ok (.invokevirtual 104, 3) := by decide +kernel
theorem dL_isTableSound_24 : decode cL_isTableSound 24 = .ok (.ifCond .eq 10, 3) := by decide +kernel
theorem dL_isTableSound_27 : decode cL_isTableSound 27 = .ok (.iload 4, 2) := by decide +kernel
theorem dL_isTableSound_29 : decode cL_isTableSound 29 = .ok (.bipush (-2), 2) := by decide +kernel
theorem dL_isTableSound_31 : decode cL_isTableSound 31 = .ok (.if_icmp .eq 19, 3) := by decide +kernel
theorem dL_isTableSound_34 : decode cL_isTableSound 34 = .ok (.iload 4, 2) := by decide +kernel
theorem dL_isTableSound_36 : decode cL_isTableSound 36 = .ok (.bipush (-2), 2) := by decide +kernel
theorem dL_isTableSound_38 : decode cL_isTableSound 38 = .ok (.if_icmp .lt 12, 3) := by decide +kernel
theorem dL_isTableSound_41 : decode cL_isTableSound 41 = .ok (.iload 4, 2) := by decide +kernel
theorem dL_isTableSound_43 : decode cL_isTableSound 43 = .ok (.aload_n 0, 1) := by decide +kernel
theorem dL_isTableSound_44 : decode cL_isTableSound 44 = .ok (.invokevirtual 55, 3) := by decide +kernel
theorem dL_isTableSound_47 : decode cL_isTableSound 47 = .ok (.if_icmp .lt 5, 3) := by decide +kernel
theorem dL_isTableSound_50 : decode cL_isTableSound 50 = .ok (.iconst 0, 1) := by decide +kernel
theorem dL_isTableSound_51 : decode cL_isTableSound 51 = .ok (.ireturn, 1) := by decide +kernel
theorem dL_isTableSound_52 : decode cL_isTableSound 52 = .ok (.iload_n 2, 1) := by decide +kernel
theorem dL_isTableSound_53 : decode cL_isTableSound 53 = .ok (.aload_n 0, 1) := by decide +kernel
theorem dL_isTableSound_54 : decode cL_isTableSound 54 = .ok (.iload_n 3, 1) := by decide +kernel
theorem dL_isTableSound_55 : decode cL_isTableSound 55 = .ok (.invokevirtual 104, 3) := by decide +kernel
theorem dL_isTableSound_58 : decode cL_isTableSound 58 = .ok (.ifCond .eq 7, 3) := by decide +kernel
theorem dL_isTableSound_61 : decode cL_isTableSound 61 = .ok (.iconst 1, 1) := by decide +kernel
theorem dL_isTableSound_62 : decode cL_isTableSound 62 = .ok (.goto 4, 3) := by decide +kernel
theorem dL_isTableSound_65 : decode cL_isTableSound 65 = .ok (.iconst 0, 1) := by decide +kernel
theorem dL_isTableSound_66 : decode cL_isTableSound 66 = .ok (.iadd, 1) := by decide +kernel
theorem dL_isTableSound_67 : decode cL_isTableSound 67 = .ok (.istore_n 2, 1) := by decide +kernel
theorem dL_isTableSound_68 : decode cL_isTableSound 68 = .ok (.iconst 0, 1) := by decide +kernel
theorem dL_isTableSound_69 : decode cL_isTableSound 69 = .ok (.istore 5, 2) := by decide +kernel
theorem dL_isTableSound_71 : decode cL_isTableSound 71 = .ok (.iload 5, 2) := by decide +kernel
theorem dL_isTableSound_73 : decode cL_isTableSound 73 = .ok (.iload_n 1, 1) := by decide +kernel
theorem dL_isTableSound_74 : decode cL_isTableSound 74 = .ok (.if_icmp .ge 84, 3) := by decide +kernel
theorem dL_isTableSound_77 : decode cL_isTableSound 77 = .ok (.aload_n 0, 1) := by decide +kernel
theorem dL_isTableSound_78 : decode cL_isTableSound 78 = .ok (.iload_n 3, 1) := by decide +kernel
theorem dL_isTableSound_79 : decode cL_isTableSound 79 = .ok (.iload 5, 2) := by decide +kernel
theorem dL_isTableSound_81 : decode cL_isTableSound 81 = .ok (.invokevirtual 107, 3) := by decide +kernel
theorem dL_isTableSound_84 : decode cL_isTableSound 84 = .ok (.ifCond .eq 15, 3) := by decide +kernel
theorem dL_isTableSound_87 : decode cL_isTableSound 87 = .ok (.aload_n 0, 1) := by decide +kernel
theorem dL_isTableSound_88 : decode cL_isTableSound 88 = .ok (.iload_n 3, 1) := by decide +kernel
theorem dL_isTableSound_89 : decode cL_isTableSound 89 = .ok (.iload 5, 2) := by decide +kernel
theorem dL_isTableSound_91 : decode cL_isTableSound 91 = .ok (.invokevirtual 111, 3) := by decide +kernel
theorem dL_isTableSound_94 : decode cL_isTableSound 94 = .ok (.ifCond .eq 5, 3) := by decide +kernel
theorem dL_isTableSound_97 : decode cL_isTableSound 97 = .ok (.iconst 0, 1) := by decide +kernel
theorem dL_isTableSound_98 : decode cL_isTableSound 98 = .ok (.ireturn, 1) := by decide +kernel
theorem dL_isTableSound_99 : decode cL_isTableSound 99 = .ok (.iload 4, 2) := by decide +kernel
theorem dL_isTableSound_101 : decode cL_isTableSound 101 = .ok (.ifCond .lt 51, 3) := by decide +kernel
theorem dL_isTableSound_104 : decode cL_isTableSound 104 = .ok (.aload_n 0, 1) := by decide +kernel
theorem dL_isTableSound_105 : decode cL_isTableSound 105 = .ok (.iload_n 3, 1) := by decide +kernel
theorem dL_isTableSound_106 : decode cL_isTableSound 106 = .ok (.iload 5, 2) := by decide +kernel
theorem dL_isTableSound_108 : decode cL_isTableSound 108 = .ok (.invokevirtual 107, 3) := by decide +kernel
theorem dL_isTableSound_111 : decode cL_isTableSound 111 = .ok (.ifCond .ne 41, 3) := by decide +kernel
theorem dL_isTableSound_114 : decode cL_isTableSound 114 = .ok (.aload_n 0, 1) := by decide +kernel
theorem dL_isTableSound_115 : decode cL_isTableSound 115 = .ok (.iload_n 3, 1) := by decide +kernel
theorem dL_isTableSound_116 : decode cL_isTableSound 116 = .ok (.iload 5, 2) := by decide +kernel
theorem dL_isTableSound_118 : decode cL_isTableSound 118 = .ok (.invokevirtual 111, 3) := by decide +kernel
theorem dL_isTableSound_121 : decode cL_isTableSound 121 = .ok (.aload_n 0, 1) := by decide +kernel
theorem dL_isTableSound_122 : decode cL_isTableSound 122 = .ok (.iload 4, 2) := by decide +kernel
theorem dL_isTableSound_124 : decode cL_isTableSound 124 = .ok (.iload 5, 2) := by decide +kernel
theorem dL_isTableSound_126 : decode cL_isTableSound 126 = .ok (.invokevirtual 114, 3) := by decide +kernel
theorem dL_isTableSound_129 : decode cL_isTableSound 129 = .ok (.if_icmp .lt 21, 3) := by decide +kernel
theorem dL_isTableSound_132 : decode cL_isTableSound 132 = .ok (.aload_n 0, 1) := by decide +kernel
theorem dL_isTableSound_133 : decode cL_isTableSound 133 = .ok (.iload_n 3, 1) := by decide +kernel
theorem dL_isTableSound_134 : decode cL_isTableSound 134 = .ok (.iload 5, 2) := by decide +kernel
theorem dL_isTableSound_136 : decode cL_isTableSound 136 = .ok (.invokevirtual 111, 3) := by decide +kernel
theorem dL_isTableSound_139 : decode cL_isTableSound 139 = .ok (.aload_n 0, 1) := by decide +kernel
theorem dL_isTableSound_140 : decode cL_isTableSound 140 = .ok (.iload 4, 2) := by decide +kernel
theorem dL_isTableSound_142 : decode cL_isTableSound 142 = .ok (.iload 5, 2) := by decide +kernel
theorem dL_isTableSound_144 : decode cL_isTableSound 144 = .ok (.invokevirtual 117, 3) := by decide +kernel
theorem dL_isTableSound_147 : decode cL_isTableSound 147 = .ok (.if_icmp .le 5, 3) := by decide +kernel
theorem dL_isTableSound_150 : decode cL_isTableSound 150 = .ok (.iconst 0, 1) := by decide +kernel
theorem dL_isTableSound_151 : decode cL_isTableSound 151 = .ok (.ireturn, 1) := by decide +kernel
theorem dL_isTableSound_152 : decode cL_isTableSound 152 = .ok (.iinc 5 1, 3) := by decide +kernel
theorem dL_isTableSound_155 : decode cL_isTableSound 155 = .ok (.goto (-84), 3) := by decide +kernel
theorem dL_isTableSound_158 : decode cL_isTableSound 158 = .ok (.iinc 3 1, 3) := by decide +kernel
theorem dL_isTableSound_161 : decode cL_isTableSound 161 = .ok (.goto (-157), 3) := by decide +kernel
theorem dL_isTableSound_164 : decode cL_isTableSound 164 = .ok (.iconst 0, 1) := by decide +kernel
theorem dL_isTableSound_165 : decode cL_isTableSound 165 = .ok (.istore_n 3, 1) := by decide +kernel
theorem dL_isTableSound_166 : decode cL_isTableSound 166 = .ok (.iconst 0, 1) := by decide +kernel
theorem dL_isTableSound_167 : decode cL_isTableSound 167 = .ok (.istore 4, 2) := by decide +kernel
theorem dL_isTableSound_169 : decode cL_isTableSound 169 = .ok (.iload 4, 2) := by decide +kernel
theorem dL_isTableSound_171 : decode cL_isTableSound 171 = .ok (.aload_n 0, 1) := by decide +kernel
theorem dL_isTableSound_172 : decode cL_isTableSound 172 = .ok (.invokevirtual 55, 3) := by decide +kernel
theorem dL_isTableSound_175 : decode cL_isTableSound 175 = .ok (.if_icmp .ge 260, 3) := by decide +kernel
theorem dL_isTableSound_178 : decode cL_isTableSound 178 = .ok (.iconst 0, 1) := by decide +kernel
theorem dL_isTableSound_179 : decode cL_isTableSound 179 = .ok (.istore 5, 2) := by decide +kernel
theorem dL_isTableSound_181 : decode cL_isTableSound 181 = .ok (.iconst 0, 1) := by decide +kernel
theorem dL_isTableSound_182 : decode cL_isTableSound 182 = .ok (.istore 6, 2) := by decide +kernel
theorem dL_isTableSound_184 : decode cL_isTableSound 184 = .ok (.iload 6, 2) := by decide +kernel
theorem dL_isTableSound_186 : decode cL_isTableSound 186 = .ok (.aload_n 0, 1) := by decide +kernel
theorem dL_isTableSound_187 : decode cL_isTableSound 187 = .ok (.iload 4, 2) := by decide +kernel
theorem dL_isTableSound_189 : decode cL_isTableSound 189 = .ok (.invokevirtual 120, 3) := by decide +kernel
theorem dL_isTableSound_192 : decode cL_isTableSound 192 = .ok (.if_icmp .ge 28, 3) := by decide +kernel
theorem dL_isTableSound_195 : decode cL_isTableSound 195 = .ok (.aload_n 0, 1) := by decide +kernel
theorem dL_isTableSound_196 : decode cL_isTableSound 196 = .ok (.aload_n 0, 1) := by decide +kernel
theorem dL_isTableSound_197 : decode cL_isTableSound 197 = .ok (.iload 4, 2) := by decide +kernel
theorem dL_isTableSound_199 : decode cL_isTableSound 199 = .ok (.iload 6, 2) := by decide +kernel
theorem dL_isTableSound_201 : decode cL_isTableSound 201 = .ok (.invokevirtual 123, 3) := by decide +kernel
theorem dL_isTableSound_204 : decode cL_isTableSound 204 = .ok (.invokevirtual 101, 3) := by decide +kernel
theorem dL_isTableSound_207 : decode cL_isTableSound 207 = .ok (.iload 4, 2) := by decide +kernel
theorem dL_isTableSound_209 : decode cL_isTableSound 209 = .ok (.if_icmp .eq 5, 3) := by decide +kernel
theorem dL_isTableSound_212 : decode cL_isTableSound 212 = .ok (.iconst 0, 1) := by decide +kernel
theorem dL_isTableSound_213 : decode cL_isTableSound 213 = .ok (.ireturn, 1) := by decide +kernel
theorem dL_isTableSound_214 : decode cL_isTableSound 214 = .ok (.iinc 6 1, 3) := by decide +kernel
theorem dL_isTableSound_217 : decode cL_isTableSound 217 = .ok (.goto (-33), 3) := by decide +kernel
theorem dL_isTableSound_220 : decode cL_isTableSound 220 = .ok (.iconst 0, 1) := by decide +kernel
theorem dL_isTableSound_221 : decode cL_isTableSound 221 = .ok (.istore 6, 2) := by decide +kernel
theorem dL_isTableSound_223 : decode cL_isTableSound 223 = .ok (.iload 6, 2) := by decide +kernel
theorem dL_isTableSound_225 : decode cL_isTableSound 225 = .ok (.iload_n 1, 1) := by decide +kernel
theorem dL_isTableSound_226 : decode cL_isTableSound 226 = .ok (.if_icmp .ge 164, 3) := by decide +kernel
theorem dL_isTableSound_229 : decode cL_isTableSound 229 = .ok (.aload_n 0, 1) := by decide +kernel
theorem dL_isTableSound_230 : decode cL_isTableSound 230 = .ok (.iload 4, 2) := by decide +kernel
theorem dL_isTableSound_232 : decode cL_isTableSound 232 = .ok (.iload 6, 2) := by decide +kernel
theorem dL_isTableSound_234 : decode cL_isTableSound 234 = .ok (.invokevirtual 126, 3) := by decide +kernel
theorem dL_isTableSound_237 : decode cL_isTableSound 237 = .ok (.istore 7, 2) := by decide +kernel
theorem dL_isTableSound_239 : decode cL_isTableSound 239 = .ok (.iconst 0, 1) := by decide +kernel
theorem dL_isTableSound_240 : decode cL_isTableSound 240 = .ok (.istore 8, 2) := by decide +kernel
theorem dL_isTableSound_242 : decode cL_isTableSound 242 = .ok (.iload 8, 2) := by decide +kernel
theorem dL_isTableSound_244 : decode cL_isTableSound 244 = .ok (.iconst 5, 1) := by decide +kernel
theorem dL_isTableSound_245 : decode cL_isTableSound 245 = .ok (.if_icmp .ge 65, 3) := by decide +kernel
theorem dL_isTableSound_248 : decode cL_isTableSound 248 = .ok (.aload_n 0, 1) := by decide +kernel
theorem dL_isTableSound_249 : decode cL_isTableSound 249 = .ok (.iload 4, 2) := by decide +kernel
theorem dL_isTableSound_251 : decode cL_isTableSound 251 = .ok (.iload 6, 2) := by decide +kernel
theorem dL_isTableSound_253 : decode cL_isTableSound 253 = .ok (.iload 8, 2) := by decide +kernel
theorem dL_isTableSound_255 : decode cL_isTableSound 255 = .ok (.invokevirtual 129, 3) := by decide +kernel
theorem dL_isTableSound_258 : decode cL_isTableSound 258 = .ok (.istore 9, 2) := by decide +kernel
theorem dL_isTableSound_260 : decode cL_isTableSound 260 = .ok (.iload 9, 2) := by decide +kernel
theorem dL_isTableSound_262 : decode cL_isTableSound 262 = .ok (.ifCond .lt 42, 3) := by decide +kernel
theorem dL_isTableSound_265 : decode cL_isTableSound 265 = .ok (.iload 9, 2) := by decide +kernel
theorem dL_isTableSound_267 : decode cL_isTableSound 267 = .ok (.aload_n 0, 1) := by decide +kernel
theorem dL_isTableSound_268 : decode cL_isTableSound 268 = .ok (.iload 4, 2) := by decide +kernel
theorem dL_isTableSound_270 : decode cL_isTableSound 270 = .ok (.iload 6, 2) := by decide +kernel
theorem dL_isTableSound_272 : decode cL_isTableSound 272 = .ok (.iload 7, 2) := by decide +kernel
theorem dL_isTableSound_274 : decode cL_isTableSound 274 = .ok (.invokevirtual 129, 3) := by decide +kernel
theorem dL_isTableSound_277 : decode cL_isTableSound 277 = .ok (.if_icmp .lt 25, 3) := by decide +kernel
theorem dL_isTableSound_280 : decode cL_isTableSound 280 = .ok (.iload 9, 2) := by decide +kernel
theorem dL_isTableSound_282 : decode cL_isTableSound 282 = .ok (.aload_n 0, 1) := by decide +kernel
theorem dL_isTableSound_283 : decode cL_isTableSound 283 = .ok (.iload 4, 2) := by decide +kernel
theorem dL_isTableSound_285 : decode cL_isTableSound 285 = .ok (.iload 6, 2) := by decide +kernel
theorem dL_isTableSound_287 : decode cL_isTableSound 287 = .ok (.iload 7, 2) := by decide +kernel
theorem dL_isTableSound_289 : decode cL_isTableSound 289 = .ok (.invokevirtual 129, 3) := by decide +kernel
theorem dL_isTableSound_292 : decode cL_isTableSound 292 = .ok (.if_icmp .ne 12, 3) := by decide +kernel
theorem dL_isTableSound_295 : decode cL_isTableSound 295 = .ok (.iload 8, 2) := by decide +kernel
theorem dL_isTableSound_297 : decode cL_isTableSound 297 = .ok (.iload 7, 2) := by decide +kernel
theorem dL_isTableSound_299 : decode cL_isTableSound 299 = .ok (.if_icmp .ge 5, 3) := by decide +kernel
theorem dL_isTableSound_302 : decode cL_isTableSound 302 = .ok (.iconst 0, 1) := by decide +kernel
theorem dL_isTableSound_303 : decode cL_isTableSound 303 = .ok (.ireturn, 1) := by decide +kernel
theorem dL_isTableSound_304 : decode cL_isTableSound 304 = .ok (.iinc 8 1, 3) := by decide +kernel
theorem dL_isTableSound_307 : decode cL_isTableSound 307 = .ok (.goto (-65), 3) := by decide +kernel
theorem dL_isTableSound_310 : decode cL_isTableSound 310 = .ok (.iload 5, 2) := by decide +kernel
theorem dL_isTableSound_312 : decode cL_isTableSound 312 = .ok (.aload_n 0, 1) := by decide +kernel
theorem dL_isTableSound_313 : decode cL_isTableSound 313 = .ok (.iload 4, 2) := by decide +kernel
theorem dL_isTableSound_315 : decode cL_isTableSound 315 = .ok (.iload 6, 2) := by decide +kernel
theorem dL_isTableSound_317 : decode cL_isTableSound 317 = .ok (.iload 7, 2) := by decide +kernel
theorem dL_isTableSound_319 : decode cL_isTableSound 319 = .ok (.invokevirtual 129, 3) := by decide +kernel
theorem dL_isTableSound_322 : decode cL_isTableSound 322 = .ok (.iadd, 1) := by decide +kernel
theorem dL_isTableSound_323 : decode cL_isTableSound 323 = .ok (.istore 5, 2) := by decide +kernel
theorem dL_isTableSound_325 : decode cL_isTableSound 325 = .ok (.aload_n 0, 1) := by decide +kernel
theorem dL_isTableSound_326 : decode cL_isTableSound 326 = .ok (.iload 4, 2) := by decide +kernel
theorem dL_isTableSound_328 : decode cL_isTableSound 328 = .ok (.iload 6, 2) := by decide +kernel
theorem dL_isTableSound_330 : decode cL_isTableSound 330 = .ok (.invokevirtual 132, 3) := by decide +kernel
theorem dL_isTableSound_333 : decode cL_isTableSound 333 = .ok (.aload_n 0, 1) := by decide +kernel
theorem dL_isTableSound_334 : decode cL_isTableSound 334 = .ok (.iload 4, 2) := by decide +kernel
theorem dL_isTableSound_336 : decode cL_isTableSound 336 = .ok (.iload 6, 2) := by decide +kernel
theorem dL_isTableSound_338 : decode cL_isTableSound 338 = .ok (.invokevirtual 135, 3) := by decide +kernel
theorem dL_isTableSound_341 : decode cL_isTableSound 341 = .ok (.iadd, 1) := by decide +kernel
theorem dL_isTableSound_342 : decode cL_isTableSound 342 = .ok (.aload_n 0, 1) := by decide +kernel
theorem dL_isTableSound_343 : decode cL_isTableSound 343 = .ok (.iload 4, 2) := by decide +kernel
theorem dL_isTableSound_345 : decode cL_isTableSound 345 = .ok (.invokevirtual 120, 3) := by decide +kernel
theorem dL_isTableSound_348 : decode cL_isTableSound 348 = .ok (.if_icmp .gt 34, 3) := by decide +kernel
theorem dL_isTableSound_351 : decode cL_isTableSound 351 = .ok (.aload_n 0, 1) := by decide +kernel
theorem dL_isTableSound_352 : decode cL_isTableSound 352 = .ok (.iload 4, 2) := by decide +kernel
theorem dL_isTableSound_354 : decode cL_isTableSound 354 = .ok (.iload 6, 2) := by decide +kernel
theorem dL_isTableSound_356 : decode cL_isTableSound 356 = .ok (.invokevirtual 138, 3) := by decide +kernel
theorem dL_isTableSound_359 : decode cL_isTableSound 359 = .ok (.iconst 1, 1) := by decide +kernel
theorem dL_isTableSound_360 : decode cL_isTableSound 360 = .ok (.if_icmp .lt 22, 3) := by decide +kernel
theorem dL_isTableSound_363 : decode cL_isTableSound 363 = .ok (.aload_n 0, 1) := by decide +kernel
theorem dL_isTableSound_364 : decode cL_isTableSound 364 = .ok (.iload 4, 2) := by decide +kernel
theorem dL_isTableSound_366 : decode cL_isTableSound 366 = .ok (.iload 6, 2) := by decide +kernel
theorem dL_isTableSound_368 : decode cL_isTableSound 368 = .ok (.invokevirtual 138, 3) := by decide +kernel
theorem dL_isTableSound_371 : decode cL_isTableSound 371 = .ok (.aload_n 0, 1) := by decide +kernel
theorem dL_isTableSound_372 : decode cL_isTableSound 372 = .ok (.iload 4, 2) := by decide +kernel
theorem dL_isTableSound_374 : decode cL_isTableSound 374 = .ok (.iload 6, 2) := by decide +kernel
theorem dL_isTableSound_376 : decode cL_isTableSound 376 = .ok (.invokevirtual 135, 3) := by decide +kernel
theorem dL_isTableSound_379 : decode cL_isTableSound 379 = .ok (.if_icmp .ge 5, 3) := by decide +kernel
theorem dL_isTableSound_382 : decode cL_isTableSound 382 = .ok (.iconst 0, 1) := by decide +kernel
theorem dL_isTableSound_383 : decode cL_isTableSound 383 = .ok (.ireturn, 1) := by decide +kernel
theorem dL_isTableSound_384 : decode cL_isTableSound 384 = .ok (.iinc 6 1, 3) := by decide +kernel
theorem dL_isTableSound_387 : decode cL_isTableSound 387 = .ok (.goto (-164), 3) := by decide +kernel
theorem dL_isTableSound_390 : decode cL_isTableSound 390 = .ok (.aload_n 0, 1) := by decide +kernel
theorem dL_isTableSound_391 : decode cL_isTableSound 391 = .ok (.iload 4, 2) := by decide +kernel
theorem dL_isTableSound_393 : decode cL_isTableSound 393 = .ok (.invokevirtual 141, 3) := by decide +kernel
theorem dL_isTableSound_396 : decode cL_isTableSound 396 = .ok (.iload 5, 2) := by decide +kernel
theorem dL_isTableSound_398 : decode cL_isTableSound 398 = .ok (.if_icmp .ne 24, 3) := by decide +kernel
theorem dL_isTableSound_401 : decode cL_isTableSound 401 = .ok (.aload_n 0, 1) := by decide +kernel
theorem dL_isTableSound_402 : decode cL_isTableSound 402 = .ok (.iload 4, 2) := by decide +kernel
theorem dL_isTableSound_404 : decode cL_isTableSound 404 = .ok (.invokevirtual 120, 3) := by decide +kernel
theorem dL_isTableSound_407 : decode cL_isTableSound 407 = .ok (.iconst 1, 1) := by decide +kernel
theorem dL_isTableSound_408 : decode cL_isTableSound 408 = .ok (.if_icmp .lt 14, 3) := by decide +kernel
theorem dL_isTableSound_411 : decode cL_isTableSound 411 = .ok (.aload_n 0, 1) := by decide +kernel
theorem dL_isTableSound_412 : decode cL_isTableSound 412 = .ok (.iload 4, 2) := by decide +kernel
theorem dL_isTableSound_414 : decode cL_isTableSound 414 = .ok (.invokevirtual 120, 3) := by decide +kernel
theorem dL_isTableSound_417 : decode cL_isTableSound 417 = .ok (.bipush 64, 2) := by decide +kernel
theorem dL_isTableSound_419 : decode cL_isTableSound 419 = .ok (.if_icmp .le 5, 3) := by decide +kernel
theorem dL_isTableSound_422 : decode cL_isTableSound 422 = .ok (.iconst 0, 1) := by decide +kernel
theorem dL_isTableSound_423 : decode cL_isTableSound 423 = .ok (.ireturn, 1) := by decide +kernel
theorem dL_isTableSound_424 : decode cL_isTableSound 424 = .ok (.iload_n 3, 1) := by decide +kernel
theorem dL_isTableSound_425 : decode cL_isTableSound 425 = .ok (.iload 5, 2) := by decide +kernel
theorem dL_isTableSound_427 : decode cL_isTableSound 427 = .ok (.iadd, 1) := by decide +kernel
theorem dL_isTableSound_428 : decode cL_isTableSound 428 = .ok (.istore_n 3, 1) := by decide +kernel
theorem dL_isTableSound_429 : decode cL_isTableSound 429 = .ok (.iinc 4 1, 3) := by decide +kernel
theorem dL_isTableSound_432 : decode cL_isTableSound 432 = .ok (.goto (-263), 3) := by decide +kernel
theorem dL_isTableSound_435 : decode cL_isTableSound 435 = .ok (.aload_n 0, 1) := by decide +kernel
theorem dL_isTableSound_436 : decode cL_isTableSound 436 = .ok (.invokevirtual 144, 3) := by decide +kernel
theorem dL_isTableSound_439 : decode cL_isTableSound 439 = .ok (.iload_n 2, 1) := by decide +kernel
theorem dL_isTableSound_440 : decode cL_isTableSound 440 = .ok (.if_icmp .ne 18, 3) := by decide +kernel
theorem dL_isTableSound_443 : decode cL_isTableSound 443 = .ok (.aload_n 0, 1) := by decide +kernel
theorem dL_isTableSound_444 : decode cL_isTableSound 444 = .ok (.invokevirtual 147, 3) := by decide +kernel
theorem dL_isTableSound_447 : decode cL_isTableSound 447 = .ok (.ifCond .lt 11, 3) := by decide +kernel
theorem dL_isTableSound_450 : decode cL_isTableSound 450 = .ok (.iload_n 3, 1) := by decide +kernel
theorem dL_isTableSound_451 : decode cL_isTableSound 451 = .ok (.ifCond .lt 7, 3) := by decide +kernel
theorem dL_isTableSound_454 : decode cL_isTableSound 454 = .ok (.iconst 1, 1) := by decide +kernel
theorem dL_isTableSound_455 : decode cL_isTableSound 455 = .ok (.goto 4, 3) := by decide +kernel
theorem dL_isTableSound_458 : decode cL_isTableSound 458 = .ok (.iconst 0, 1) := by decide +kernel
theorem dL_isTableSound_459 : decode cL_isTableSound 459 = .ok (.ireturn, 1) := by decide +kernel
theorem dL_isSearchSound_0 : decode cL_isSearchSound 0 = .ok (.aload_n 0, 1) := by decide +kernel
theorem dL_isSearchSound_1 : decode cL_isSearchSound 1 = .ok (.invokevirtual 38, 3) := by decide +kernel
theorem dL_isSearchSound_4 : decode cL_isSearchSound 4 = .ok (.istore_n 2, 1) := by decide +kernel
theorem dL_isSearchSound_5 : decode cL_isSearchSound 5 = .ok (.aload_n 0, 1) := by decide +kernel
theorem dL_isSearchSound_6 : decode cL_isSearchSound 6 = .ok (.invokevirtual 41, 3) := by decide +kernel
theorem dL_isSearchSound_9 : decode cL_isSearchSound 9 = .ok (.istore_n 3, 1) := by decide +kernel
theorem dL_isSearchSound_10 : decode cL_isSearchSound 10 = .ok (.aload_n 0, 1) := by decide +kernel
theorem dL_isSearchSound_11 : decode cL_isSearchSound 11 = .ok (.invokevirtual 150, 3) := by decide +kernel
theorem dL_isSearchSound_14 : decode cL_isSearchSound 14 = .ok (.istore 4, 2) := by decide +kernel
theorem dL_isSearchSound_16 : decode cL_isSearchSound 16 = .ok (.iload 4, 2) := by decide +kernel
theorem dL_isSearchSound_18 : decode cL_isSearchSound 18 = .ok (.iload_n 2, 1) := by decide +kernel
theorem dL_isSearchSound_19 : decode cL_isSearchSound 19 = .ok (.if_icmp .ne 22, 3) := by decide +kernel
theorem dL_isSearchSound_22 : decode cL_isSearchSound 22 = .ok (.aload_n 0, 1) := by decide +kernel
theorem dL_isSearchSound_23 : decode cL_isSearchSound 23 = .ok (.invokevirtual 153, 3) := by decide +kernel
theorem dL_isSearchSound_26 : decode cL_isSearchSound 26 = .ok (.aload_n 0, 1) := by decide +kernel
theorem dL_isSearchSound_27 : decode cL_isSearchSound 27 = .ok (.invokevirtual 55, 3) := by decide +kernel
theorem dL_isSearchSound_30 : decode cL_isSearchSound 30 = .ok (.if_icmp .gt 11, 3) := by decide +kernel
theorem dL_isSearchSound_33 : decode cL_isSearchSound 33 = .ok (.aload_n 0, 1) := by decide +kernel
theorem dL_isSearchSound_34 : decode cL_isSearchSound 34 = .ok (.invokevirtual 41, 3) := by decide +kernel
theorem dL_isSearchSound_37 : decode cL_isSearchSound 37 = .ok (.iload_n 3, 1) := by decide +kernel
theorem dL_isSearchSound_38 : decode cL_isSearchSound 38 = .ok (.if_icmp .eq 5, 3) := by decide +kernel
theorem dL_isSearchSound_41 : decode cL_isSearchSound 41 = .ok (.iconst 0, 1) := by decide +kernel
theorem dL_isSearchSound_42 : decode cL_isSearchSound 42 = .ok (.ireturn, 1) := by decide +kernel
theorem dL_isSearchSound_43 : decode cL_isSearchSound 43 = .ok (.iload 4, 2) := by decide +kernel
theorem dL_isSearchSound_45 : decode cL_isSearchSound 45 = .ok (.newarray .int, 2) := by decide +kernel
theorem dL_isSearchSound_47 : decode cL_isSearchSound 47 = .ok (.astore 5, 2) := by decide +kernel
theorem dL_isSearchSound_49 : decode cL_isSearchSound 49 = .ok (.iconst 0, 1) := by decide +kernel
theorem dL_isSearchSound_50 : decode cL_isSearchSound 50 = .ok (.istore 6, 2) := by decide +kernel
theorem dL_isSearchSound_52 : decode cL_isSearchSound 52 = .ok (.iload 6, 2) := by decide +kernel
theorem dL_isSearchSound_54 : decode cL_isSearchSound 54 = .ok (.iload 4, 2) := by decide +kernel
theorem dL_isSearchSound_56 : decode cL_isSearchSound 56 = .ok (.if_icmp .ge 34, 3) := by decide +kernel
theorem dL_isSearchSound_59 : decode cL_isSearchSound 59 = .ok (.aload 5, 2) := by decide +kernel
theorem dL_isSearchSound_61 : decode cL_isSearchSound 61 = .ok (.iload 6, 2) := by decide +kernel
theorem dL_isSearchSound_63 : decode cL_isSearchSound 63 = .ok (.aload_n 0, 1) := by decide +kernel
theorem dL_isSearchSound_64 : decode cL_isSearchSound 64 = .ok (.iload 6, 2) := by decide +kernel
theorem dL_isSearchSound_66 : decode cL_isSearchSound 66 = .ok (.invokevirtual 156, 3) := by decide +kernel
theorem dL_isSearchSound_69 : decode cL_isSearchSound 69 = .ok (.iastore, 1) := by decide +kernel
theorem dL_isSearchSound_70 : decode cL_isSearchSound 70 = .ok (.aload_n 0, 1) := by decide +kernel
theorem dL_isSearchSound_71 : decode cL_isSearchSound 71 = .ok (.aload 5, 2) := by decide +kernel
theorem dL_isSearchSound_73 : decode cL_isSearchSound 73 = .ok (.iload 6, 2) := by decide +kernel
theorem dL_isSearchSound_75 : decode cL_isSearchSound 75 = .ok (.iaload, 1) := by decide +kernel
theorem dL_isSearchSound_76 : decode cL_isSearchSound 76 = .ok (.invokevirtual 104, 3) := by decide +kernel
theorem dL_isSearchSound_79 : decode cL_isSearchSound 79 = .ok (.ifCond .ne 5, 3) := by decide +kernel
theorem dL_isSearchSound_82 : decode cL_isSearchSound 82 = .ok (.iconst 0, 1) := by decide +kernel
theorem dL_isSearchSound_83 : decode cL_isSearchSound 83 = .ok (.ireturn, 1) := by decide +kernel
theorem dL_isSearchSound_84 : decode cL_isSearchSound 84 = .ok (.iinc 6 1, 3) := by decide +kernel
theorem dL_isSearchSound_87 : decode cL_isSearchSound 87 = .ok (.goto (-35), 3) := by decide +kernel
theorem dL_isSearchSound_90 : decode cL_isSearchSound 90 = .ok (.iconst 0, 1) := by decide +kernel
theorem dL_isSearchSound_91 : decode cL_isSearchSound 91 = .ok (.istore 6, 2) := by decide +kernel
theorem dL_isSearchSound_93 : decode cL_isSearchSound 93 = .ok (.iload 6, 2) := by decide +kernel
theorem dL_isSearchSound_95 : decode cL_isSearchSound 95 = .ok (.iload_n 1, 1) := by decide +kernel
theorem dL_isSearchSound_96 : decode cL_isSearchSound 96 = .ok (.if_icmp .ge 16, 3) := by decide +kernel
theorem dL_isSearchSound_99 : decode cL_isSearchSound 99 = .ok (.aload_n 0, 1) := by decide +kernel
theorem dL_isSearchSound_100 : decode cL_isSearchSound 100 = .ok (.iload 6, 2) := by decide +kernel
theorem dL_isSearchSound_102 : decode cL_isSearchSound 102 = .ok (.invokevirtual 79, 3) := by decide +kernel
theorem dL_isSearchSound_105 : decode cL_isSearchSound 105 = .ok (.pop, 1) := by decide +kernel
theorem dL_isSearchSound_106 : decode cL_isSearchSound 106 = .ok (.iinc 6 1, 3) := by decide +kernel
theorem dL_isSearchSound_109 : decode cL_isSearchSound 109 = .ok (.goto (-16), 3) := by decide +kernel
theorem dL_isSearchSound_112 : decode cL_isSearchSound 112 = .ok (.aload_n 0, 1) := by decide +kernel
theorem dL_isSearchSound_113 : decode cL_isSearchSound 113 = .ok (.invokevirtual 150, 3) := by decide +kernel
theorem dL_isSearchSound_116 : decode cL_isSearchSound 116 = .ok (.iload 4, 2) := by decide +kernel
theorem dL_isSearchSound_118 : decode cL_isSearchSound 118 = .ok (.if_icmp .eq 5, 3) := by decide +kernel
theorem dL_isSearchSound_121 : decode cL_isSearchSound 121 = .ok (.iconst 0, 1) := by decide +kernel
theorem dL_isSearchSound_122 : decode cL_isSearchSound 122 = .ok (.ireturn, 1) := by decide +kernel
theorem dL_isSearchSound_123 : decode cL_isSearchSound 123 = .ok (.iconst 0, 1) := by decide +kernel
theorem dL_isSearchSound_124 : decode cL_isSearchSound 124 = .ok (.istore 6, 2) := by decide +kernel
theorem dL_isSearchSound_126 : decode cL_isSearchSound 126 = .ok (.iload 6, 2) := by decide +kernel
theorem dL_isSearchSound_128 : decode cL_isSearchSound 128 = .ok (.iload 4, 2) := by decide +kernel
theorem dL_isSearchSound_130 : decode cL_isSearchSound 130 = .ok (.if_icmp .ge 25, 3) := by decide +kernel
theorem dL_isSearchSound_133 : decode cL_isSearchSound 133 = .ok (.aload_n 0, 1) := by decide +kernel
theorem dL_isSearchSound_134 : decode cL_isSearchSound 134 = .ok (.iload 6, 2) := by decide +kernel
theorem dL_isSearchSound_136 : decode cL_isSearchSound 136 = .ok (.invokevirtual 156, 3) := by decide +kernel
theorem dL_isSearchSound_139 : decode cL_isSearchSound 139 = .ok (.aload 5, 2) := by decide +kernel
theorem dL_isSearchSound_141 : decode cL_isSearchSound 141 = .ok (.iload 6, 2) := by decide +kernel
theorem dL_isSearchSound_143 : decode cL_isSearchSound 143 = .ok (.iaload, 1) := by decide +kernel
theorem dL_isSearchSound_144 : decode cL_isSearchSound 144 = .ok (.if_icmp .eq 5, 3) := by decide +kernel
theorem dL_isSearchSound_147 : decode cL_isSearchSound 147 = .ok (.iconst 0, 1) := by decide +kernel
theorem dL_isSearchSound_148 : decode cL_isSearchSound 148 = .ok (.ireturn, 1) := by decide +kernel
theorem dL_isSearchSound_149 : decode cL_isSearchSound 149 = .ok (.iinc 6 1, 3) := by decide +kernel
theorem dL_isSearchSound_152 : decode cL_isSearchSound 152 = .ok (.goto (-26), 3) := by decide +kernel
theorem dL_isSearchSound_155 : decode cL_isSearchSound 155 = .ok (.iconst 0, 1) := by decide +kernel
theorem dL_isSearchSound_156 : decode cL_isSearchSound 156 = .ok (.istore 6, 2) := by decide +kernel
theorem dL_isSearchSound_158 : decode cL_isSearchSound 158 = .ok (.iload 6, 2) := by decide +kernel
theorem dL_isSearchSound_160 : decode cL_isSearchSound 160 = .ok (.iload_n 1, 1) := by decide +kernel
theorem dL_isSearchSound_161 : decode cL_isSearchSound 161 = .ok (.if_icmp .ge 269, 3) := by decide +kernel
theorem dL_isSearchSound_164 : decode cL_isSearchSound 164 = .ok (.aload_n 0, 1) := by decide +kernel
theorem dL_isSearchSound_165 : decode cL_isSearchSound 165 = .ok (.iload 6, 2) := by decide +kernel
theorem dL_isSearchSound_167 : decode cL_isSearchSound 167 = .ok (.invokevirtual 79, 3) := by decide +kernel
theorem dL_isSearchSound_170 : decode cL_isSearchSound 170 = .ok (.pop, 1) := by decide +kernel
theorem dL_isSearchSound_171 : decode cL_isSearchSound 171 = .ok (.aload_n 0, 1) := by decide +kernel
theorem dL_isSearchSound_172 : decode cL_isSearchSound 172 = .ok (.iload 6, 2) := by decide +kernel
theorem dL_isSearchSound_174 : decode cL_isSearchSound 174 = .ok (.invokevirtual 159, 3) := by decide +kernel
theorem dL_isSearchSound_177 : decode cL_isSearchSound 177 = .ok (.istore 7, 2) := by decide +kernel
theorem dL_isSearchSound_179 : decode cL_isSearchSound 179 = .ok (.iconst 0, 1) := by decide +kernel
theorem dL_isSearchSound_180 : decode cL_isSearchSound 180 = .ok (.istore 8, 2) := by decide +kernel
theorem dL_isSearchSound_182 : decode cL_isSearchSound 182 = .ok (.iconst 0, 1) := by decide +kernel
theorem dL_isSearchSound_183 : decode cL_isSearchSound 183 = .ok (.istore 9, 2) := by decide +kernel
theorem dL_isSearchSound_185 : decode cL_isSearchSound 185 = .ok (.iconst 0, 1) := by decide +kernel
theorem dL_isSearchSound_186 : decode cL_isSearchSound 186 = .ok (.istore 10, 2) := by decide +kernel
theorem dL_isSearchSound_188 : decode cL_isSearchSound 188 = .ok (.iload 10, 2) := by decide +kernel
theorem dL_isSearchSound_190 : decode cL_isSearchSound 190 = .ok (.iload 7, 2) := by decide +kernel
theorem dL_isSearchSound_192 : decode cL_isSearchSound 192 = .ok (.if_icmp .ge 109, 3) := by decide +kernel
theorem dL_isSearchSound_195 : decode cL_isSearchSound 195 = .ok (.iload 8, 2) := by decide +kernel
theorem dL_isSearchSound_197 : decode cL_isSearchSound 197 = .ok (.aload_n 0, 1) := by decide +kernel
theorem dL_isSearchSound_198 : decode cL_isSearchSound 198 = .ok (.iload 6, 2) := by decide +kernel
theorem dL_isSearchSound_200 : decode cL_isSearchSound 200 = .ok (.iload 10, 2) := by decide +kernel
theorem dL_isSearchSound_202 : decode cL_isSearchSound 202 = .ok (.iload 6, 2) := by decide +kernel
theorem dL_isSearchSound_204 : decode cL_isSearchSound 204 = .ok (.iconst 1, 1) := by decide +kernel
theorem dL_isSearchSound_205 : decode cL_isSearchSound 205 = .ok (.invokevirtual 162, 3) := by decide +kernel
theorem dL_isSearchSound_208 : decode cL_isSearchSound 208 = .ok (.iadd, 1) := by decide +kernel
theorem dL_isSearchSound_209 : decode cL_isSearchSound 209 = .ok (.istore 8, 2) := by decide +kernel
theorem dL_isSearchSound_211 : decode cL_isSearchSound 211 = .ok (.iload 9, 2) := by decide +kernel
theorem dL_isSearchSound_213 : decode cL_isSearchSound 213 = .ok (.aload_n 0, 1) := by decide +kernel
theorem dL_isSearchSound_214 : decode cL_isSearchSound 214 = .ok (.iload 6, 2) := by decide +kernel
theorem dL_isSearchSound_216 : decode cL_isSearchSound 216 = .ok (.iload 10, 2) := by decide +kernel
theorem dL_isSearchSound_218 : decode cL_isSearchSound 218 = .ok (.iload 6, 2) := by decide +kernel
theorem dL_isSearchSound_220 : decode cL_isSearchSound 220 = .ok (.iconst 2, 1) := by decide +kernel
theorem dL_isSearchSound_221 : decode cL_isSearchSound 221 = .ok (.invokevirtual 162, 3) := by decide +kernel
theorem dL_isSearchSound_224 : decode cL_isSearchSound 224 = .ok (.iadd, 1) := by decide +kernel
theorem dL_isSearchSound_225 : decode cL_isSearchSound 225 = .ok (.istore 9, 2) := by decide +kernel
theorem dL_isSearchSound_227 : decode cL_isSearchSound 227 = .ok (.aload_n 0, 1) := by decide +kernel
theorem dL_isSearchSound_228 : decode cL_isSearchSound 228 = .ok (.iload 6, 2) := by decide +kernel
theorem dL_isSearchSound_230 : decode cL_isSearchSound 230 = .ok (.iload 10, 2) := by decide +kernel
theorem dL_isSearchSound_232 : decode cL_isSearchSound 232 = .ok (.iload 6, 2) := by decide +kernel
theorem dL_isSearchSound_234 : decode cL_isSearchSound 234 = .ok (.iconst 3, 1) := by decide +kernel
theorem dL_isSearchSound_235 : decode cL_isSearchSound 235 = .ok (.invokevirtual 162, 3) := by decide +kernel
theorem dL_isSearchSound_238 : decode cL_isSearchSound 238 = .ok (.aload_n 0, 1) := by decide +kernel
theorem dL_isSearchSound_239 : decode cL_isSearchSound 239 = .ok (.iload 6, 2) := by decide +kernel
theorem dL_isSearchSound_241 : decode cL_isSearchSound 241 = .ok (.iload 10, 2) := by decide +kernel
theorem dL_isSearchSound_243 : decode cL_isSearchSound 243 = .ok (.iload 6, 2) := by decide +kernel
theorem dL_isSearchSound_245 : decode cL_isSearchSound 245 = .ok (.iconst 4, 1) := by decide +kernel
theorem dL_isSearchSound_246 : decode cL_isSearchSound 246 = .ok (.invokevirtual 162, 3) := by decide +kernel
theorem dL_isSearchSound_249 : decode cL_isSearchSound 249 = .ok (.if_icmp .gt 44, 3) := by decide +kernel
theorem dL_isSearchSound_252 : decode cL_isSearchSound 252 = .ok (.iload 10, 2) := by decide +kernel
theorem dL_isSearchSound_254 : decode cL_isSearchSound 254 = .ok (.ifCond .le 41, 3) := by decide +kernel
theorem dL_isSearchSound_257 : decode cL_isSearchSound 257 = .ok (.iload 10, 2) := by decide +kernel
theorem dL_isSearchSound_259 : decode cL_isSearchSound 259 = .ok (.iload 7, 2) := by decide +kernel
theorem dL_isSearchSound_261 : decode cL_isSearchSound 261 = .ok (.iconst 1, 1) := by decide +kernel
theorem dL_isSearchSound_262 : decode cL_isSearchSound 262 = .ok (.isub, 1) := by decide +kernel
theorem dL_isSearchSound_263 : decode cL_isSearchSound 263 = .ok (.if_icmp .ge 32, 3) := by decide +kernel
theorem dL_isSearchSound_266 : decode cL_isSearchSound 266 = .ok (.aload_n 0, 1) := by decide +kernel
theorem dL_isSearchSound_267 : decode cL_isSearchSound 267 = .ok (.iload 6, 2) := by decide +kernel
theorem dL_isSearchSound_269 : decode cL_isSearchSound 269 = .ok (.iload 10, 2) := by decide +kernel
theorem dL_isSearchSound_271 : decode cL_isSearchSound 271 = .ok (.iload 6, 2) := by decide +kernel
theorem dL_isSearchSound_273 : decode cL_isSearchSound 273 = .ok (.iconst 0, 1) := by decide +kernel
theorem dL_isSearchSound_274 : decode cL_isSearchSound 274 = .ok (.invokevirtual 162, 3) := by decide +kernel
theorem dL_isSearchSound_277 : decode cL_isSearchSound 277 = .ok (.aload_n 0, 1) := by decide +kernel
theorem dL_isSearchSound_278 : decode cL_isSearchSound 278 = .ok (.iload 6, 2) := by decide +kernel
theorem dL_isSearchSound_280 : decode cL_isSearchSound 280 = .ok (.iload 10, 2) := by decide +kernel
theorem dL_isSearchSound_282 : decode cL_isSearchSound 282 = .ok (.iconst 1, 1) := by decide +kernel
theorem dL_isSearchSound_283 : decode cL_isSearchSound 283 = .ok (.isub, 1) := by decide +kernel
theorem dL_isSearchSound_284 : decode cL_isSearchSound 284 = .ok (.iload 6, 2) := by decide +kernel
theorem dL_isSearchSound_286 : decode cL_isSearchSound 286 = .ok (.iconst 0, 1) := by decide +kernel
theorem dL_isSearchSound_287 : decode cL_isSearchSound 287 = .ok (.invokevirtual 162, 3) := by decide +kernel
theorem dL_isSearchSound_290 : decode cL_isSearchSound 290 = .ok (.if_icmp .gt 5, 3) := by decide +kernel
theorem dL_isSearchSound_293 : decode cL_isSearchSound 293 = .ok (.iconst 0, 1) := by decide +kernel
theorem dL_isSearchSound_294 : decode cL_isSearchSound 294 = .ok (.ireturn, 1) := by decide +kernel
theorem dL_isSearchSound_295 : decode cL_isSearchSound 295 = .ok (.iinc 10 1, 3) := by decide +kernel
theorem dL_isSearchSound_298 : decode cL_isSearchSound 298 = .ok (.goto (-110), 3) := by decide +kernel
theorem dL_isSearchSound_301 : decode cL_isSearchSound 301 = .ok (.iload 8, 2) := by decide +kernel
theorem dL_isSearchSound_303 : decode cL_isSearchSound 303 = .ok (.iload 4, 2) := by decide +kernel
theorem dL_isSearchSound_305 : decode cL_isSearchSound 305 = .ok (.if_icmp .ne 21, 3) := by decide +kernel
theorem dL_isSearchSound_308 : decode cL_isSearchSound 308 = .ok (.iload 9, 2) := by decide +kernel
theorem dL_isSearchSound_310 : decode cL_isSearchSound 310 = .ok (.aload_n 0, 1) := by decide +kernel
theorem dL_isSearchSound_311 : decode cL_isSearchSound 311 = .ok (.iload 6, 2) := by decide +kernel
theorem dL_isSearchSound_313 : decode cL_isSearchSound 313 = .ok (.invokevirtual 166, 3) := by decide +kernel
theorem dL_isSearchSound_316 : decode cL_isSearchSound 316 = .ok (.if_icmp .ne 10, 3) := by decide +kernel
theorem dL_isSearchSound_319 : decode cL_isSearchSound 319 = .ok (.iload 7, 2) := by decide +kernel
theorem dL_isSearchSound_321 : decode cL_isSearchSound 321 = .ok (.iload 4, 2) := by decide +kernel
theorem dL_isSearchSound_323 : decode cL_isSearchSound 323 = .ok (.if_icmp .le 5, 3) := by decide +kernel
theorem dL_isSearchSound_326 : decode cL_isSearchSound 326 = .ok (.iconst 0, 1) := by decide +kernel
theorem dL_isSearchSound_327 : decode cL_isSearchSound 327 = .ok (.ireturn, 1) := by decide +kernel
theorem dL_isSearchSound_328 : decode cL_isSearchSound 328 = .ok (.aload_n 0, 1) := by decide +kernel
theorem dL_isSearchSound_329 : decode cL_isSearchSound 329 = .ok (.iload 6, 2) := by decide +kernel
theorem dL_isSearchSound_331 : decode cL_isSearchSound 331 = .ok (.iconst 0, 1) := by decide +kernel
theorem dL_isSearchSound_332 : decode cL_isSearchSound 332 = .ok (.invokevirtual 169, 3) := by decide +kernel
theorem dL_isSearchSound_335 : decode cL_isSearchSound 335 = .ok (.pop, 1) := by decide +kernel
theorem dL_isSearchSound_336 : decode cL_isSearchSound 336 = .ok (.iconst 1, 1) := by decide +kernel
theorem dL_isSearchSound_337 : decode cL_isSearchSound 337 = .ok (.istore 10, 2) := by decide +kernel
theorem dL_isSearchSound_339 : decode cL_isSearchSound 339 = .ok (.iload 10, 2) := by decide +kernel
theorem dL_isSearchSound_341 : decode cL_isSearchSound 341 = .ok (.iload 4, 2) := by decide +kernel
theorem dL_isSearchSound_343 : decode cL_isSearchSound 343 = .ok (.if_icmp .ge 81, 3) := by decide +kernel
theorem dL_isSearchSound_346 : decode cL_isSearchSound 346 = .ok (.aload_n 0, 1) := by decide +kernel
theorem dL_isSearchSound_347 : decode cL_isSearchSound 347 = .ok (.aload_n 0, 1) := by decide +kernel
theorem dL_isSearchSound_348 : decode cL_isSearchSound 348 = .ok (.iload 10, 2) := by decide +kernel
theorem dL_isSearchSound_350 : decode cL_isSearchSound 350 = .ok (.invokevirtual 156, 3) := by decide +kernel
theorem dL_isSearchSound_353 : decode cL_isSearchSound 353 = .ok (.iload 6, 2) := by decide +kernel
theorem dL_isSearchSound_355 : decode cL_isSearchSound 355 = .ok (.invokevirtual 107, 3) := by decide +kernel
theorem dL_isSearchSound_358 : decode cL_isSearchSound 358 = .ok (.istore 11, 2) := by decide +kernel
theorem dL_isSearchSound_360 : decode cL_isSearchSound 360 = .ok (.aload_n 0, 1) := by decide +kernel
theorem dL_isSearchSound_361 : decode cL_isSearchSound 361 = .ok (.aload_n 0, 1) := by decide +kernel
theorem dL_isSearchSound_362 : decode cL_isSearchSound 362 = .ok (.iload 10, 2) := by decide +kernel
theorem dL_isSearchSound_364 : decode cL_isSearchSound 364 = .ok (.iconst 1, 1) := by decide +kernel
theorem dL_isSearchSound_365 : decode cL_isSearchSound 365 = .ok (.isub, 1) := by decide +kernel
theorem dL_isSearchSound_366 : decode cL_isSearchSound 366 = .ok (.invokevirtual 156, 3) := by decide +kernel
theorem dL_isSearchSound_369 : decode cL_isSearchSound 369 = .ok (.iload 6, 2) := by decide +kernel
theorem dL_isSearchSound_371 : decode cL_isSearchSound 371 = .ok (.invokevirtual 107, 3) := by decide +kernel
theorem dL_isSearchSound_374 : decode cL_isSearchSound 374 = .ok (.ifCond .eq 8, 3) := by decide +kernel
theorem dL_isSearchSound_377 : decode cL_isSearchSound 377 = .ok (.iload 11, 2) := by decide +kernel
theorem dL_isSearchSound_379 : decode cL_isSearchSound 379 = .ok (.ifCond .eq 37, 3) := by decide +kernel
theorem dL_isSearchSound_382 : decode cL_isSearchSound 382 = .ok (.iload 11, 2) := by decide +kernel
theorem dL_isSearchSound_384 : decode cL_isSearchSound 384 = .ok (.ifCond .ne 34, 3) := by decide +kernel
theorem dL_isSearchSound_387 : decode cL_isSearchSound 387 = .ok (.aload_n 0, 1) := by decide +kernel
theorem dL_isSearchSound_388 : decode cL_isSearchSound 388 = .ok (.aload_n 0, 1) := by decide +kernel
theorem dL_isSearchSound_389 : decode cL_isSearchSound 389 = .ok (.iload 10, 2) := by decide +kernel
theorem dL_isSearchSound_391 : decode cL_isSearchSound 391 = .ok (.iconst 1, 1) := by decide +kernel
theorem dL_isSearchSound_392 : decode cL_isSearchSound 392 = .ok (.isub, 1) := by decide +kernel
theorem dL_isSearchSound_393 : decode cL_isSearchSound 393 = .ok (.invokevirtual 156, 3) := by decide +kernel
theorem dL_isSearchSound_396 : decode cL_isSearchSound 396 = .ok (.iload 6, 2) := by decide +kernel
theorem dL_isSearchSound_398 : decode cL_isSearchSound 398 = .ok (.invokevirtual 111, 3) := by decide +kernel
theorem dL_isSearchSound_401 : decode cL_isSearchSound 401 = .ok (.aload_n 0, 1) := by decide +kernel
theorem dL_isSearchSound_402 : decode cL_isSearchSound 402 = .ok (.aload_n 0, 1) := by decide +kernel
theorem dL_isSearchSound_403 : decode cL_isSearchSound 403 = .ok (.iload 10, 2) := by decide +kernel
theorem dL_isSearchSound_405 : decode cL_isSearchSound 405 = .ok (.invokevirtual 156, 3) := by decide +kernel
theorem dL_isSearchSound_408 : decode cL_isSearchSound 408 = .ok (.iload 6, 2) := by decide +kernel
theorem dL_isSearchSound_410 : decode cL_isSearchSound 410 = .ok (.invokevirtual 111, 3) := by decide +kernel
theorem dL_isSearchSound_413 : decode cL_isSearchSound 413 = .ok (.if_icmp .le 5, 3) := by decide +kernel
theorem dL_isSearchSound_416 : decode cL_isSearchSound 416 = .ok (.iconst 0, 1) := by decide +kernel
theorem dL_isSearchSound_417 : decode cL_isSearchSound 417 = .ok (.ireturn, 1) := by decide +kernel
theorem dL_isSearchSound_418 : decode cL_isSearchSound 418 = .ok (.iinc 10 1, 3) := by decide +kernel
theorem dL_isSearchSound_421 : decode cL_isSearchSound 421 = .ok (.goto (-82), 3) := by decide +kernel
theorem dL_isSearchSound_424 : decode cL_isSearchSound 424 = .ok (.iinc 6 1, 3) := by decide +kernel
theorem dL_isSearchSound_427 : decode cL_isSearchSound 427 = .ok (.goto (-269), 3) := by decide +kernel
theorem dL_isSearchSound_430 : decode cL_isSearchSound 430 = .ok (.aload_n 0, 1) := by decide +kernel
theorem dL_isSearchSound_431 : decode cL_isSearchSound 431 = .ok (.invokevirtual 173, 3) := by decide +kernel
theorem dL_isSearchSound_434 : decode cL_isSearchSound 434 = .ok (.iload 4, 2) := by decide +kernel
theorem dL_isSearchSound_436 : decode cL_isSearchSound 436 = .ok (.if_icmp .ne 29, 3) := by decide +kernel
theorem dL_isSearchSound_439 : decode cL_isSearchSound 439 = .ok (.aload_n 0, 1) := by decide +kernel
theorem dL_isSearchSound_440 : decode cL_isSearchSound 440 = .ok (.iconst 0, 1) := by decide +kernel
theorem dL_isSearchSound_441 : decode cL_isSearchSound 441 = .ok (.iconst 0, 1) := by decide +kernel
theorem dL_isSearchSound_442 : decode cL_isSearchSound 442 = .ok (.invokevirtual 176, 3) := by decide +kernel
theorem dL_isSearchSound_445 : decode cL_isSearchSound 445 = .ok (.ifCond .lt 20, 3) := by decide +kernel
theorem dL_isSearchSound_448 : decode cL_isSearchSound 448 = .ok (.aload_n 0, 1) := by decide +kernel
theorem dL_isSearchSound_449 : decode cL_isSearchSound 449 = .ok (.iload 4, 2) := by decide +kernel
theorem dL_isSearchSound_451 : decode cL_isSearchSound 451 = .ok (.iconst 1, 1) := by decide +kernel
theorem dL_isSearchSound_452 : decode cL_isSearchSound 452 = .ok (.iadd, 1) := by decide +kernel
theorem dL_isSearchSound_453 : decode cL_isSearchSound 453 = .ok (.invokevirtual 179, 3) := by decide +kernel
theorem dL_isSearchSound_456 : decode cL_isSearchSound 456 = .ok (.iload 4, 2) := by decide +kernel
theorem dL_isSearchSound_458 : decode cL_isSearchSound 458 = .ok (.if_icmp .ne 7, 3) := by decide +kernel
theorem dL_isSearchSound_461 : decode cL_isSearchSound 461 = .ok (.iconst 1, 1) := by decide +kernel
theorem dL_isSearchSound_462 : decode cL_isSearchSound 462 = .ok (.goto 4, 3) := by decide +kernel
theorem dL_isSearchSound_465 : decode cL_isSearchSound 465 = .ok (.iconst 0, 1) := by decide +kernel
theorem dL_isSearchSound_466 : decode cL_isSearchSound 466 = .ok (.ireturn, 1) := by decide +kernel
end
section
/-! THE MEMORY that the walks speak of: kinds and lengths, references, ints, longs, each by address and place. A method's walk says what it does to it; nothing here is of one method. -/
abbrev Mm : Type := (Nat → Nat × Nat) × (Nat → Nat → Nat) × (Nat → Nat → Int32) × (Nat → Nat → Int64)
def kd_ (M : Mm) (a : Nat) : Nat := (M.1 a).1
def ln_ (M : Mm) (a : Nat) : Nat := (M.1 a).2
def rf_ (M : Mm) (a k : Nat) : Nat := M.2.1 a k
def it_ (M : Mm) (a k : Nat) : Int32 := M.2.2.1 a k
def lg_ (M : Mm) (a k : Nat) : Int64 := M.2.2.2 a k
def up2_ {α : Type} (f : Nat → Nat → α) (a k : Nat) (v : α) : Nat → Nat → α := fun b j => if b = a ∧ j = k then v else f b j
def rw2_ {α : Type} (f : Nat → Nat → α) (a : Nat) (v : Nat → α) : Nat → Nat → α := fun b j => if b = a then v j else f b j
def sR_ (M : Mm) (a k : Nat) (v : Nat) : Mm := (M.1, up2_ M.2.1 a k v, M.2.2.1, M.2.2.2)
def sI_ (M : Mm) (a k : Nat) (v : Int32) : Mm := (M.1, M.2.1, up2_ M.2.2.1 a k v, M.2.2.2)
def sL_ (M : Mm) (a k : Nat) (v : Int64) : Mm := (M.1, M.2.1, M.2.2.1, up2_ M.2.2.2 a k v)
/-- a whole row of ints, of references -/
def aI_ (M : Mm) (a : Nat) (f : Nat → Int32) : Mm := (M.1, M.2.1, rw2_ M.2.2.1 a f, M.2.2.2)
def aR_ (M : Mm) (a : Nat) (f : Nat → Nat) : Mm := (M.1, rw2_ M.2.1 a f, M.2.2.1, M.2.2.2)
/-- a new cell of kind c and length n at q -/
def nw_ (M : Mm) (q c n : Nat) : Mm := (fun b => if b = q then (c, n) else M.1 b, rw2_ M.2.1 q (fun _ => 0), rw2_ M.2.2.1 q (fun _ => 0), rw2_ M.2.2.2 q (fun _ => 0))
def rv_ (r : Nat) : Value := if r = 0 then .null else .ref r
def ix_ (i : Int32) : Nat := i.toNatClampNeg
def bz_ (x : Int32) : Prop := x = 0 ∨ x = 1
/-- a field's type: 0 an int, 1 a long, 2 a reference, 3 a boolean -/
def ft_ (ci k : Nat) : Nat := match ci with
  | 0 => if k = 1 then 2 else 0
  | 1 => if k < 2 then 2 else 0
  | 2 => if k < 2 then 2 else if k < 4 then 3 else 0
  | 3 => 0
  | 4 => if k < 1 then 2 else 0
  | 5 => if k < 1 then 2 else 0
  | 6 => if k = 1 then 0 else if k = 2 then 0 else if k = 4 then 0 else 2
  | 7 => if k = 0 then 2 else if k < 4 then 0 else if k = 4 then 3 else if k = 6 then 0 else 2
  | 8 => 2
  | 9 => if k < 6 then 2 else if k < 9 then 0 else 2
  | 10 => if k < 7 then 0 else if k = 7 then 2 else 1
  | _ => if k < 4 then 2 else 0
def fv_ (M : Mm) (ci a k : Nat) : Value := if ft_ ci k = 2 then rv_ (rf_ M a k) else if ft_ ci k = 1 then .long (lg_ M a k) else .int (it_ M a k)
/-- arrays: 0 ints, 1 booleans, 2 longs, 3 zones, 4 conditions, 5 groups, 6 objects -/
def ty_ (t : Nat) : FieldType := match t with
  | 0 => .int
  | 1 => .boolean
  | 2 => .long
  | 3 => .object "ColdFrame$Zone"
  | 4 => .object "ColdFrame$Condition"
  | 5 => .object "ColdFrame$Group"
  | _ => .object "java/lang/Object"
def av_ (M : Mm) (t a j : Nat) : Value := if t < 2 then .int (it_ M a j) else if t = 2 then .long (lg_ M a j) else rv_ (rf_ M a j)
/-- the numbers of the classes and of their fields' slots; of the arrays' classes; the address of the empty row of the lists -/
abbrev Dd_ : Type := va_G × (Nat → ClassId) × Nat
def nf_ (ci : Nat) : Nat := match vwCl[ci]? with
  | some q => q.2.2
  | none => 0
def cO_ (D : Dd_) (M : Mm) (H : Heap) (a : Nat) : Prop := ∀ ci, ci < 12 → kd_ M a = ci + 1 → t_OB a (D.1.1 ci) (nf_ ci) (D.1.2 ci) H (fv_ M ci a) ∧ ∀ k, ft_ ci k = 3 → bz_ (it_ M a k)
def cA_ (D : Dd_) (M : Mm) (H : Heap) (a : Nat) : Prop := ∀ t, t < 7 → kd_ M a = 20 + t → H[a]? = some (arrV (D.2.1 t) (ln_ M a) (av_ M t a)) ∧ (t = 1 → ∀ j, j < ln_ M a → bz_ (it_ M a j))
def cR_ (s : State) (M : Mm) (H : Heap) (a : Nat) : Prop := ∀ t, t < 7 → kd_ M a = 30 + t → ∃ cell : Cell, H[a]? = some cell ∧ s.isArrayOf cell (ty_ t) ∧ cell.vm ≠ .unknown ∧ cell.slots.size = ln_ M a ∧ ∀ j, j < ln_ M a → cell.slots[j]? = some (av_ M t a j)
def zS_ (D : Dd_) (s : State) (H : Heap) : Prop := va_Z "java/util/ArrayList" "DEFAULTCAPACITY_EMPTY_ELEMENTDATA" "[Ljava/lang/Object;" (.ref D.2.2) (fun _ => False) s H ∧ vx_Zq Bundle.tN "UNASSIGNED_STACK" Bundle.steD (fun _ => False) s H ∧ vx_Zq Bundle.tN "SUPPRESSED_SENTINEL" Bundle.listD (fun _ => False) s H
/-- a kind that is some kind -/
def ok_ (c : Nat) : Prop := (1 ≤ c ∧ c < 13) ∨ (20 ≤ c ∧ c < 27) ∨ (30 ≤ c ∧ c < 37)
def Rp_ (s : State) (D : Dd_) (M : Mm) (H : Heap) : Prop := 0 < H.size ∧ (∀ a, kd_ M a = 36 ↔ a = D.2.2) ∧ ln_ M D.2.2 = 0 ∧ zS_ D s H ∧ ∀ a, (cO_ D M H a ∧ cA_ D M H a ∧ cR_ s M H a) ∧ (kd_ M a ≠ 0 → ok_ (kd_ M a) ∧ a ≠ 0)
/-- the words that a state says by itself -/
def xk_ : Cond → Bool
  | .methodLinkNest _ _ _ _ => true
  | .castable _ _ => true
  | .arrayOver (.object _) => true
  | _ => false
def xw_ : List Cond := lw_tbl.filter xk_
def Kn_ (D : Dd_) (s : State) : Prop := (∀ (c : Nat) (q : vw_C), vwCl[c]? = some q → u_Kn s q.1 q.2.1 q.2.2 (D.1.1 c) (D.1.2 c)) ∧ (∀ t, t < 7 → ArrOfT s (D.2.1 t) (ty_ t) ∧ va_RA s (D.2.1 t) (ty_ t)) ∧ ∀ w ∈ xw_, va_Nw w s
def Aw_ (M : Mm) (sz : Nat) : Nat → Prop := fun q => (kd_ M q ≠ 0 ∧ kd_ M q < 30) ∨ sz ≤ q
def Nk_ (M M' : Mm) : Prop := ∀ a, kd_ M a ≠ 0 → M'.1 a = M.1 a
def Nw_ (M0 : Mm) (sz : Nat) (M : Mm) : Prop := Nk_ M0 M ∧ ∀ a, kd_ M0 a = 0 → kd_ M a ≠ 0 → sz ≤ a
theorem Nk_.rf (M : Mm) : Nk_ M M := fun _ _ => rfl
theorem Nk_.tr {M M1 M2 : Mm} (h : Nk_ M M1) (h2 : Nk_ M1 M2) : Nk_ M M2 := fun a ha => by
  have e := h a ha
  rw [← e]
  exact h2 a (by unfold kd_; rw [e]; exact ha)
theorem Nk_.k {M M1 : Mm} {a c : Nat} (h : Nk_ M M1) (hc : kd_ M a = c) (h0 : c ≠ 0) : kd_ M1 a = c := by
  have e := h a (by rw [hc]; exact h0)
  rw [← hc]
  unfold kd_
  rw [e]
theorem Nk_.n {M M1 : Mm} {a c : Nat} (h : Nk_ M M1) (hc : kd_ M a = c) (h0 : c ≠ 0) : ln_ M1 a = ln_ M a := by
  have e := h a (by rw [hc]; exact h0)
  unfold ln_
  rw [e]
theorem Nw_.rf (M : Mm) (sz : Nat) : Nw_ M sz M := ⟨Nk_.rf M, fun _ h h2 => absurd h h2⟩
theorem Nw_.tr {M M1 M2 : Mm} {sz sz2 : Nat} (h : Nw_ M sz M1) (hs : sz ≤ sz2) (h2 : Nw_ M1 sz2 M2) : Nw_ M sz M2 := by
  refine ⟨h.1.tr h2.1, fun a h0 h3 => ?_⟩
  by_cases h1 : kd_ M1 a = 0
  · exact Nat.le_trans hs (h2.2 a h1 h3)
  · exact h.2 a h0 h1
theorem Nw_.same {M0 M M1 : Mm} {sz : Nat} (h : Nw_ M0 sz M) (e : M1.1 = M.1) : Nw_ M0 sz M1 := by
  refine ⟨fun a ha => by rw [e]; exact h.1 a ha, fun a h0 h1 => h.2 a h0 ?_⟩
  unfold kd_ at h1 ⊢
  rw [← e]
  exact h1
theorem Nw_.aw {M0 M : Mm} {sz sz2 q : Nat} (h : Nw_ M0 sz M) (hs : sz ≤ sz2) (hq : Aw_ M sz2 q) : Aw_ M0 sz q := by
  rcases hq with ⟨h1, h2⟩ | h1
  · by_cases h0 : kd_ M0 q = 0
    · exact Or.inr (h.2 q h0 h1)
    · have e := h.1.k rfl h0
      exact Or.inl ⟨h0, by rw [← e]; exact h2⟩
  · exact Or.inr (Nat.le_trans hs h1)
theorem kd_nw_ {M : Mm} {q c n e d : Nat} (h0 : kd_ M q = 0) (h : kd_ M e = d) (hd : d ≠ 0) : kd_ (nw_ M q c n) e = d := by
  have hne : ¬ e = q := fun z => hd (by rw [← h, z, h0])
  unfold kd_ nw_
  dsimp only
  rw [if_neg hne]
  exact h
theorem kd_nq_ (M : Mm) (q c n : Nat) : kd_ (nw_ M q c n) q = c := by
  unfold kd_ nw_
  dsimp only
  rw [if_pos rfl]
theorem ln_nq_ (M : Mm) (q c n : Nat) : ln_ (nw_ M q c n) q = n := by
  unfold ln_ nw_
  dsimp only
  rw [if_pos rfl]
theorem Nk_nw_ {M : Mm} {q c n : Nat} (h0 : kd_ M q = 0) : Nk_ M (nw_ M q c n) := fun a ha => by
  have hne : ¬ a = q := fun z => ha (by rw [z]; exact h0)
  unfold nw_
  dsimp only
  rw [if_neg hne]
/-! reading back -/
theorem it_sI (M : Mm) (a k : Nat) (v : Int32) (b j : Nat) : it_ (sI_ M a k v) b j = if b = a ∧ j = k then v else it_ M b j := rfl
theorem lg_sL (M : Mm) (a k : Nat) (v : Int64) (b j : Nat) : lg_ (sL_ M a k v) b j = if b = a ∧ j = k then v else lg_ M b j := rfl
theorem rf_sR (M : Mm) (a k : Nat) (v : Nat) (b j : Nat) : rf_ (sR_ M a k v) b j = if b = a ∧ j = k then v else rf_ M b j := rfl
theorem it_aI (M : Mm) (a : Nat) (f : Nat → Int32) (b j : Nat) : it_ (aI_ M a f) b j = if b = a then f j else it_ M b j := rfl
theorem rf_aR (M : Mm) (a : Nat) (f : Nat → Nat) (b j : Nat) : rf_ (aR_ M a f) b j = if b = a then f j else rf_ M b j := rfl
/-! an update of one cell that is there -/
def ag_ (M M' : Mm) (a : Nat) : Prop := M'.1 = M.1 ∧ ∀ b, b ≠ a → ∀ k, rf_ M' b k = rf_ M b k ∧ it_ M' b k = it_ M b k ∧ lg_ M' b k = lg_ M b k
theorem ag_sR (M : Mm) (a k v : Nat) : ag_ M (sR_ M a k v) a := ⟨rfl, fun b hb j => ⟨if_neg (fun h => hb h.1), rfl, rfl⟩⟩
theorem ag_sI (M : Mm) (a k : Nat) (v : Int32) : ag_ M (sI_ M a k v) a := ⟨rfl, fun b hb j => ⟨rfl, if_neg (fun h => hb h.1), rfl⟩⟩
theorem ag_sL (M : Mm) (a k : Nat) (v : Int64) : ag_ M (sL_ M a k v) a := ⟨rfl, fun b hb j => ⟨rfl, rfl, if_neg (fun h => hb h.1)⟩⟩
theorem ag_aI (M : Mm) (a : Nat) (f : Nat → Int32) : ag_ M (aI_ M a f) a := ⟨rfl, fun b hb j => ⟨rfl, if_neg hb, rfl⟩⟩
theorem ag_aR (M : Mm) (a : Nat) (f : Nat → Nat) : ag_ M (aR_ M a f) a := ⟨rfl, fun b hb j => ⟨if_neg hb, rfl, rfl⟩⟩
theorem ag_.kd {M M' : Mm} {a : Nat} (h : ag_ M M' a) (b : Nat) : kd_ M' b = kd_ M b := by unfold kd_; rw [h.1]
theorem ag_.ln {M M' : Mm} {a : Nat} (h : ag_ M M' a) (b : Nat) : ln_ M' b = ln_ M b := by unfold ln_; rw [h.1]
theorem ag_.fv {M M' : Mm} {a : Nat} (h : ag_ M M' a) {b : Nat} (hb : b ≠ a) (ci : Nat) : fv_ M' ci b = fv_ M ci b := by
  funext k
  obtain ⟨h1, h2, h3⟩ := h.2 b hb k
  unfold fv_
  rw [h1, h2, h3]
theorem ag_.av {M M' : Mm} {a : Nat} (h : ag_ M M' a) {b : Nat} (hb : b ≠ a) (t : Nat) : av_ M' t b = av_ M t b := by
  funext k
  obtain ⟨h1, h2, h3⟩ := h.2 b hb k
  unfold av_
  rw [h1, h2, h3]
theorem zS_.kept {D : Dd_} {s : State} {H H' : Heap} (h : zS_ D s H) (hq : ∀ (q : Nat) (cell : Cell), H[q]? = some cell → cell.vm.isStatics = true → H'[q]? = H[q]?) : zS_ D s H' := by
  obtain ⟨h1, ⟨h2, h3⟩, h4, h5⟩ := h
  have hz : ∀ {C n d : String} {v : Value}, va_Z C n d v (fun _ => False) s H → va_Z C n d v (fun _ => False) s H' := by
    intro C n d v h
    obtain ⟨cf, kf, fi, f, a, cell, g1, g2, g3, g4, g5, g6, g7, g8⟩ := h
    exact ⟨cf, kf, fi, f, a, cell, g1, g2, g3, g4, by rw [hq a cell g5 g6]; exact g5, g6, g7, g8⟩
  have hzq : ∀ {C n d : String}, va_Zq C n d (fun _ => False) s H → va_Zq C n d (fun _ => False) s H' := by
    intro C n d h
    rcases h with h | ⟨t, h⟩
    · exact Or.inl (hz h)
    · exact Or.inr ⟨t, hz h⟩
  have hl : ∀ {C n d : String}, vx_L C n d (fun _ => False) s H → vx_L C n d (fun _ => False) s H' := by
    intro C n d h
    obtain ⟨c, k, i, f, a, cell, g1, g2, g3, g4, g5, g6, g7, g8, g9, g10⟩ := h
    exact ⟨c, k, i, f, a, cell, g1, g2, g3, g4, by rw [hq a cell g5 g6]; exact g5, g6, g7, g8, g9, g10⟩
  exact ⟨hz h1, ⟨hzq h2, hl h3⟩, hzq h4, hl h5⟩
theorem Rp_.set {s : State} {D : Dd_} {M M' : Mm} {H H' : Heap} {a : Nat} (h : Rp_ s D M H) (hw : kd_ M a < 30) (hg : ag_ M M' a) (hz : H'.size = H.size) (oq : ∀ q : Nat, q ≠ a → H'[q]? = H[q]?)
    (hv : ∀ cell : Cell, H[a]? = some cell → cell.vm.isStatics = false) (hn : cO_ D M' H' a ∧ cA_ D M' H' a) : Rp_ s D M' H' := by
  obtain ⟨h1, h2, h3, h4, h5⟩ := h
  refine ⟨by rw [hz]; exact h1, fun b => by rw [hg.kd]; exact h2 b, by rw [hg.ln]; exact h3, h4.kept (fun q cell hc hs => oq q (fun e => ?_)), fun b => ⟨?_, fun hb => by rw [hg.kd] at hb ⊢; exact (h5 b).2 hb⟩⟩
  · subst e
    have := hv cell hc
    rw [hs] at this
    cases this
  · by_cases hb : b = a
    · subst hb
      refine ⟨hn.1, hn.2, fun t _ hk => ?_⟩
      rw [hg.kd] at hk
      omega
    · obtain ⟨⟨g1, g2, g3⟩, -⟩ := h5 b
      refine ⟨fun ci hci hk => ?_, fun t ht hk => ?_, fun t ht hk => ?_⟩
      · rw [hg.kd] at hk
        obtain ⟨q1, q2⟩ := g1 ci hci hk
        rw [hg.fv hb]
        exact ⟨q1.kept (oq b hb), fun k hk2 => by rw [(hg.2 b hb k).2.1]; exact q2 k hk2⟩
      · rw [hg.kd] at hk
        rw [hg.ln, hg.av hb, oq b hb]
        obtain ⟨q1, q2⟩ := g2 t ht hk
        exact ⟨q1, fun e j hj => by rw [(hg.2 b hb j).2.1]; exact q2 e j hj⟩
      · rw [hg.kd] at hk
        obtain ⟨cell, q1, q2, q3, q4, q5⟩ := g3 t ht hk
        rw [hg.ln, hg.av hb, oq b hb]
        exact ⟨cell, q1, q2, q3, q4, q5⟩
theorem Rp_.moved {u U : State} {D : Dd_} {M : Mm} {H : Heap} (hvm : u.vm.Alike U.vm) (h : Rp_ u D M H) : Rp_ U D M H := by
  obtain ⟨h1, h2, h3, ⟨z1, z2, z3⟩, h5⟩ := h
  refine ⟨h1, h2, h3, ⟨z1.moved hvm, z2.moved hvm, z3.moved hvm⟩, fun b => ⟨⟨(h5 b).1.1, (h5 b).1.2.1, fun t ht hk => ?_⟩, (h5 b).2⟩⟩
  obtain ⟨cell, q1, q2, q3⟩ := (h5 b).1.2.2 t ht hk
  exact ⟨cell, q1, State.isArrayOf_alike hvm q2, q3⟩
theorem Kn_.warm {u U : State} {D : Dd_} (hW : u.WarmedH U.vm) (h : Kn_ D u) : Kn_ D U := ⟨fun c q hq => u_Kn_moved hW.alike (h.1 c q hq), fun t ht => ⟨arrOfT_moved hW.alike (h.2.1 t ht).1, (h.2.1 t ht).2.moved hW.alike⟩, fun w hw => by
  have hx := (List.mem_filter.mp hw).2
  have hz := h.2.2 w hw
  cases w <;> first | (simp [xk_] at hx; done) | exact va_Nw.warmM hW hz | exact va_Nw.warmC hW hz | skip
  rename_i ty
  cases ty <;> first | (simp [xk_] at hx; done) | exact va_AO.moved hW.alike hz⟩
theorem Kn_.same {u U : State} {D : Dd_} (hvm : u.vm = U.vm) (h : Kn_ D u) : Kn_ D U := by
  have ha : u.vm.Alike U.vm := hvm ▸ Vm.Alike.refl u.vm
  refine ⟨fun c q hq => u_Kn_moved ha (h.1 c q hq), fun t ht => ⟨arrOfT_moved ha (h.2.1 t ht).1, (h.2.1 t ht).2.moved ha⟩, fun w hw => ?_⟩
  have hx := (List.mem_filter.mp hw).2
  have hz := h.2.2 w hw
  cases w <;> first | (simp [xk_] at hx; done) | exact va_Nw.same rfl hvm hz | skip
  rename_i ty
  cases ty <;> first | (simp [xk_] at hx; done) | exact va_AO.moved ha hz
theorem Kn_.cls {s : State} {D : Dd_} (h : Kn_ D s) {ci : Nat} {C : String} {T : u_T} {N : Nat} (hc : vwCl[ci]? = some (C, T, N)) : u_Kn s C T N (D.1.1 ci) (D.1.2 ci) := h.1 ci _ hc
/-- the cell of a kind that is there -/
theorem Rp_.obj {s : State} {D : Dd_} {M : Mm} {H : Heap} {a ci : Nat} (h : Rp_ s D M H) (hci : ci < 12) (hk : kd_ M a = ci + 1) : t_OB a (D.1.1 ci) (nf_ ci) (D.1.2 ci) H (fv_ M ci a) := (((h.2.2.2.2 a).1.1) ci hci hk).1
theorem Rp_.arr {s : State} {D : Dd_} {M : Mm} {H : Heap} {a t : Nat} (h : Rp_ s D M H) (ht : t < 7) (hk : kd_ M a = 20 + t) : H[a]? = some (arrV (D.2.1 t) (ln_ M a) (av_ M t a)) := (((h.2.2.2.2 a).1.2.1) t ht hk).1
theorem Rp_.lt {s : State} {D : Dd_} {M : Mm} {H : Heap} {a : Nat} (h : Rp_ s D M H) (hk : kd_ M a ≠ 0) : a < H.size := by
  obtain ⟨⟨g1, g2, g3⟩, g4⟩ := h.2.2.2.2 a
  rcases (g4 hk).1 with ⟨q1, q2⟩ | ⟨q1, q2⟩ | ⟨q1, q2⟩
  · obtain ⟨cell, h9, -⟩ := (g1 (kd_ M a - 1) (by omega) (by omega)).1
    exact (Array.getElem?_eq_some_iff.mp h9).1
  · exact (Array.getElem?_eq_some_iff.mp (g2 (kd_ M a - 20) (by omega) (by omega)).1).1
  · obtain ⟨cell, h9, -⟩ := g3 (kd_ M a - 30) (by omega) (by omega)
    exact (Array.getElem?_eq_some_iff.mp h9).1
theorem Rp_.ne0 {s : State} {D : Dd_} {M : Mm} {H : Heap} {a : Nat} (h : Rp_ s D M H) (hk : kd_ M a ≠ 0) : a ≠ 0 := ((h.2.2.2.2 a).2 hk).2
theorem Rp_.fresh {s : State} {D : Dd_} {M : Mm} {H : Heap} (h : Rp_ s D M H) {q : Nat} (hq : H.size ≤ q) : kd_ M q = 0 := by
  by_cases e : kd_ M q = 0
  · exact e
  · have := h.lt e
    omega
theorem rv_pos {a : Nat} (h : a ≠ 0) : rv_ a = .ref a := if_neg h
/-- a new cell -/
theorem Rp_.push {s : State} {D : Dd_} {M : Mm} {H H' : Heap} {q c n : Nat} (h : Rp_ s D M H) (hq : H.size = q) (hz : H'.size = q + 1) (oq : ∀ b : Nat, b < q → H'[b]? = H[b]?) (hc : ok_ c) (hc36 : c < 30)
    (hn : cO_ D (nw_ M q c n) H' q ∧ cA_ D (nw_ M q c n) H' q) : Rp_ s D (nw_ M q c n) H' := by
  have hfr : kd_ M q = 0 := h.fresh (by omega)
  have hne : ∀ b, kd_ M b ≠ 0 → b ≠ q := fun b hb e => hb (by rw [e]; exact hfr)
  have hkd : ∀ b, b ≠ q → kd_ (nw_ M q c n) b = kd_ M b := fun b hb => by unfold kd_ nw_; dsimp only; rw [if_neg hb]
  have hln : ∀ b, b ≠ q → ln_ (nw_ M q c n) b = ln_ M b := fun b hb => by unfold ln_ nw_; dsimp only; rw [if_neg hb]
  have hval : ∀ b, b ≠ q → ∀ k, rf_ (nw_ M q c n) b k = rf_ M b k ∧ it_ (nw_ M q c n) b k = it_ M b k ∧ lg_ (nw_ M q c n) b k = lg_ M b k := fun b hb k => ⟨if_neg hb, if_neg hb, if_neg hb⟩
  obtain ⟨h1, h2, h3, h4, h5⟩ := id h
  have had : D.2.2 ≠ q := hne _ (by rw [(h2 D.2.2).mpr rfl]; decide)
  refine ⟨by omega, fun b => ?_, by rw [hln _ had]; exact h3, h4.kept (fun b cell hcb _ => oq b ?_), fun b => ?_⟩
  · by_cases e : b = q
    · subst e
      rw [kd_nq_]
      exact ⟨fun z => by omega, fun z => absurd z.symm had⟩
    · rw [hkd b e]
      exact h2 b
  · have := (Array.getElem?_eq_some_iff.mp hcb).1
    omega
  · by_cases e : b = q
    · subst e
      refine ⟨⟨hn.1, hn.2, fun t _ hk => ?_⟩, fun _ => ⟨by rw [kd_nq_]; exact hc, by omega⟩⟩
      rw [kd_nq_] at hk
      omega
    · rw [hkd b e]
      refine ⟨⟨fun ci hci hk => ?_, fun t ht hk => ?_, fun t ht hk => ?_⟩, (h5 b).2⟩
      · rw [hkd b e] at hk
        obtain ⟨q1, q2⟩ := (h5 b).1.1 ci hci hk
        have hfv : fv_ (nw_ M q c n) ci b = fv_ M ci b := by
          funext k
          obtain ⟨x1, x2, x3⟩ := hval b e k
          unfold fv_
          rw [x1, x2, x3]
        rw [hfv]
        have hlt := h.lt (a := b) (by omega)
        exact ⟨q1.kept (oq b (by omega)), fun k hk2 => by rw [(hval b e k).2.1]; exact q2 k hk2⟩
      · rw [hkd b e] at hk
        obtain ⟨q1, q2⟩ := (h5 b).1.2.1 t ht hk
        have hav : av_ (nw_ M q c n) t b = av_ M t b := by
          funext k
          obtain ⟨x1, x2, x3⟩ := hval b e k
          unfold av_
          rw [x1, x2, x3]
        have hlt := h.lt (a := b) (by omega)
        rw [hav, hln b e, oq b (by omega)]
        exact ⟨q1, fun z j hj => by rw [(hval b e j).2.1]; exact q2 z j hj⟩
      · rw [hkd b e] at hk
        obtain ⟨cell, q1, q2, q3, q4, q5⟩ := (h5 b).1.2.2 t ht hk
        have hav : av_ (nw_ M q c n) t b = av_ M t b := by
          funext k
          obtain ⟨x1, x2, x3⟩ := hval b e k
          unfold av_
          rw [x1, x2, x3]
        have hlt := h.lt (a := b) (by omega)
        rw [hav, hln b e, oq b (by omega)]
        exact ⟨cell, q1, q2, q3, q4, q5⟩
theorem Nw_.push {M0 M : Mm} {sz q c n : Nat} (h : Nw_ M0 sz M) (hs : sz ≤ q) (h0 : kd_ M q = 0) : Nw_ M0 sz (nw_ M q c n) := by
  refine ⟨h.1.tr (Nk_nw_ h0), fun a ha hb => ?_⟩
  by_cases e : a = q
  · omega
  · have : kd_ (nw_ M q c n) a = kd_ M a := by unfold kd_ nw_; dsimp only; rw [if_neg e]
    rw [this] at hb
    exact h.2 a ha hb
/-! the words -/
def tbG_ : List Cond := lw_tbl.filter goodWord
theorem tb_in {w : Cond} (h : w ∈ lw_tbl) (g : goodWord w = true) : w ∈ tbG_ := List.mem_filter.mpr ⟨h, g⟩
theorem tb_good {w : Cond} (h : w ∈ tbG_) : (w.onTables && w.keeps) = true ∨ ∃ ty, w = .arrayClass ty := good_of_word (List.mem_filter.mp h).2
theorem tb_goodIn {c : Cond} (h : c ∈ tbG_) : GoodIn tbG_ (c :: tbG_) := fun w hw => by
  rcases List.mem_cons.mp hw with rfl | hw
  · exact ⟨h, tb_good h⟩
  · exact ⟨hw, tb_good hw⟩
/-! the walk's own judgement -/
def G_ (p : Program) (s : State) (m : MethodId) (args : Array Value) (meth : Method) (c : Code) (cc : ByteArray) (nL : Nat) (own : String) (D : Dd_) (M0 : Mm) : Prop :=
  p.tables.exec = Jvm.exec ∧ c.code = cc ∧ c.maxLocals = nL ∧ s.vm.findClass own = some m.cls ∧ (∀ w ∈ tbG_, w.before args s = true) ∧ Kn_ D s ∧ Rp_ s D M0 s.heap ∧ meth.locks = false
def V_ (p : Program) (l : Launch) (e : Env) (R : Room) (s : State) (m : MethodId) (args : Array Value) (below : List Frame) (meth : Method) (c : Code) (nL : Nat) (D : Dd_) (M0 : Mm) (Q : State → Prop) (pc : Nat) (L : List (Nat × Value)) (S : List Value) (M : Mm) (n k : Nat) : Prop :=
  ∀ (H : Heap) (locs : List Loc) (ls : Array Slot), Rp_ s D M H → Nw_ M0 s.heap.size M → lv_has ls nL L → va_S (Aw_ M0 s.heap.size) s.heap H locs → W p l e R s m args below meth c H locs n k Q (F0 m pc ls S)
section ROWS
variable {p : Program} {l : Launch} {e : Env} {R : Room} {s : State} {m : MethodId} {args : Array Value} {below : List Frame} {meth : Method} {c : Code} {cc : ByteArray} {nL : Nat} {own : String} {D : Dd_} {M0 : Mm} {Q : State → Prop}
variable {pc : Nat} {L L' : List (Nat × Value)} {S : List Value} {M : Mm} {n k : Nat}

theorem r_iconst (g : G_ p s m args meth c cc nL own D M0) {z : Int} {v : Int32} (hd : decode cc pc = .ok (.iconst z, 1)) (hv : Int32.ofInt z = v) (kk : V_ p l e R s m args below meth c nL D M0 Q (pc + 1) L (.int v :: S) M n k) : V_ p l e R s m args below meth c nL D M0 Q pc L S M n k := fun H locs ls hR hN hl hS => lv_iconst g.1 g.2.1 hd hv (kk H locs ls hR hN hl hS)
theorem r_bipush (g : G_ p s m args meth c cc nL own D M0) {z : Int} {v : Int32} (hd : decode cc pc = .ok (.bipush z, 2)) (hv : (Int8.ofInt z).toInt32 = v) (kk : V_ p l e R s m args below meth c nL D M0 Q (pc + 2) L (.int v :: S) M n k) : V_ p l e R s m args below meth c nL D M0 Q pc L S M n k := fun H locs ls hR hN hl hS => lv_bipush g.1 g.2.1 hd hv (kk H locs ls hR hN hl hS)
theorem r_sipush (g : G_ p s m args meth c cc nL own D M0) {z : Int} {v : Int32} (hd : decode cc pc = .ok (.sipush z, 3)) (hv : (Int16.ofInt z).toInt32 = v) (kk : V_ p l e R s m args below meth c nL D M0 Q (pc + 3) L (.int v :: S) M n k) : V_ p l e R s m args below meth c nL D M0 Q pc L S M n k := fun H locs ls hR hN hl hS => lv_sipush g.1 g.2.1 hd hv (kk H locs ls hR hN hl hS)
theorem r_lconst (g : G_ p s m args meth c cc nL own D M0) {z : Fin 2} {v : Int64} (hd : decode cc pc = .ok (.lconst z, 1)) (hv : Int64.ofNat (z : Nat) = v) (kk : V_ p l e R s m args below meth c nL D M0 Q (pc + 1) L (.long v :: S) M n k) : V_ p l e R s m args below meth c nL D M0 Q pc L S M n k := fun H locs ls hR hN hl hS => lv_lconst g.1 g.2.1 hd hv (kk H locs ls hR hN hl hS)
theorem r_null (g : G_ p s m args meth c cc nL own D M0)  (hd : decode cc pc = .ok (.aconst_null, 1)) (kk : V_ p l e R s m args below meth c nL D M0 Q (pc + 1) L (rv_ 0 :: S) M n k) : V_ p l e R s m args below meth c nL D M0 Q pc L S M n k := fun H locs ls hR hN hl hS => lv_null g.1 g.2.1 hd (kk H locs ls hR hN hl hS)
theorem r_iload_n (g : G_ p s m args meth c cc nL own D M0) {z : Fin 4} {i : Nat} {x : Int32} (hd : decode cc pc = .ok (.iload_n z, 1)) (hi : (z : Nat) = i) (j : Nat) (hj : L[j]? = some (i, .int x)) (kk : V_ p l e R s m args below meth c nL D M0 Q (pc + 1) L (.int x :: S) M n k) : V_ p l e R s m args below meth c nL D M0 Q pc L S M n k := fun H locs ls hR hN hl hS => lv_iload_n g.1 g.2.1 hd hi (lv_at hl j hj) (kk H locs ls hR hN hl hS)
theorem r_iload (g : G_ p s m args meth c cc nL own D M0) {i : Nat} {x : Int32} (hd : decode cc pc = .ok (.iload i, 2)) (j : Nat) (hj : L[j]? = some (i, .int x)) (kk : V_ p l e R s m args below meth c nL D M0 Q (pc + 2) L (.int x :: S) M n k) : V_ p l e R s m args below meth c nL D M0 Q pc L S M n k := fun H locs ls hR hN hl hS => lv_iload g.1 g.2.1 hd (lv_at hl j hj) (kk H locs ls hR hN hl hS)
theorem r_istore_n (g : G_ p s m args meth c cc nL own D M0) {z : Fin 4} {i : Nat} {x : Int32} (hd : decode cc pc = .ok (.istore_n z, 1)) (hi : (z : Nat) = i) (hn : i < nL) (hL : (i, Value.int x) :: L.filter (fun q => !(q.1 == i) && !(q.1 + 1 == i && q.2.category == 2)) = L') (kk : V_ p l e R s m args below meth c nL D M0 Q (pc + 1) L' S M n k) : V_ p l e R s m args below meth c nL D M0 Q pc L (.int x :: S) M n k := fun H locs ls hR hN hl hS => lv_istore_n g.1 g.2.1 hd hi hl hn hL (fun ls' hl' => kk H locs ls' hR hN hl' hS)
theorem r_istore (g : G_ p s m args meth c cc nL own D M0) {i : Nat} {x : Int32} (hd : decode cc pc = .ok (.istore i, 2)) (hn : i < nL) (hL : (i, Value.int x) :: L.filter (fun q => !(q.1 == i) && !(q.1 + 1 == i && q.2.category == 2)) = L') (kk : V_ p l e R s m args below meth c nL D M0 Q (pc + 2) L' S M n k) : V_ p l e R s m args below meth c nL D M0 Q pc L (.int x :: S) M n k := fun H locs ls hR hN hl hS => lv_istore g.1 g.2.1 hd hl hn hL (fun ls' hl' => kk H locs ls' hR hN hl' hS)
theorem r_lload_n (g : G_ p s m args meth c cc nL own D M0) {z : Fin 4} {i : Nat} {x : Int64} (hd : decode cc pc = .ok (.lload_n z, 1)) (hi : (z : Nat) = i) (j : Nat) (hj : L[j]? = some (i, .long x)) (kk : V_ p l e R s m args below meth c nL D M0 Q (pc + 1) L (.long x :: S) M n k) : V_ p l e R s m args below meth c nL D M0 Q pc L S M n k := fun H locs ls hR hN hl hS => lv_lload_n g.1 g.2.1 hd hi (lv_at hl j hj) (kk H locs ls hR hN hl hS)
theorem r_lload (g : G_ p s m args meth c cc nL own D M0) {i : Nat} {x : Int64} (hd : decode cc pc = .ok (.lload i, 2)) (j : Nat) (hj : L[j]? = some (i, .long x)) (kk : V_ p l e R s m args below meth c nL D M0 Q (pc + 2) L (.long x :: S) M n k) : V_ p l e R s m args below meth c nL D M0 Q pc L S M n k := fun H locs ls hR hN hl hS => lv_lload g.1 g.2.1 hd (lv_at hl j hj) (kk H locs ls hR hN hl hS)
theorem r_lstore_n (g : G_ p s m args meth c cc nL own D M0) {z : Fin 4} {i : Nat} {x : Int64} (hd : decode cc pc = .ok (.lstore_n z, 1)) (hi : (z : Nat) = i) (hn : i + 1 < nL) (hL : (i, Value.long x) :: L.filter (fun q => !(q.1 == i) && (!(q.1 == i + 1) && !(q.1 + 1 == i && q.2.category == 2))) = L') (kk : V_ p l e R s m args below meth c nL D M0 Q (pc + 1) L' S M n k) : V_ p l e R s m args below meth c nL D M0 Q pc L (.long x :: S) M n k := fun H locs ls hR hN hl hS => lv_lstore_n g.1 g.2.1 hd hi hl hn hL (fun ls' hl' => kk H locs ls' hR hN hl' hS)
theorem r_lstore (g : G_ p s m args meth c cc nL own D M0) {i : Nat} {x : Int64} (hd : decode cc pc = .ok (.lstore i, 2)) (hn : i + 1 < nL) (hL : (i, Value.long x) :: L.filter (fun q => !(q.1 == i) && (!(q.1 == i + 1) && !(q.1 + 1 == i && q.2.category == 2))) = L') (kk : V_ p l e R s m args below meth c nL D M0 Q (pc + 2) L' S M n k) : V_ p l e R s m args below meth c nL D M0 Q pc L (.long x :: S) M n k := fun H locs ls hR hN hl hS => lv_lstore g.1 g.2.1 hd hl hn hL (fun ls' hl' => kk H locs ls' hR hN hl' hS)
theorem r_aload_n (g : G_ p s m args meth c cc nL own D M0) {z : Fin 4} {i : Nat} {x : Nat} (hd : decode cc pc = .ok (.aload_n z, 1)) (hi : (z : Nat) = i) (j : Nat) (hj : L[j]? = some (i, .ref x)) (kk : V_ p l e R s m args below meth c nL D M0 Q (pc + 1) L (.ref x :: S) M n k) : V_ p l e R s m args below meth c nL D M0 Q pc L S M n k := fun H locs ls hR hN hl hS => lv_aload_n g.1 g.2.1 hd hi (lv_at hl j hj) (kk H locs ls hR hN hl hS)
theorem r_aload (g : G_ p s m args meth c cc nL own D M0) {i : Nat} {x : Nat} (hd : decode cc pc = .ok (.aload i, 2)) (j : Nat) (hj : L[j]? = some (i, .ref x)) (kk : V_ p l e R s m args below meth c nL D M0 Q (pc + 2) L (.ref x :: S) M n k) : V_ p l e R s m args below meth c nL D M0 Q pc L S M n k := fun H locs ls hR hN hl hS => lv_aload g.1 g.2.1 hd (lv_at hl j hj) (kk H locs ls hR hN hl hS)
theorem r_astore_n (g : G_ p s m args meth c cc nL own D M0) {z : Fin 4} {i : Nat} {x : Nat} (hd : decode cc pc = .ok (.astore_n z, 1)) (hi : (z : Nat) = i) (hn : i < nL) (hL : (i, Value.ref x) :: L.filter (fun q => !(q.1 == i) && !(q.1 + 1 == i && q.2.category == 2)) = L') (kk : V_ p l e R s m args below meth c nL D M0 Q (pc + 1) L' S M n k) : V_ p l e R s m args below meth c nL D M0 Q pc L (.ref x :: S) M n k := fun H locs ls hR hN hl hS => lv_astore_n g.1 g.2.1 hd hi hl hn hL (fun ls' hl' => kk H locs ls' hR hN hl' hS)
theorem r_astore (g : G_ p s m args meth c cc nL own D M0) {i : Nat} {x : Nat} (hd : decode cc pc = .ok (.astore i, 2)) (hn : i < nL) (hL : (i, Value.ref x) :: L.filter (fun q => !(q.1 == i) && !(q.1 + 1 == i && q.2.category == 2)) = L') (kk : V_ p l e R s m args below meth c nL D M0 Q (pc + 2) L' S M n k) : V_ p l e R s m args below meth c nL D M0 Q pc L (.ref x :: S) M n k := fun H locs ls hR hN hl hS => lv_astore g.1 g.2.1 hd hl hn hL (fun ls' hl' => kk H locs ls' hR hN hl' hS)
theorem r_vload_n (g : G_ p s m args meth c cc nL own D M0) {z : Fin 4} {i x : Nat} (hd : decode cc pc = .ok (.aload_n z, 1)) (hi : (z : Nat) = i) (j : Nat) (hj : L[j]? = some (i, rv_ x)) (kk : V_ p l e R s m args below meth c nL D M0 Q (pc + 1) L (rv_ x :: S) M n k) : V_ p l e R s m args below meth c nL D M0 Q pc L S M n k := fun H locs ls hR hN hl hS => by
  by_cases h0 : x = 0
  · subst h0
    exact lv_aload_nN g.1 g.2.1 hd hi (lv_at hl j hj) (kk H locs ls hR hN hl hS)
  · rw [rv_pos h0] at hj kk
    exact lv_aload_n g.1 g.2.1 hd hi (lv_at hl j hj) (kk H locs ls hR hN hl hS)
theorem r_vload (g : G_ p s m args meth c cc nL own D M0) {i x : Nat} (hd : decode cc pc = .ok (.aload i, 2)) (j : Nat) (hj : L[j]? = some (i, rv_ x)) (kk : V_ p l e R s m args below meth c nL D M0 Q (pc + 2) L (rv_ x :: S) M n k) : V_ p l e R s m args below meth c nL D M0 Q pc L S M n k := fun H locs ls hR hN hl hS => by
  by_cases h0 : x = 0
  · subst h0
    exact lv_aloadN g.1 g.2.1 hd (lv_at hl j hj) (kk H locs ls hR hN hl hS)
  · rw [rv_pos h0] at hj kk
    exact lv_aload g.1 g.2.1 hd (lv_at hl j hj) (kk H locs ls hR hN hl hS)
theorem r_vstore_n (g : G_ p s m args meth c cc nL own D M0) {z : Fin 4} {i x : Nat} (hd : decode cc pc = .ok (.astore_n z, 1)) (hi : (z : Nat) = i) (hn : i < nL) (hL : (i, rv_ x) :: L.filter (fun q => !(q.1 == i) && !(q.1 + 1 == i && q.2.category == 2)) = L') (kk : V_ p l e R s m args below meth c nL D M0 Q (pc + 1) L' S M n k) : V_ p l e R s m args below meth c nL D M0 Q pc L (rv_ x :: S) M n k := fun H locs ls hR hN hl hS => by
  by_cases h0 : x = 0
  · subst h0
    exact lv_astore_nN g.1 g.2.1 hd hi hl hn hL (fun ls' hl' => kk H locs ls' hR hN hl' hS)
  · rw [rv_pos h0] at hL ⊢
    exact lv_astore_n g.1 g.2.1 hd hi hl hn hL (fun ls' hl' => kk H locs ls' hR hN hl' hS)
theorem r_vstore (g : G_ p s m args meth c cc nL own D M0) {i x : Nat} (hd : decode cc pc = .ok (.astore i, 2)) (hn : i < nL) (hL : (i, rv_ x) :: L.filter (fun q => !(q.1 == i) && !(q.1 + 1 == i && q.2.category == 2)) = L') (kk : V_ p l e R s m args below meth c nL D M0 Q (pc + 2) L' S M n k) : V_ p l e R s m args below meth c nL D M0 Q pc L (rv_ x :: S) M n k := fun H locs ls hR hN hl hS => by
  by_cases h0 : x = 0
  · subst h0
    exact lv_astoreN g.1 g.2.1 hd hl hn hL (fun ls' hl' => kk H locs ls' hR hN hl' hS)
  · rw [rv_pos h0] at hL ⊢
    exact lv_astore g.1 g.2.1 hd hl hn hL (fun ls' hl' => kk H locs ls' hR hN hl' hS)
theorem r_iinc (g : G_ p s m args meth c cc nL own D M0) {i : Nat} {z : Int} {x v : Int32} (hd : decode cc pc = .ok (.iinc i z, 3)) (j : Nat) (hj : L[j]? = some (i, .int x)) (hv : x + Int32.ofInt z = v) (hn : i < nL) (hL : (i, Value.int v) :: L.filter (fun q => !(q.1 == i) && !(q.1 + 1 == i && q.2.category == 2)) = L') (kk : V_ p l e R s m args below meth c nL D M0 Q (pc + 3) L' S M n k) : V_ p l e R s m args below meth c nL D M0 Q pc L S M n k := fun H locs ls hR hN hl hS => lv_iinc (k := j) g.1 g.2.1 hd hl hj hv hn hL (fun ls' hl' => kk H locs ls' hR hN hl' hS)
theorem r_iadd (g : G_ p s m args meth c cc nL own D M0) {x y : Int32} (hd : decode cc pc = .ok (.iadd, 1)) (kk : V_ p l e R s m args below meth c nL D M0 Q (pc + 1) L (.int (x + y) :: S) M n k) : V_ p l e R s m args below meth c nL D M0 Q pc L (.int y :: .int x :: S) M n k := fun H locs ls hR hN hl hS => lv_iadd g.1 g.2.1 hd (kk H locs ls hR hN hl hS)
theorem r_isub (g : G_ p s m args meth c cc nL own D M0) {x y : Int32} (hd : decode cc pc = .ok (.isub, 1)) (kk : V_ p l e R s m args below meth c nL D M0 Q (pc + 1) L (.int (x - y) :: S) M n k) : V_ p l e R s m args below meth c nL D M0 Q pc L (.int y :: .int x :: S) M n k := fun H locs ls hR hN hl hS => lv_isub g.1 g.2.1 hd (kk H locs ls hR hN hl hS)
theorem r_imul (g : G_ p s m args meth c cc nL own D M0) {x y : Int32} (hd : decode cc pc = .ok (.imul, 1)) (kk : V_ p l e R s m args below meth c nL D M0 Q (pc + 1) L (.int (x * y) :: S) M n k) : V_ p l e R s m args below meth c nL D M0 Q pc L (.int y :: .int x :: S) M n k := fun H locs ls hR hN hl hS => lv_imul g.1 g.2.1 hd (kk H locs ls hR hN hl hS)
theorem r_iand (g : G_ p s m args meth c cc nL own D M0) {x y : Int32} (hd : decode cc pc = .ok (.iand, 1)) (kk : V_ p l e R s m args below meth c nL D M0 Q (pc + 1) L (.int (x &&& y) :: S) M n k) : V_ p l e R s m args below meth c nL D M0 Q pc L (.int y :: .int x :: S) M n k := fun H locs ls hR hN hl hS => lv_iand g.1 g.2.1 hd (kk H locs ls hR hN hl hS)
theorem r_ishl (g : G_ p s m args meth c cc nL own D M0) {x y : Int32} (hd : decode cc pc = .ok (.ishl, 1)) (kk : V_ p l e R s m args below meth c nL D M0 Q (pc + 1) L (.int (x <<< (y &&& 31)) :: S) M n k) : V_ p l e R s m args below meth c nL D M0 Q pc L (.int y :: .int x :: S) M n k := fun H locs ls hR hN hl hS => lv_ishl g.1 g.2.1 hd (kk H locs ls hR hN hl hS)
theorem r_ishr (g : G_ p s m args meth c cc nL own D M0) {x y : Int32} (hd : decode cc pc = .ok (.ishr, 1)) (kk : V_ p l e R s m args below meth c nL D M0 Q (pc + 1) L (.int (x >>> (y &&& 31)) :: S) M n k) : V_ p l e R s m args below meth c nL D M0 Q pc L (.int y :: .int x :: S) M n k := fun H locs ls hR hN hl hS => lv_ishr g.1 g.2.1 hd (kk H locs ls hR hN hl hS)
theorem r_idiv (g : G_ p s m args meth c cc nL own D M0) {x y : Int32} (hd : decode cc pc = .ok (.idiv, 1)) (hne : ¬ y = 0) (kk : V_ p l e R s m args below meth c nL D M0 Q (pc + 1) L (.int (x / y) :: S) M n k) : V_ p l e R s m args below meth c nL D M0 Q pc L (.int y :: .int x :: S) M n k := fun H locs ls hR hN hl hS => lv_idiv g.1 g.2.1 hd hne (kk H locs ls hR hN hl hS)
theorem r_irem (g : G_ p s m args meth c cc nL own D M0) {x y : Int32} (hd : decode cc pc = .ok (.irem, 1)) (hne : ¬ y = 0) (kk : V_ p l e R s m args below meth c nL D M0 Q (pc + 1) L (.int (x - x / y * y) :: S) M n k) : V_ p l e R s m args below meth c nL D M0 Q pc L (.int y :: .int x :: S) M n k := fun H locs ls hR hN hl hS => lv_irem g.1 g.2.1 hd hne (kk H locs ls hR hN hl hS)
theorem r_ladd (g : G_ p s m args meth c cc nL own D M0) {x y : Int64} (hd : decode cc pc = .ok (.ladd, 1)) (kk : V_ p l e R s m args below meth c nL D M0 Q (pc + 1) L (.long (x + y) :: S) M n k) : V_ p l e R s m args below meth c nL D M0 Q pc L (.long y :: .long x :: S) M n k := fun H locs ls hR hN hl hS => lv_ladd g.1 g.2.1 hd (kk H locs ls hR hN hl hS)
theorem r_lsub (g : G_ p s m args meth c cc nL own D M0) {x y : Int64} (hd : decode cc pc = .ok (.lsub, 1)) (kk : V_ p l e R s m args below meth c nL D M0 Q (pc + 1) L (.long (x - y) :: S) M n k) : V_ p l e R s m args below meth c nL D M0 Q pc L (.long y :: .long x :: S) M n k := fun H locs ls hR hN hl hS => lv_lsub g.1 g.2.1 hd (kk H locs ls hR hN hl hS)
theorem r_lmul (g : G_ p s m args meth c cc nL own D M0) {x y : Int64} (hd : decode cc pc = .ok (.lmul, 1)) (kk : V_ p l e R s m args below meth c nL D M0 Q (pc + 1) L (.long (x * y) :: S) M n k) : V_ p l e R s m args below meth c nL D M0 Q pc L (.long y :: .long x :: S) M n k := fun H locs ls hR hN hl hS => lv_lmul g.1 g.2.1 hd (kk H locs ls hR hN hl hS)
theorem r_ldiv (g : G_ p s m args meth c cc nL own D M0) {x y : Int64} (hd : decode cc pc = .ok (.ldiv, 1)) (hne : ¬ y = 0) (kk : V_ p l e R s m args below meth c nL D M0 Q (pc + 1) L (.long (x / y) :: S) M n k) : V_ p l e R s m args below meth c nL D M0 Q pc L (.long y :: .long x :: S) M n k := fun H locs ls hR hN hl hS => lv_ldiv g.1 g.2.1 hd hne (kk H locs ls hR hN hl hS)
theorem r_lneg (g : G_ p s m args meth c cc nL own D M0) {x : Int64} (hd : decode cc pc = .ok (.lneg, 1)) (kk : V_ p l e R s m args below meth c nL D M0 Q (pc + 1) L (.long (-x) :: S) M n k) : V_ p l e R s m args below meth c nL D M0 Q pc L (.long x :: S) M n k := fun H locs ls hR hN hl hS => lv_lneg g.1 g.2.1 hd (kk H locs ls hR hN hl hS)
theorem r_lshr (g : G_ p s m args meth c cc nL own D M0) {x : Int64} {y : Int32} (hd : decode cc pc = .ok (.lshr, 1)) (kk : V_ p l e R s m args below meth c nL D M0 Q (pc + 1) L (.long (x >>> (y.toInt64 &&& 63)) :: S) M n k) : V_ p l e R s m args below meth c nL D M0 Q pc L (.int y :: .long x :: S) M n k := fun H locs ls hR hN hl hS => lv_lshr g.1 g.2.1 hd rfl (kk H locs ls hR hN hl hS)
theorem r_i2l (g : G_ p s m args meth c cc nL own D M0) {x : Int32} (hd : decode cc pc = .ok (.i2l, 1)) (kk : V_ p l e R s m args below meth c nL D M0 Q (pc + 1) L (.long x.toInt64 :: S) M n k) : V_ p l e R s m args below meth c nL D M0 Q pc L (.int x :: S) M n k := fun H locs ls hR hN hl hS => lv_i2l g.1 g.2.1 hd rfl (kk H locs ls hR hN hl hS)
theorem r_l2i (g : G_ p s m args meth c cc nL own D M0) {x : Int64} (hd : decode cc pc = .ok (.l2i, 1)) (kk : V_ p l e R s m args below meth c nL D M0 Q (pc + 1) L (.int x.toInt32 :: S) M n k) : V_ p l e R s m args below meth c nL D M0 Q pc L (.long x :: S) M n k := fun H locs ls hR hN hl hS => lv_l2i g.1 g.2.1 hd rfl (kk H locs ls hR hN hl hS)
theorem r_dup (g : G_ p s m args meth c cc nL own D M0) {x : Value} (hd : decode cc pc = .ok (.dup, 1)) (hx : x.category = 1) (kk : V_ p l e R s m args below meth c nL D M0 Q (pc + 1) L (x :: x :: S) M n k) : V_ p l e R s m args below meth c nL D M0 Q pc L (x :: S) M n k := fun H locs ls hR hN hl hS => lv_dup g.1 g.2.1 hd hx (kk H locs ls hR hN hl hS)
theorem r_pop (g : G_ p s m args meth c cc nL own D M0) {x : Value} (hd : decode cc pc = .ok (.pop, 1)) (hx : x.category = 1) (kk : V_ p l e R s m args below meth c nL D M0 Q (pc + 1) L S M n k) : V_ p l e R s m args below meth c nL D M0 Q pc L (x :: S) M n k := fun H locs ls hR hN hl hS => lv_pop g.1 g.2.1 hd hx (kk H locs ls hR hN hl hS)
theorem r_dup_x1 (g : G_ p s m args meth c cc nL own D M0) {x y : Value} (hd : decode cc pc = .ok (.dup_x1, 1)) (hx : x.category = 1) (hy : y.category = 1) (kk : V_ p l e R s m args below meth c nL D M0 Q (pc + 1) L (x :: y :: x :: S) M n k) : V_ p l e R s m args below meth c nL D M0 Q pc L (x :: y :: S) M n k := fun H locs ls hR hN hl hS => lv_dup_x1 g.1 g.2.1 hd hx hy (kk H locs ls hR hN hl hS)
theorem r_icmp_eq (g : G_ p s m args meth c cc nL own D M0) {x y : Int32} {off : Int} {tgt : Nat} (hd : decode cc pc = .ok (.if_icmp .eq off, 3)) (ht : (pc : Int) + off = (tgt : Int)) (kt : x = y → V_ p l e R s m args below meth c nL D M0 Q tgt L S M n k) (kf : ¬ (x = y) → V_ p l e R s m args below meth c nL D M0 Q (pc + 3) L S M n k) : V_ p l e R s m args below meth c nL D M0 Q pc L (.int y :: .int x :: S) M n k := fun H locs ls hR hN hl hS => lv_icmp_eq g.1 g.2.1 hd ht (fun h => kt h H locs ls hR hN hl hS) (fun h => kf h H locs ls hR hN hl hS)
theorem r_if_eq (g : G_ p s m args meth c cc nL own D M0) {x : Int32} {off : Int} {tgt : Nat} (hd : decode cc pc = .ok (.ifCond .eq off, 3)) (ht : (pc : Int) + off = (tgt : Int)) (kt : x = 0 → V_ p l e R s m args below meth c nL D M0 Q tgt L S M n k) (kf : ¬ (x = 0) → V_ p l e R s m args below meth c nL D M0 Q (pc + 3) L S M n k) : V_ p l e R s m args below meth c nL D M0 Q pc L (.int x :: S) M n k := fun H locs ls hR hN hl hS => lv_if_eq g.1 g.2.1 hd ht (fun h => kt h H locs ls hR hN hl hS) (fun h => kf h H locs ls hR hN hl hS)
theorem r_icmp_ne (g : G_ p s m args meth c cc nL own D M0) {x y : Int32} {off : Int} {tgt : Nat} (hd : decode cc pc = .ok (.if_icmp .ne off, 3)) (ht : (pc : Int) + off = (tgt : Int)) (kt : x ≠ y → V_ p l e R s m args below meth c nL D M0 Q tgt L S M n k) (kf : x = y → V_ p l e R s m args below meth c nL D M0 Q (pc + 3) L S M n k) : V_ p l e R s m args below meth c nL D M0 Q pc L (.int y :: .int x :: S) M n k := fun H locs ls hR hN hl hS => lv_icmp_ne g.1 g.2.1 hd ht (fun h => kt h H locs ls hR hN hl hS) (fun h => kf h H locs ls hR hN hl hS)
theorem r_if_ne (g : G_ p s m args meth c cc nL own D M0) {x : Int32} {off : Int} {tgt : Nat} (hd : decode cc pc = .ok (.ifCond .ne off, 3)) (ht : (pc : Int) + off = (tgt : Int)) (kt : x ≠ 0 → V_ p l e R s m args below meth c nL D M0 Q tgt L S M n k) (kf : x = 0 → V_ p l e R s m args below meth c nL D M0 Q (pc + 3) L S M n k) : V_ p l e R s m args below meth c nL D M0 Q pc L (.int x :: S) M n k := fun H locs ls hR hN hl hS => lv_if_ne g.1 g.2.1 hd ht (fun h => kt h H locs ls hR hN hl hS) (fun h => kf h H locs ls hR hN hl hS)
theorem r_icmp_lt (g : G_ p s m args meth c cc nL own D M0) {x y : Int32} {off : Int} {tgt : Nat} (hd : decode cc pc = .ok (.if_icmp .lt off, 3)) (ht : (pc : Int) + off = (tgt : Int)) (kt : x < y → V_ p l e R s m args below meth c nL D M0 Q tgt L S M n k) (kf : ¬ (x < y) → V_ p l e R s m args below meth c nL D M0 Q (pc + 3) L S M n k) : V_ p l e R s m args below meth c nL D M0 Q pc L (.int y :: .int x :: S) M n k := fun H locs ls hR hN hl hS => lv_icmp_lt g.1 g.2.1 hd ht (fun h => kt h H locs ls hR hN hl hS) (fun h => kf h H locs ls hR hN hl hS)
theorem r_if_lt (g : G_ p s m args meth c cc nL own D M0) {x : Int32} {off : Int} {tgt : Nat} (hd : decode cc pc = .ok (.ifCond .lt off, 3)) (ht : (pc : Int) + off = (tgt : Int)) (kt : x < 0 → V_ p l e R s m args below meth c nL D M0 Q tgt L S M n k) (kf : ¬ (x < 0) → V_ p l e R s m args below meth c nL D M0 Q (pc + 3) L S M n k) : V_ p l e R s m args below meth c nL D M0 Q pc L (.int x :: S) M n k := fun H locs ls hR hN hl hS => lv_if_lt g.1 g.2.1 hd ht (fun h => kt h H locs ls hR hN hl hS) (fun h => kf h H locs ls hR hN hl hS)
theorem r_icmp_ge (g : G_ p s m args meth c cc nL own D M0) {x y : Int32} {off : Int} {tgt : Nat} (hd : decode cc pc = .ok (.if_icmp .ge off, 3)) (ht : (pc : Int) + off = (tgt : Int)) (kt : y ≤ x → V_ p l e R s m args below meth c nL D M0 Q tgt L S M n k) (kf : ¬ (y ≤ x) → V_ p l e R s m args below meth c nL D M0 Q (pc + 3) L S M n k) : V_ p l e R s m args below meth c nL D M0 Q pc L (.int y :: .int x :: S) M n k := fun H locs ls hR hN hl hS => lv_icmp_ge g.1 g.2.1 hd ht (fun h => kt h H locs ls hR hN hl hS) (fun h => kf h H locs ls hR hN hl hS)
theorem r_if_ge (g : G_ p s m args meth c cc nL own D M0) {x : Int32} {off : Int} {tgt : Nat} (hd : decode cc pc = .ok (.ifCond .ge off, 3)) (ht : (pc : Int) + off = (tgt : Int)) (kt : 0 ≤ x → V_ p l e R s m args below meth c nL D M0 Q tgt L S M n k) (kf : ¬ (0 ≤ x) → V_ p l e R s m args below meth c nL D M0 Q (pc + 3) L S M n k) : V_ p l e R s m args below meth c nL D M0 Q pc L (.int x :: S) M n k := fun H locs ls hR hN hl hS => lv_if_ge g.1 g.2.1 hd ht (fun h => kt h H locs ls hR hN hl hS) (fun h => kf h H locs ls hR hN hl hS)
theorem r_icmp_gt (g : G_ p s m args meth c cc nL own D M0) {x y : Int32} {off : Int} {tgt : Nat} (hd : decode cc pc = .ok (.if_icmp .gt off, 3)) (ht : (pc : Int) + off = (tgt : Int)) (kt : y < x → V_ p l e R s m args below meth c nL D M0 Q tgt L S M n k) (kf : ¬ (y < x) → V_ p l e R s m args below meth c nL D M0 Q (pc + 3) L S M n k) : V_ p l e R s m args below meth c nL D M0 Q pc L (.int y :: .int x :: S) M n k := fun H locs ls hR hN hl hS => lv_icmp_gt g.1 g.2.1 hd ht (fun h => kt h H locs ls hR hN hl hS) (fun h => kf h H locs ls hR hN hl hS)
theorem r_if_gt (g : G_ p s m args meth c cc nL own D M0) {x : Int32} {off : Int} {tgt : Nat} (hd : decode cc pc = .ok (.ifCond .gt off, 3)) (ht : (pc : Int) + off = (tgt : Int)) (kt : 0 < x → V_ p l e R s m args below meth c nL D M0 Q tgt L S M n k) (kf : ¬ (0 < x) → V_ p l e R s m args below meth c nL D M0 Q (pc + 3) L S M n k) : V_ p l e R s m args below meth c nL D M0 Q pc L (.int x :: S) M n k := fun H locs ls hR hN hl hS => lv_if_gt g.1 g.2.1 hd ht (fun h => kt h H locs ls hR hN hl hS) (fun h => kf h H locs ls hR hN hl hS)
theorem r_icmp_le (g : G_ p s m args meth c cc nL own D M0) {x y : Int32} {off : Int} {tgt : Nat} (hd : decode cc pc = .ok (.if_icmp .le off, 3)) (ht : (pc : Int) + off = (tgt : Int)) (kt : x ≤ y → V_ p l e R s m args below meth c nL D M0 Q tgt L S M n k) (kf : ¬ (x ≤ y) → V_ p l e R s m args below meth c nL D M0 Q (pc + 3) L S M n k) : V_ p l e R s m args below meth c nL D M0 Q pc L (.int y :: .int x :: S) M n k := fun H locs ls hR hN hl hS => lv_icmp_le g.1 g.2.1 hd ht (fun h => kt h H locs ls hR hN hl hS) (fun h => kf h H locs ls hR hN hl hS)
theorem r_if_le (g : G_ p s m args meth c cc nL own D M0) {x : Int32} {off : Int} {tgt : Nat} (hd : decode cc pc = .ok (.ifCond .le off, 3)) (ht : (pc : Int) + off = (tgt : Int)) (kt : x ≤ 0 → V_ p l e R s m args below meth c nL D M0 Q tgt L S M n k) (kf : ¬ (x ≤ 0) → V_ p l e R s m args below meth c nL D M0 Q (pc + 3) L S M n k) : V_ p l e R s m args below meth c nL D M0 Q pc L (.int x :: S) M n k := fun H locs ls hR hN hl hS => lv_if_le g.1 g.2.1 hd ht (fun h => kt h H locs ls hR hN hl hS) (fun h => kf h H locs ls hR hN hl hS)
theorem r_goto (g : G_ p s m args meth c cc nL own D M0) {off : Int} {tgt : Nat} (hd : decode cc pc = .ok (.goto off, 3)) (ht : (pc : Int) + off = (tgt : Int)) (kk : V_ p l e R s m args below meth c nL D M0 Q tgt L S M n k) : V_ p l e R s m args below meth c nL D M0 Q pc L S M n k := fun H locs ls hR hN hl hS => lv_goto g.1 g.2.1 hd ht (kk H locs ls hR hN hl hS)
theorem lc_c (x y : Int64) : (x.toInt < y.toInt ∧ lg_cmp x y = -1) ∨ (x.toInt = y.toInt ∧ lg_cmp x y = 0) ∨ (y.toInt < x.toInt ∧ lg_cmp x y = 1) := by
  unfold lg_cmp
  by_cases h : x > y
  · rw [if_pos h]
    exact Or.inr (Or.inr ⟨Int64.lt_iff_toInt_lt.mp h, rfl⟩)
  · rw [if_neg h]
    have h2 : ¬ y.toInt < x.toInt := fun z => h (Int64.lt_iff_toInt_lt.mpr z)
    by_cases e : x = y
    · rw [if_pos e]
      exact Or.inr (Or.inl ⟨by rw [e], rfl⟩)
    · rw [if_neg e]
      have h3 : x.toInt ≠ y.toInt := fun z => e (Int64.toInt_inj.mp z)
      exact Or.inl ⟨by omega, rfl⟩
theorem lc_le (x y : Int64) : ((lg_cmp x y) ≤ 0) ↔ x ≤ y := by
  rw [Int64.le_iff_toInt_le]
  rcases lc_c x y with ⟨h, e⟩ | ⟨h, e⟩ | ⟨h, e⟩ <;> rw [e]
  · exact ⟨fun z => by first | omega | exact absurd z (by decide), fun z => by first | decide | omega⟩
  · exact ⟨fun z => by first | omega | exact absurd z (by decide), fun z => by first | decide | omega⟩
  · exact ⟨fun z => by first | omega | exact absurd z (by decide), fun z => by first | decide | omega⟩
theorem r_lcmp_le (g : G_ p s m args meth c cc nL own D M0) {x y : Int64} {off : Int} {tgt : Nat} (hd0 : decode cc pc = .ok (.lcmp, 1)) (hd : decode cc (pc + 1) = .ok (.ifCond .le off, 3)) (ht : ((pc + 1 : Nat) : Int) + off = (tgt : Int)) (kt : x ≤ y → V_ p l e R s m args below meth c nL D M0 Q tgt L S M n k) (kf : ¬ (x ≤ y) → V_ p l e R s m args below meth c nL D M0 Q (pc + 1 + 3) L S M n k) : V_ p l e R s m args below meth c nL D M0 Q pc L (.long y :: .long x :: S) M n k := fun H locs ls hR hN hl hS => W.lcmp g.1 g.2.1 hd0 (lv_if_le g.1 g.2.1 hd ht (fun h => kt ((lc_le x y).mp h) H locs ls hR hN hl hS) (fun h => kf (fun z => h ((lc_le x y).mpr z)) H locs ls hR hN hl hS))
theorem lc_lt (x y : Int64) : ((lg_cmp x y) < 0) ↔ x < y := by
  rw [Int64.lt_iff_toInt_lt]
  rcases lc_c x y with ⟨h, e⟩ | ⟨h, e⟩ | ⟨h, e⟩ <;> rw [e]
  · exact ⟨fun z => by first | omega | exact absurd z (by decide), fun z => by first | decide | omega⟩
  · exact ⟨fun z => by first | omega | exact absurd z (by decide), fun z => by first | decide | omega⟩
  · exact ⟨fun z => by first | omega | exact absurd z (by decide), fun z => by first | decide | omega⟩
theorem r_lcmp_lt (g : G_ p s m args meth c cc nL own D M0) {x y : Int64} {off : Int} {tgt : Nat} (hd0 : decode cc pc = .ok (.lcmp, 1)) (hd : decode cc (pc + 1) = .ok (.ifCond .lt off, 3)) (ht : ((pc + 1 : Nat) : Int) + off = (tgt : Int)) (kt : x < y → V_ p l e R s m args below meth c nL D M0 Q tgt L S M n k) (kf : ¬ (x < y) → V_ p l e R s m args below meth c nL D M0 Q (pc + 1 + 3) L S M n k) : V_ p l e R s m args below meth c nL D M0 Q pc L (.long y :: .long x :: S) M n k := fun H locs ls hR hN hl hS => W.lcmp g.1 g.2.1 hd0 (lv_if_lt g.1 g.2.1 hd ht (fun h => kt ((lc_lt x y).mp h) H locs ls hR hN hl hS) (fun h => kf (fun z => h ((lc_lt x y).mpr z)) H locs ls hR hN hl hS))
theorem lc_ge (x y : Int64) : (0 ≤ (lg_cmp x y)) ↔ y ≤ x := by
  rw [Int64.le_iff_toInt_le]
  rcases lc_c x y with ⟨h, e⟩ | ⟨h, e⟩ | ⟨h, e⟩ <;> rw [e]
  · exact ⟨fun z => by first | omega | exact absurd z (by decide), fun z => by first | decide | omega⟩
  · exact ⟨fun z => by first | omega | exact absurd z (by decide), fun z => by first | decide | omega⟩
  · exact ⟨fun z => by first | omega | exact absurd z (by decide), fun z => by first | decide | omega⟩
theorem r_lcmp_ge (g : G_ p s m args meth c cc nL own D M0) {x y : Int64} {off : Int} {tgt : Nat} (hd0 : decode cc pc = .ok (.lcmp, 1)) (hd : decode cc (pc + 1) = .ok (.ifCond .ge off, 3)) (ht : ((pc + 1 : Nat) : Int) + off = (tgt : Int)) (kt : y ≤ x → V_ p l e R s m args below meth c nL D M0 Q tgt L S M n k) (kf : ¬ (y ≤ x) → V_ p l e R s m args below meth c nL D M0 Q (pc + 1 + 3) L S M n k) : V_ p l e R s m args below meth c nL D M0 Q pc L (.long y :: .long x :: S) M n k := fun H locs ls hR hN hl hS => W.lcmp g.1 g.2.1 hd0 (lv_if_ge g.1 g.2.1 hd ht (fun h => kt ((lc_ge x y).mp h) H locs ls hR hN hl hS) (fun h => kf (fun z => h ((lc_ge x y).mpr z)) H locs ls hR hN hl hS))
theorem lc_gt (x y : Int64) : (0 < (lg_cmp x y)) ↔ y < x := by
  rw [Int64.lt_iff_toInt_lt]
  rcases lc_c x y with ⟨h, e⟩ | ⟨h, e⟩ | ⟨h, e⟩ <;> rw [e]
  · exact ⟨fun z => by first | omega | exact absurd z (by decide), fun z => by first | decide | omega⟩
  · exact ⟨fun z => by first | omega | exact absurd z (by decide), fun z => by first | decide | omega⟩
  · exact ⟨fun z => by first | omega | exact absurd z (by decide), fun z => by first | decide | omega⟩
theorem r_lcmp_gt (g : G_ p s m args meth c cc nL own D M0) {x y : Int64} {off : Int} {tgt : Nat} (hd0 : decode cc pc = .ok (.lcmp, 1)) (hd : decode cc (pc + 1) = .ok (.ifCond .gt off, 3)) (ht : ((pc + 1 : Nat) : Int) + off = (tgt : Int)) (kt : y < x → V_ p l e R s m args below meth c nL D M0 Q tgt L S M n k) (kf : ¬ (y < x) → V_ p l e R s m args below meth c nL D M0 Q (pc + 1 + 3) L S M n k) : V_ p l e R s m args below meth c nL D M0 Q pc L (.long y :: .long x :: S) M n k := fun H locs ls hR hN hl hS => W.lcmp g.1 g.2.1 hd0 (lv_if_gt g.1 g.2.1 hd ht (fun h => kt ((lc_gt x y).mp h) H locs ls hR hN hl hS) (fun h => kf (fun z => h ((lc_gt x y).mpr z)) H locs ls hR hN hl hS))
theorem V_.sub (h : V_ p l e R s m args below meth c nL D M0 Q pc L' S M n k) (is : List Nat) (hp : lv_pick L is = L') : V_ p l e R s m args below meth c nL D M0 Q pc L S M n k := fun H locs ls hR hN hl hS => h H locs ls hR hN (lv_sub hl is hp) hS
theorem V_.widen {n2 k2 : Nat} (h1 : n ≤ n2) (h2 : k ≤ k2) (h : V_ p l e R s m args below meth c nL D M0 Q pc L S M n2 k2) : V_ p l e R s m args below meth c nL D M0 Q pc L S M n k := fun H locs ls hR hN hl hS => W.widen h1 h2 (h H locs ls hR hN hl hS)
theorem r_ldc (g : G_ p s m args meth c cc nL own D M0) {i : Nat} {v : Int32} (hw : Cond.constant own i v ∈ tbG_) (hd : decode cc pc = .ok (.ldc i, 2)) (kk : V_ p l e R s m args below meth c nL D M0 Q (pc + 2) L (.int v :: S) M n k) : V_ p l e R s m args below meth c nL D M0 Q pc L S M n k := fun H locs ls hR hN hl hS => lv_ldc g.1 g.2.1 g.2.2.2.1 (g.2.2.2.2.1 _ hw) hd (kk H locs ls hR hN hl hS)
theorem r_ldc2 (g : G_ p s m args meth c cc nL own D M0) {i : Nat} {v : Int64} (hw : Cond.constantLong own i v ∈ tbG_) (hd : decode cc pc = .ok (.ldc2_w i, 3)) (kk : V_ p l e R s m args below meth c nL D M0 Q (pc + 3) L (.long v :: S) M n k) : V_ p l e R s m args below meth c nL D M0 Q pc L S M n k := fun H locs ls hR hN hl hS => lv_ldc2 g.1 g.2.1 g.2.2.2.1 (g.2.2.2.2.1 _ hw) hd (kk H locs ls hR hN hl hS)
theorem r_gt (g : G_ p s m args meth c cc nL own D M0) {C ref : String} {T : u_T} {N ci a i : Nat} {v : Value} (hc : vwCl[ci]? = some (C, T, N)) (hin : ∀ w ∈ u_ws C T N, w ∈ tbG_) (hk : kd_ M a = ci + 1) (j : Nat) (hj : j < N) (hlink : Cond.fieldLink own i ref (T j).2.1 (T j).2.2.1 ∈ tbG_) (hsame : ∀ x, s.fieldFound? (T j).1 (T j).2.1 (T j).2.2.1 = some x → s.fieldFound? ref (T j).2.1 (T j).2.2.1 = some x) (hv : fv_ M ci a j = v) (hd : decode cc pc = .ok (.getfield i, 3))
    (kk : V_ p l e R s m args below meth c nL D M0 Q (pc + 3) L (v :: S) M n k) : V_ p l e R s m args below meth c nL D M0 Q pc L (.ref a :: S) M n k := fun H locs ls hR hN hl hS => by
  obtain ⟨gx, gb, -, go, gt, gK, -⟩ := g
  have hci : ci < 12 := (List.getElem?_eq_some_iff.mp hc).1
  have hnf : nf_ ci = N := by unfold nf_; rw [hc]
  obtain ⟨cell, q1, q2, q3, q4⟩ := hR.obj hci hk
  rw [hnf] at q4
  obtain ⟨hSl, hfc, kC, hkC, hkind⟩ := gK.cls hc
  obtain ⟨cf, kf, fi, f, hi, hsl⟩ := hSl j hj
  refine W.getf gx gb go (gt _ hlink) (hsame _ hi) (u_facts hfc hkC (u_lays gt hin hj) hi).1 q1 (by rw [q3]; exact fun h => by cases h) (v := v) ?_ rfl rfl hd (kk H locs ls hR hN hl hS)
  rw [hsl, q4 j hj, hv]
theorem r_ptI (g : G_ p s m args meth c cc nL own D M0) {C ref : String} {T : u_T} {N ci a i : Nat} {x : Int32} (hc : vwCl[ci]? = some (C, T, N)) (hin : ∀ w ∈ u_ws C T N, w ∈ tbG_) (ty0 : Nat → FieldType) (hty : ∀ k, k < N → parseFieldDescriptor (T k).2.2.1 = some (ty0 k)) (hnm : ∀ a, a < N → ∀ b, b < N → a ≠ b → (T a).2.1 ≠ (T b).2.1) (hk : kd_ M a = ci + 1) (j : Nat) (hj : j < N) (hlink : Cond.fieldLink own i ref (T j).2.1 (T j).2.2.1 ∈ tbG_) (hsame : ∀ x, s.fieldFound? (T j).1 (T j).2.1 (T j).2.2.1 = some x → s.fieldFound? ref (T j).2.1 (T j).2.2.1 = some x) (hfin : (T j).2.2.2 = false) (hft : ft_ ci j = 0)  (hn : narrow (ty0 j) (.int x) = .int x) (hf : fits (ty0 j) (.int x) = true) (hd : decode cc pc = .ok (.putfield i, 3))
    (kk : V_ p l e R s m args below meth c nL D M0 Q (pc + 3) L S (sI_ M a j x) n k) : V_ p l e R s m args below meth c nL D M0 Q pc L (.int x :: .ref a :: S) M n k := fun H locs ls hR hN hl hS => by
  obtain ⟨gx, gb, -, go, gt, gK, -⟩ := g
  have hci : ci < 12 := (List.getElem?_eq_some_iff.mp hc).1
  have hnf : nf_ ci = N := by unfold nf_; rw [hc]
  have hlt := hR.lt (a := a) (by omega)
  obtain ⟨cell, q1, q2, q3, q4⟩ := hR.obj hci hk
  rw [hnf] at q4
  obtain ⟨hSl, hfc, kC, hkC, hkind⟩ := gK.cls hc
  have hap : ∀ x y, x < N → y < N → x ≠ y → D.1.2 ci x ≠ D.1.2 ci y := by
    intro x y hx hy hne
    obtain ⟨_, _, _, fa, hia, ea⟩ := hSl x hx
    obtain ⟨_, _, _, fb, hib, eb⟩ := hSl y hy
    rw [← ea, ← eb]
    refine u_apart (u_lays gt hin hx) (u_lays gt hin hy) hia hib ?_
    rw [(State.fieldFound?_type hia (hty x hx)).1, (State.fieldFound?_type hib (hty y hy)).1]
    exact hnm x hx y hy hne
  obtain ⟨cf, kf, fi, f, hi, hsl⟩ := hSl j hj
  have hlay := gt _ (hin _ (u_in_lay hj))
  unfold u_lay at hlay
  have hst := (u_facts hfc hkC (u_lays gt hin hj) hi).1
  have hb0 := (hR.2.2.2.2 a).1.1 ci hci hk
  rw [if_neg (by rw [hfin]; decide)] at hlay
  have h6 := u_store hfc hkC hkind hlay hi (hty j hj) hn hf
  refine W.putK gx gb (f := f) ⟨go, gt _ hlink, ⟨_, _, _, hsame _ hi⟩, hst⟩ (by rw [q2]; exact h6) q1 q3 (by rw [hsl]; exact k2_hasslot (q4 j hj)) rfl rfl hd fun H' e1 e2 e3 => ?_
  rw [hsl] at e1 ⊢
  have hcO : cO_ D (sI_ M a j x) H' a := by
    intro ci' hci' hk'
    have hk2 : kd_ M a = ci' + 1 := hk'
    have hcc : ci' = ci := by omega
    subst hcc
    rw [hnf]
    refine ⟨⟨_, e1, q2, q3, fun z hz => (t_set q4 hap hj _ z hz).trans ?_⟩, ?_⟩
    · by_cases hzj : z = j
      · subst hzj
        simp [updV, fv_, hft, it_sI]
      · simp [updV, fv_, hzj, rf_, it_, lg_, sR_, sI_, sL_, up2_]
    · intro z hz
      have := hb0.2 z hz
      by_cases hzj : z = j
      · subst hzj
        rw [it_sI, if_pos ⟨rfl, rfl⟩]
        omega
      · rw [it_sI, if_neg (fun h => hzj h.2)]
        exact this
  have hcA : cA_ D (sI_ M a j x) H' a := by
    intro t ht hk'
    have hk2 : kd_ M a = 20 + t := hk'
    omega
  have hagg : ag_ M (sI_ M a j x) a := ag_sI _ _ _ _
  refine kk H' _ ls (hR.set (a := a) (by omega) hagg e2 e3 (fun cell2 h2 => ?_) ⟨hcO, hcA⟩) (hN.same rfl) hl (hS.put e2 e3 ?_)
  · rw [q1] at h2
    cases h2
    rw [q3]
    rfl
  · exact hN.aw hS.1 (Or.inl ⟨by omega, by omega⟩)
theorem r_ptZ (g : G_ p s m args meth c cc nL own D M0) {C ref : String} {T : u_T} {N ci a i : Nat} {x : Int32} (hc : vwCl[ci]? = some (C, T, N)) (hin : ∀ w ∈ u_ws C T N, w ∈ tbG_) (ty0 : Nat → FieldType) (hty : ∀ k, k < N → parseFieldDescriptor (T k).2.2.1 = some (ty0 k)) (hnm : ∀ a, a < N → ∀ b, b < N → a ≠ b → (T a).2.1 ≠ (T b).2.1) (hk : kd_ M a = ci + 1) (j : Nat) (hj : j < N) (hlink : Cond.fieldLink own i ref (T j).2.1 (T j).2.2.1 ∈ tbG_) (hsame : ∀ x, s.fieldFound? (T j).1 (T j).2.1 (T j).2.2.1 = some x → s.fieldFound? ref (T j).2.1 (T j).2.2.1 = some x) (hfin : (T j).2.2.2 = false) (hft : ft_ ci j = 3) (hbz : bz_ x) (hn : narrow (ty0 j) (.int x) = .int x) (hf : fits (ty0 j) (.int x) = true) (hd : decode cc pc = .ok (.putfield i, 3))
    (kk : V_ p l e R s m args below meth c nL D M0 Q (pc + 3) L S (sI_ M a j x) n k) : V_ p l e R s m args below meth c nL D M0 Q pc L (.int x :: .ref a :: S) M n k := fun H locs ls hR hN hl hS => by
  obtain ⟨gx, gb, -, go, gt, gK, -⟩ := g
  have hci : ci < 12 := (List.getElem?_eq_some_iff.mp hc).1
  have hnf : nf_ ci = N := by unfold nf_; rw [hc]
  have hlt := hR.lt (a := a) (by omega)
  obtain ⟨cell, q1, q2, q3, q4⟩ := hR.obj hci hk
  rw [hnf] at q4
  obtain ⟨hSl, hfc, kC, hkC, hkind⟩ := gK.cls hc
  have hap : ∀ x y, x < N → y < N → x ≠ y → D.1.2 ci x ≠ D.1.2 ci y := by
    intro x y hx hy hne
    obtain ⟨_, _, _, fa, hia, ea⟩ := hSl x hx
    obtain ⟨_, _, _, fb, hib, eb⟩ := hSl y hy
    rw [← ea, ← eb]
    refine u_apart (u_lays gt hin hx) (u_lays gt hin hy) hia hib ?_
    rw [(State.fieldFound?_type hia (hty x hx)).1, (State.fieldFound?_type hib (hty y hy)).1]
    exact hnm x hx y hy hne
  obtain ⟨cf, kf, fi, f, hi, hsl⟩ := hSl j hj
  have hlay := gt _ (hin _ (u_in_lay hj))
  unfold u_lay at hlay
  have hst := (u_facts hfc hkC (u_lays gt hin hj) hi).1
  have hb0 := (hR.2.2.2.2 a).1.1 ci hci hk
  rw [if_neg (by rw [hfin]; decide)] at hlay
  have h6 := u_store hfc hkC hkind hlay hi (hty j hj) hn hf
  refine W.putK gx gb (f := f) ⟨go, gt _ hlink, ⟨_, _, _, hsame _ hi⟩, hst⟩ (by rw [q2]; exact h6) q1 q3 (by rw [hsl]; exact k2_hasslot (q4 j hj)) rfl rfl hd fun H' e1 e2 e3 => ?_
  rw [hsl] at e1 ⊢
  have hcO : cO_ D (sI_ M a j x) H' a := by
    intro ci' hci' hk'
    have hk2 : kd_ M a = ci' + 1 := hk'
    have hcc : ci' = ci := by omega
    subst hcc
    rw [hnf]
    refine ⟨⟨_, e1, q2, q3, fun z hz => (t_set q4 hap hj _ z hz).trans ?_⟩, ?_⟩
    · by_cases hzj : z = j
      · subst hzj
        simp [updV, fv_, hft, it_sI]
      · simp [updV, fv_, hzj, rf_, it_, lg_, sR_, sI_, sL_, up2_]
    · intro z hz
      have := hb0.2 z hz
      by_cases hzj : z = j
      · subst hzj
        rw [it_sI, if_pos ⟨rfl, rfl⟩]
        exact hbz
      · rw [it_sI, if_neg (fun h => hzj h.2)]
        exact this
  have hcA : cA_ D (sI_ M a j x) H' a := by
    intro t ht hk'
    have hk2 : kd_ M a = 20 + t := hk'
    omega
  have hagg : ag_ M (sI_ M a j x) a := ag_sI _ _ _ _
  refine kk H' _ ls (hR.set (a := a) (by omega) hagg e2 e3 (fun cell2 h2 => ?_) ⟨hcO, hcA⟩) (hN.same rfl) hl (hS.put e2 e3 ?_)
  · rw [q1] at h2
    cases h2
    rw [q3]
    rfl
  · exact hN.aw hS.1 (Or.inl ⟨by omega, by omega⟩)
theorem r_ptL (g : G_ p s m args meth c cc nL own D M0) {C ref : String} {T : u_T} {N ci a i : Nat} {x : Int64} (hc : vwCl[ci]? = some (C, T, N)) (hin : ∀ w ∈ u_ws C T N, w ∈ tbG_) (ty0 : Nat → FieldType) (hty : ∀ k, k < N → parseFieldDescriptor (T k).2.2.1 = some (ty0 k)) (hnm : ∀ a, a < N → ∀ b, b < N → a ≠ b → (T a).2.1 ≠ (T b).2.1) (hk : kd_ M a = ci + 1) (j : Nat) (hj : j < N) (hlink : Cond.fieldLink own i ref (T j).2.1 (T j).2.2.1 ∈ tbG_) (hsame : ∀ x, s.fieldFound? (T j).1 (T j).2.1 (T j).2.2.1 = some x → s.fieldFound? ref (T j).2.1 (T j).2.2.1 = some x) (hfin : (T j).2.2.2 = false) (hft : ft_ ci j = 1)  (hn : narrow (ty0 j) (.long x) = .long x) (hf : fits (ty0 j) (.long x) = true) (hd : decode cc pc = .ok (.putfield i, 3))
    (kk : V_ p l e R s m args below meth c nL D M0 Q (pc + 3) L S (sL_ M a j x) n k) : V_ p l e R s m args below meth c nL D M0 Q pc L (.long x :: .ref a :: S) M n k := fun H locs ls hR hN hl hS => by
  obtain ⟨gx, gb, -, go, gt, gK, -⟩ := g
  have hci : ci < 12 := (List.getElem?_eq_some_iff.mp hc).1
  have hnf : nf_ ci = N := by unfold nf_; rw [hc]
  have hlt := hR.lt (a := a) (by omega)
  obtain ⟨cell, q1, q2, q3, q4⟩ := hR.obj hci hk
  rw [hnf] at q4
  obtain ⟨hSl, hfc, kC, hkC, hkind⟩ := gK.cls hc
  have hap : ∀ x y, x < N → y < N → x ≠ y → D.1.2 ci x ≠ D.1.2 ci y := by
    intro x y hx hy hne
    obtain ⟨_, _, _, fa, hia, ea⟩ := hSl x hx
    obtain ⟨_, _, _, fb, hib, eb⟩ := hSl y hy
    rw [← ea, ← eb]
    refine u_apart (u_lays gt hin hx) (u_lays gt hin hy) hia hib ?_
    rw [(State.fieldFound?_type hia (hty x hx)).1, (State.fieldFound?_type hib (hty y hy)).1]
    exact hnm x hx y hy hne
  obtain ⟨cf, kf, fi, f, hi, hsl⟩ := hSl j hj
  have hlay := gt _ (hin _ (u_in_lay hj))
  unfold u_lay at hlay
  have hst := (u_facts hfc hkC (u_lays gt hin hj) hi).1
  have hb0 := (hR.2.2.2.2 a).1.1 ci hci hk
  rw [if_neg (by rw [hfin]; decide)] at hlay
  have h6 := u_store hfc hkC hkind hlay hi (hty j hj) hn hf
  refine W.putK gx gb (f := f) ⟨go, gt _ hlink, ⟨_, _, _, hsame _ hi⟩, hst⟩ (by rw [q2]; exact h6) q1 q3 (by rw [hsl]; exact k2_hasslot (q4 j hj)) rfl rfl hd fun H' e1 e2 e3 => ?_
  rw [hsl] at e1 ⊢
  have hcO : cO_ D (sL_ M a j x) H' a := by
    intro ci' hci' hk'
    have hk2 : kd_ M a = ci' + 1 := hk'
    have hcc : ci' = ci := by omega
    subst hcc
    rw [hnf]
    refine ⟨⟨_, e1, q2, q3, fun z hz => (t_set q4 hap hj _ z hz).trans ?_⟩, ?_⟩
    · by_cases hzj : z = j
      · subst hzj
        simp [updV, fv_, hft, lg_sL]
      · simp [updV, fv_, hzj, rf_, it_, lg_, sR_, sI_, sL_, up2_]
    · intro z hz
      have := hb0.2 z hz
      exact this
  have hcA : cA_ D (sL_ M a j x) H' a := by
    intro t ht hk'
    have hk2 : kd_ M a = 20 + t := hk'
    omega
  have hagg : ag_ M (sL_ M a j x) a := ag_sL _ _ _ _
  refine kk H' _ ls (hR.set (a := a) (by omega) hagg e2 e3 (fun cell2 h2 => ?_) ⟨hcO, hcA⟩) (hN.same rfl) hl (hS.put e2 e3 ?_)
  · rw [q1] at h2
    cases h2
    rw [q3]
    rfl
  · exact hN.aw hS.1 (Or.inl ⟨by omega, by omega⟩)
theorem r_ptR (g : G_ p s m args meth c cc nL own D M0) {C ref : String} {T : u_T} {N ci a i : Nat} {x : Nat} (hc : vwCl[ci]? = some (C, T, N)) (hin : ∀ w ∈ u_ws C T N, w ∈ tbG_) (ty0 : Nat → FieldType) (hty : ∀ k, k < N → parseFieldDescriptor (T k).2.2.1 = some (ty0 k)) (hnm : ∀ a, a < N → ∀ b, b < N → a ≠ b → (T a).2.1 ≠ (T b).2.1) (hk : kd_ M a = ci + 1) (j : Nat) (hj : j < N) (hlink : Cond.fieldLink own i ref (T j).2.1 (T j).2.2.1 ∈ tbG_) (hsame : ∀ x, s.fieldFound? (T j).1 (T j).2.1 (T j).2.2.1 = some x → s.fieldFound? ref (T j).2.1 (T j).2.2.1 = some x) (hfin : (T j).2.2.2 = false) (hft : ft_ ci j = 2) (hx0 : x ≠ 0) (hn : narrow (ty0 j) (.ref x) = .ref x) (hf : fits (ty0 j) (.ref x) = true) (hd : decode cc pc = .ok (.putfield i, 3))
    (kk : V_ p l e R s m args below meth c nL D M0 Q (pc + 3) L S (sR_ M a j x) n k) : V_ p l e R s m args below meth c nL D M0 Q pc L (.ref x :: .ref a :: S) M n k := fun H locs ls hR hN hl hS => by
  obtain ⟨gx, gb, -, go, gt, gK, -⟩ := g
  have hci : ci < 12 := (List.getElem?_eq_some_iff.mp hc).1
  have hnf : nf_ ci = N := by unfold nf_; rw [hc]
  have hlt := hR.lt (a := a) (by omega)
  obtain ⟨cell, q1, q2, q3, q4⟩ := hR.obj hci hk
  rw [hnf] at q4
  obtain ⟨hSl, hfc, kC, hkC, hkind⟩ := gK.cls hc
  have hap : ∀ x y, x < N → y < N → x ≠ y → D.1.2 ci x ≠ D.1.2 ci y := by
    intro x y hx hy hne
    obtain ⟨_, _, _, fa, hia, ea⟩ := hSl x hx
    obtain ⟨_, _, _, fb, hib, eb⟩ := hSl y hy
    rw [← ea, ← eb]
    refine u_apart (u_lays gt hin hx) (u_lays gt hin hy) hia hib ?_
    rw [(State.fieldFound?_type hia (hty x hx)).1, (State.fieldFound?_type hib (hty y hy)).1]
    exact hnm x hx y hy hne
  obtain ⟨cf, kf, fi, f, hi, hsl⟩ := hSl j hj
  have hlay := gt _ (hin _ (u_in_lay hj))
  unfold u_lay at hlay
  have hst := (u_facts hfc hkC (u_lays gt hin hj) hi).1
  have hb0 := (hR.2.2.2.2 a).1.1 ci hci hk
  rw [if_neg (by rw [hfin]; decide)] at hlay
  have h6 := u_store hfc hkC hkind hlay hi (hty j hj) hn hf
  refine W.putK gx gb (f := f) ⟨go, gt _ hlink, ⟨_, _, _, hsame _ hi⟩, hst⟩ (by rw [q2]; exact h6) q1 q3 (by rw [hsl]; exact k2_hasslot (q4 j hj)) rfl rfl hd fun H' e1 e2 e3 => ?_
  rw [hsl] at e1 ⊢
  have hcO : cO_ D (sR_ M a j x) H' a := by
    intro ci' hci' hk'
    have hk2 : kd_ M a = ci' + 1 := hk'
    have hcc : ci' = ci := by omega
    subst hcc
    rw [hnf]
    refine ⟨⟨_, e1, q2, q3, fun z hz => (t_set q4 hap hj _ z hz).trans ?_⟩, ?_⟩
    · by_cases hzj : z = j
      · subst hzj
        simp [updV, fv_, hft, rf_sR, hx0, rv_pos]
      · simp [updV, fv_, hzj, rf_, it_, lg_, sR_, sI_, sL_, up2_]
    · intro z hz
      have := hb0.2 z hz
      exact this
  have hcA : cA_ D (sR_ M a j x) H' a := by
    intro t ht hk'
    have hk2 : kd_ M a = 20 + t := hk'
    omega
  have hagg : ag_ M (sR_ M a j x) a := ag_sR _ _ _ _
  refine kk H' _ ls (hR.set (a := a) (by omega) hagg e2 e3 (fun cell2 h2 => ?_) ⟨hcO, hcA⟩) (hN.same rfl) hl (hS.put e2 e3 ?_)
  · rw [q1] at h2
    cases h2
    rw [q3]
    rfl
  · exact hN.aw hS.1 (Or.inl ⟨by omega, by omega⟩)
theorem r_ptF (g : G_ p s m args meth c cc nL own D M0) {C ref : String} {T : u_T} {N ci a i : Nat} {x : Nat} (hc : vwCl[ci]? = some (C, T, N)) (hin : ∀ w ∈ u_ws C T N, w ∈ tbG_) (ty0 : Nat → FieldType) (hty : ∀ k, k < N → parseFieldDescriptor (T k).2.2.1 = some (ty0 k)) (hnm : ∀ a, a < N → ∀ b, b < N → a ≠ b → (T a).2.1 ≠ (T b).2.1) (hk : kd_ M a = ci + 1) (j : Nat) (hj : j < N) (hlink : Cond.fieldLink own i ref (T j).2.1 (T j).2.2.1 ∈ tbG_) (hsame : ∀ x, s.fieldFound? (T j).1 (T j).2.1 (T j).2.2.1 = some x → s.fieldFound? ref (T j).2.1 (T j).2.2.1 = some x) (hfin : (T j).2.2.2 = true) (hin2 : meth.name = "<init>") (hdecl : (T j).1 = own) (hft : ft_ ci j = 2) (hx0 : x ≠ 0) (hn : narrow (ty0 j) (.ref x) = .ref x) (hf : fits (ty0 j) (.ref x) = true) (hd : decode cc pc = .ok (.putfield i, 3))
    (kk : V_ p l e R s m args below meth c nL D M0 Q (pc + 3) L S (sR_ M a j x) n k) : V_ p l e R s m args below meth c nL D M0 Q pc L (.ref x :: .ref a :: S) M n k := fun H locs ls hR hN hl hS => by
  obtain ⟨gx, gb, -, go, gt, gK, -⟩ := g
  have hci : ci < 12 := (List.getElem?_eq_some_iff.mp hc).1
  have hnf : nf_ ci = N := by unfold nf_; rw [hc]
  have hlt := hR.lt (a := a) (by omega)
  obtain ⟨cell, q1, q2, q3, q4⟩ := hR.obj hci hk
  rw [hnf] at q4
  obtain ⟨hSl, hfc, kC, hkC, hkind⟩ := gK.cls hc
  have hap : ∀ x y, x < N → y < N → x ≠ y → D.1.2 ci x ≠ D.1.2 ci y := by
    intro x y hx hy hne
    obtain ⟨_, _, _, fa, hia, ea⟩ := hSl x hx
    obtain ⟨_, _, _, fb, hib, eb⟩ := hSl y hy
    rw [← ea, ← eb]
    refine u_apart (u_lays gt hin hx) (u_lays gt hin hy) hia hib ?_
    rw [(State.fieldFound?_type hia (hty x hx)).1, (State.fieldFound?_type hib (hty y hy)).1]
    exact hnm x hx y hy hne
  obtain ⟨cf, kf, fi, f, hi, hsl⟩ := hSl j hj
  have hlay := gt _ (hin _ (u_in_lay hj))
  unfold u_lay at hlay
  have hst := (u_facts hfc hkC (u_lays gt hin hj) hi).1
  have hb0 := (hR.2.2.2.2 a).1.1 ci hci hk
  rw [if_pos hfin] at hlay
  have hcf : m.cls = cf := by
    obtain ⟨_, _, c', _, _, _, -, -, hf', -, -, -, hown2, -⟩ := Cond.laysFinal_spec hlay
    have e1 : c' = cf := by have := hi.symm.trans hf'; simp at this; exact this.1.symm
    rw [hdecl] at hown2
    rw [← e1]; exact Option.some.inj (go.symm.trans hown2)
  have h6 := u_fits hfc hkC hkind (Or.inr hlay) hi (hty j hj) hn hf
  refine W.putFinK gx gb go (gt _ hlink) (hsame _ hi) hst hcf hin2 (by rw [q2]; exact h6) q1 q3 (by rw [hsl]; exact k2_hasslot (q4 j hj)) rfl rfl hd fun H' e1 e2 e3 => ?_
  rw [hsl] at e1 ⊢
  have hcO : cO_ D (sR_ M a j x) H' a := by
    intro ci' hci' hk'
    have hk2 : kd_ M a = ci' + 1 := hk'
    have hcc : ci' = ci := by omega
    subst hcc
    rw [hnf]
    refine ⟨⟨_, e1, q2, q3, fun z hz => (t_set q4 hap hj _ z hz).trans ?_⟩, ?_⟩
    · by_cases hzj : z = j
      · subst hzj
        simp [updV, fv_, hft, rf_sR, hx0, rv_pos]
      · simp [updV, fv_, hzj, rf_, it_, lg_, sR_, sI_, sL_, up2_]
    · intro z hz
      have := hb0.2 z hz
      exact this
  have hcA : cA_ D (sR_ M a j x) H' a := by
    intro t ht hk'
    have hk2 : kd_ M a = 20 + t := hk'
    omega
  have hagg : ag_ M (sR_ M a j x) a := ag_sR _ _ _ _
  refine kk H' _ ls (hR.set (a := a) (by omega) hagg e2 e3 (fun cell2 h2 => ?_) ⟨hcO, hcA⟩) (hN.same rfl) hl (hS.put e2 e3 ?_)
  · rw [q1] at h2
    cases h2
    rw [q3]
    rfl
  · exact hN.aw hS.1 (Or.inl ⟨by omega, by omega⟩)
theorem r_alen (g : G_ p s m args meth c cc nL own D M0) {a t : Nat} (ht : t < 7) (hk : kd_ M a = 20 + t ∨ kd_ M a = 30 + t) (hd : decode cc pc = .ok (.arraylength, 1)) (kk : V_ p l e R s m args below meth c nL D M0 Q (pc + 1) L (.int (Int32.ofNat (ln_ M a)) :: S) M n k) : V_ p l e R s m args below meth c nL D M0 Q pc L (.ref a :: S) M n k := fun H locs ls hR hN hl hS => by
  obtain ⟨gx, gb, -, go, gt, gK, -⟩ := g
  rcases hk with hk | hk
  · exact W.alen (n := Int32.ofNat (ln_ M a)) gx gb (hR.arr ht hk) ((gK.2.1 t ht).1 _ _) (by rw [arrV_size] <;> rfl) rfl rfl hd (kk H locs ls hR hN hl hS)
  · obtain ⟨cell, q1, q2, q3, q4, q5⟩ := (hR.2.2.2.2 a).1.2.2 t ht hk
    exact W.alen (n := Int32.ofNat (ln_ M a)) gx gb q1 q2 (by rw [q4] <;> rfl) rfl rfl hd (kk H locs ls hR hN hl hS)
theorem r_iald (g : G_ p s m args meth c cc nL own D M0) {a : Nat} {i : Int32} (hk : kd_ M a = 20 ∨ kd_ M a = 30) (hin : vp_in i (ln_ M a)) (hd : decode cc pc = .ok (.iaload, 1)) (kk : V_ p l e R s m args below meth c nL D M0 Q (pc + 1) L (.int (it_ M a (ix_ i)) :: S) M n k) : V_ p l e R s m args below meth c nL D M0 Q pc L (.int i :: .ref a :: S) M n k := fun H locs ls hR hN hl hS => by
  obtain ⟨gx, gb, -, go, gt, gK, -⟩ := g
  have hlt : i.toNatClampNeg < ln_ M a := Nat.not_le.mp fun q => hin (Or.inr q)
  rcases hk with hk | hk
  · exact W.iald (v := .int (it_ M a (ix_ i))) gx gb (hR.arr (t := 0) (by decide) hk) ((gK.2.1 0 (by decide)).1 _ _) (fun q => by cases q) (by rw [arrV_size]; exact hin) (by rw [arrV_read _ _ hlt]; rfl) rfl rfl hd (kk H locs ls hR hN hl hS)
  · obtain ⟨cell, q1, q2, q3, q4, q5⟩ := (hR.2.2.2.2 a).1.2.2 0 (by decide) hk
    exact W.iald (v := .int (it_ M a (ix_ i))) gx gb q1 q2 q3 (by rw [q4]; exact hin) (q5 _ hlt) rfl rfl hd (kk H locs ls hR hN hl hS)
theorem r_zald (g : G_ p s m args meth c cc nL own D M0) {a : Nat} {i : Int32} (hk : kd_ M a = 21) (hin : vp_in i (ln_ M a)) (hd : decode cc pc = .ok (.baload, 1)) (kk : bz_ (it_ M a (ix_ i)) → V_ p l e R s m args below meth c nL D M0 Q (pc + 1) L (.int (it_ M a (ix_ i)) :: S) M n k) : V_ p l e R s m args below meth c nL D M0 Q pc L (.int i :: .ref a :: S) M n k := fun H locs ls hR hN hl hS => by
  obtain ⟨gx, gb, -, go, gt, gK, -⟩ := g
  have hlt : i.toNatClampNeg < ln_ M a := Nat.not_le.mp fun q => hin (Or.inr q)
  exact W.zald (v := .int (it_ M a (ix_ i))) gx gb (hR.arr (t := 1) (by decide) hk) ((gK.2.1 1 (by decide)).1 _ _) (fun q => by cases q) (by rw [arrV_size]; exact hin) (by rw [arrV_read _ _ hlt]; rfl) rfl rfl hd (kk (((hR.2.2.2.2 a).1.2.1 1 (by decide) hk).2 rfl _ hlt) H locs ls hR hN hl hS)
theorem r_lald (g : G_ p s m args meth c cc nL own D M0) {a : Nat} {i : Int32} (hk : kd_ M a = 22) (hin : vp_in i (ln_ M a)) (hd : decode cc pc = .ok (.laload, 1)) (kk : V_ p l e R s m args below meth c nL D M0 Q (pc + 1) L (.long (lg_ M a (ix_ i)) :: S) M n k) : V_ p l e R s m args below meth c nL D M0 Q pc L (.int i :: .ref a :: S) M n k := fun H locs ls hR hN hl hS => by
  obtain ⟨gx, gb, -, go, gt, gK, -⟩ := g
  have hlt : i.toNatClampNeg < ln_ M a := Nat.not_le.mp fun q => hin (Or.inr q)
  exact W.lald (v := .long (lg_ M a (ix_ i))) gx gb (hR.arr (t := 2) (by decide) hk) ((gK.2.1 2 (by decide)).1 _ _) (fun q => by cases q) (by rw [arrV_size]; exact hin) (by rw [arrV_read _ _ hlt]; rfl) rfl rfl hd (kk H locs ls hR hN hl hS)
theorem r_aald (g : G_ p s m args meth c cc nL own D M0) {a t : Nat} {i : Int32} (h3 : 3 ≤ t) (ht : t < 7) (hk : kd_ M a = 20 + t) (hin : vp_in i (ln_ M a)) (hd : decode cc pc = .ok (.aaload, 1)) (kk : V_ p l e R s m args below meth c nL D M0 Q (pc + 1) L (rv_ (rf_ M a (ix_ i)) :: S) M n k) : V_ p l e R s m args below meth c nL D M0 Q pc L (.int i :: .ref a :: S) M n k := fun H locs ls hR hN hl hS => by
  obtain ⟨gx, gb, -, go, gt, gK, -⟩ := g
  have hlt : i.toNatClampNeg < ln_ M a := Nat.not_le.mp fun q => hin (Or.inr q)
  have hav : av_ M t a i.toNatClampNeg = rv_ (rf_ M a (ix_ i)) := by
    unfold av_
    rw [if_neg (by omega), if_neg (by omega)]
    rfl
  have hr : (ty_ t).isReference = true := by
    rcases (show t = 3 ∨ t = 4 ∨ t = 5 ∨ t = 6 by omega) with rfl | rfl | rfl | rfl <;> rfl
  exact W.aald (v := rv_ (rf_ M a (ix_ i))) (ty := ty_ t) gx gb (hR.arr ht hk) ((gK.2.1 t ht).1 _ _) hr (fun q => by cases q) (by rw [arrV_size]; exact hin) (by rw [arrV_read _ _ hlt, hav]) rfl rfl hd (kk H locs ls hR hN hl hS)
theorem r_iast (g : G_ p s m args meth c cc nL own D M0) {a : Nat} {i : Int32} {x : Int32} (hk : kd_ M a = 20) (hin : vp_in i (ln_ M a)) (hd : decode cc pc = .ok (.iastore, 1)) (kk : V_ p l e R s m args below meth c nL D M0 Q (pc + 1) L S (sI_ M a (ix_ i) x) n k) : V_ p l e R s m args below meth c nL D M0 Q pc L (.int x :: .int i :: .ref a :: S) M n k := fun H locs ls hR hN hl hS => by
  obtain ⟨gx, gb, -, go, gt, gK, -⟩ := g
  have hlt : i.toNatClampNeg < ln_ M a := Nat.not_le.mp fun q => hin (Or.inr q)
  obtain ⟨q1, q2⟩ := (hR.2.2.2.2 a).1.2.1 0 (by decide) hk
  refine W.iast gx gb q1 ((gK.2.1 0 (by decide)).1 _ _) (fun q => by cases q) (by rw [arrV_size]; exact hin) rfl rfl hd fun H' e1 e2 e3 => ?_
  rw [arrV_store] at e1
  have hcO : cO_ D (sI_ M a (ix_ i) x) H' a := by
    intro ci hci hk'
    have hk2 : kd_ M a = ci + 1 := hk'
    omega
  have hcA : cA_ D (sI_ M a (ix_ i) x) H' a := by
    intro t ht hk'
    have hk2 : kd_ M a = 20 + t := hk'
    have htt : t = 0 := by omega
    subst htt
    refine ⟨e1.trans ?_, ?_⟩
    · show some (arrV _ (ln_ M a) _) = some (arrV _ (ln_ M a) _)
      congr 2
      funext z
      by_cases hz : z = i.toNatClampNeg
      · subst hz
        simp [updV, av_, it_, lg_, sI_, sL_, up2_, ix_]
      · simp [updV, av_, it_, lg_, rf_, sI_, sL_, up2_, ix_, hz]
    · intro ht1 z hz
      omega
  refine kk H' _ ls (hR.set (a := a) (by omega) (ag_sI _ _ _ _) e2 e3 (fun cell2 h2 => ?_) ⟨hcO, hcA⟩) (hN.same rfl) hl (hS.put e2 e3 ?_)
  · rw [q1] at h2
    cases h2
    rfl
  · exact hN.aw hS.1 (Or.inl ⟨by omega, by omega⟩)
theorem r_zast (g : G_ p s m args meth c cc nL own D M0) {a : Nat} {i : Int32} {x : Int32} (hk : kd_ M a = 21) (hin : vp_in i (ln_ M a)) (hbz : bz_ x) (hd : decode cc pc = .ok (.bastore, 1)) (kk : V_ p l e R s m args below meth c nL D M0 Q (pc + 1) L S (sI_ M a (ix_ i) x) n k) : V_ p l e R s m args below meth c nL D M0 Q pc L (.int x :: .int i :: .ref a :: S) M n k := fun H locs ls hR hN hl hS => by
  obtain ⟨gx, gb, -, go, gt, gK, -⟩ := g
  have hlt : i.toNatClampNeg < ln_ M a := Nat.not_le.mp fun q => hin (Or.inr q)
  obtain ⟨q1, q2⟩ := (hR.2.2.2.2 a).1.2.1 1 (by decide) hk
  refine W.zast gx gb q1 ((gK.2.1 1 (by decide)).1 _ _) (fun q => by cases q) (by rw [arrV_size]; exact hin) rfl rfl hd fun H' e1 e2 e3 => ?_
  rw [arrV_store] at e1
  have hcO : cO_ D (sI_ M a (ix_ i) x) H' a := by
    intro ci hci hk'
    have hk2 : kd_ M a = ci + 1 := hk'
    omega
  have hcA : cA_ D (sI_ M a (ix_ i) x) H' a := by
    intro t ht hk'
    have hk2 : kd_ M a = 20 + t := hk'
    have htt : t = 1 := by omega
    subst htt
    refine ⟨e1.trans ?_, ?_⟩
    · show some (arrV _ (ln_ M a) _) = some (arrV _ (ln_ M a) _)
      congr 2
      funext z
      by_cases hz : z = i.toNatClampNeg
      · subst hz
        rcases hbz with rfl | rfl <;> simp [updV, av_, it_, lg_, sI_, sL_, up2_, ix_, narrow]
      · simp [updV, av_, it_, lg_, rf_, sI_, sL_, up2_, ix_, hz]
    · intro ht1 z hz
      have := q2 rfl z hz
      by_cases hzi : z = ix_ i
      · subst hzi
        rw [it_sI, if_pos ⟨rfl, rfl⟩]
        exact hbz
      · rw [it_sI, if_neg (fun h => hzi h.2)]
        exact this
  refine kk H' _ ls (hR.set (a := a) (by omega) (ag_sI _ _ _ _) e2 e3 (fun cell2 h2 => ?_) ⟨hcO, hcA⟩) (hN.same rfl) hl (hS.put e2 e3 ?_)
  · rw [q1] at h2
    cases h2
    rfl
  · exact hN.aw hS.1 (Or.inl ⟨by omega, by omega⟩)
theorem r_last (g : G_ p s m args meth c cc nL own D M0) {a : Nat} {i : Int32} {x : Int64} (hk : kd_ M a = 22) (hin : vp_in i (ln_ M a)) (hd : decode cc pc = .ok (.lastore, 1)) (kk : V_ p l e R s m args below meth c nL D M0 Q (pc + 1) L S (sL_ M a (ix_ i) x) n k) : V_ p l e R s m args below meth c nL D M0 Q pc L (.long x :: .int i :: .ref a :: S) M n k := fun H locs ls hR hN hl hS => by
  obtain ⟨gx, gb, -, go, gt, gK, -⟩ := g
  have hlt : i.toNatClampNeg < ln_ M a := Nat.not_le.mp fun q => hin (Or.inr q)
  obtain ⟨q1, q2⟩ := (hR.2.2.2.2 a).1.2.1 2 (by decide) hk
  refine W.last gx gb q1 ((gK.2.1 2 (by decide)).1 _ _) (fun q => by cases q) (by rw [arrV_size]; exact hin) rfl rfl hd fun H' e1 e2 e3 => ?_
  rw [arrV_store] at e1
  have hcO : cO_ D (sL_ M a (ix_ i) x) H' a := by
    intro ci hci hk'
    have hk2 : kd_ M a = ci + 1 := hk'
    omega
  have hcA : cA_ D (sL_ M a (ix_ i) x) H' a := by
    intro t ht hk'
    have hk2 : kd_ M a = 20 + t := hk'
    have htt : t = 2 := by omega
    subst htt
    refine ⟨e1.trans ?_, ?_⟩
    · show some (arrV _ (ln_ M a) _) = some (arrV _ (ln_ M a) _)
      congr 2
      funext z
      by_cases hz : z = i.toNatClampNeg
      · subst hz
        simp [updV, av_, it_, lg_, sI_, sL_, up2_, ix_]
      · simp [updV, av_, it_, lg_, rf_, sI_, sL_, up2_, ix_, hz]
    · intro ht1 z hz
      omega
  refine kk H' _ ls (hR.set (a := a) (by omega) (ag_sL _ _ _ _) e2 e3 (fun cell2 h2 => ?_) ⟨hcO, hcA⟩) (hN.same rfl) hl (hS.put e2 e3 ?_)
  · rw [q1] at h2
    cases h2
    rfl
  · exact hN.aw hS.1 (Or.inl ⟨by omega, by omega⟩)
end ROWS
end
section
/-! new cells, casts, library members, calls, ends: rows of V_ -/
def dv_ (ci k : Nat) : Value := if ft_ ci k = 2 then .null else if ft_ ci k = 1 then .long 0 else .int 0
theorem fv_new (M : Mm) (q c n ci k : Nat) : fv_ (nw_ M q c n) ci q k = dv_ ci k := by
  unfold fv_ dv_ nw_ rf_ it_ lg_ rw2_
  simp [rv_]
theorem av_R {M : Mm} {t a j : Nat} (h : 3 ≤ t) : av_ M t a j = rv_ (rf_ M a j) := by
  unfold av_
  rw [if_neg (by omega), if_neg (by omega)]
/-- a call's start, its world -/
abbrev cPc_ (D : Dd_) (M : Mm) (sz : Nat) (As : List Value) : Array Value → State → Prop := va_Pc As (fun U => U.heap.size = sz ∧ Rp_ U D M U.heap ∧ Kn_ D U)
abbrev cB_ (D : Dd_) (M : Mm) (sz : Nat) : Mm → State → Prop := fun M' t => Rp_ t D M' t.heap ∧ Nw_ M sz M'
theorem cPc_blind (D : Dd_) (M : Mm) (sz : Nat) (As : List Value) : FrameBlind (cPc_ D M sz As) := fun a U g mk h => by
  obtain ⟨h1, h2, h3, h4⟩ := h
  exact ⟨h1, h2, Rp_.moved (u := U) (U := U.calling g mk a) (Vm.Alike.refl U.vm) h3, Kn_.same (u := U) (U := U.calling g mk a) rfl h4⟩

section ROWS
variable {p : Program} {l : Launch} {e : Env} {R : Room} {s : State} {m : MethodId} {args : Array Value} {below : List Frame} {meth : Method} {c : Code} {cc : ByteArray} {nL : Nat} {own : String} {D : Dd_} {M0 : Mm} {Q : State → Prop}
variable {pc : Nat} {L L' : List (Nat × Value)} {S : List Value} {M : Mm} {n k : Nat}

theorem r_oinit (g : G_ p s m args meth c cc nL own D M0) {i a : Nat} (w1 : Cond.methodLink own i objectInit ∈ tbG_) (w2 : Cond.instanceMethod objectInit ∈ tbG_) (w3 : Cond.code objectInit ⟨#[0xb1]⟩ 1 none ∈ tbG_) (hd : decode cc pc = .ok (.invokespecial i, 3)) (hf : 1 ≤ R.frames) (hlo : (S.map fun v => v.category).sum + 12 ≤ R.locals) (kk : V_ p l e R s m args below meth c nL D M0 Q (pc + 3) L S M n k) : V_ p l e R s m args below meth c nL D M0 Q pc L (.ref a :: S) M n k := fun H locs ls hR hN hl hS => by
  obtain ⟨gx, gb, gml, go, gt, -⟩ := g
  exact W.objInit gx gb go (gt _ w1) (gt _ w2) (gt _ w3) rfl (by rw [gml]; exact hl.1) rfl hd hf (by show 2 * 0 + _ + 12 ≤ _; omega) (kk H locs ls hR hN hl hS)
theorem r_new (g : G_ p s m args meth c cc nL own D M0) {C : String} {T : u_T} {N ci i : Nat} (hc : vwCl[ci]? = some (C, T, N)) (hin : ∀ w ∈ u_ws C T N, w ∈ tbG_) (ty0 : Nat → FieldType) (hty : ∀ k, k < N → parseFieldDescriptor (T k).2.2.1 = some (ty0 k)) (w1 : Cond.classLink own i C ∈ tbG_) (w2 : Cond.instantiable C N ∈ tbG_) (w3 : Cond.initialized C ∈ tbG_) (hdv : ∀ j, j < N → defaultValue (ty0 j) = dv_ ci j) (h1 : n + 1 ≤ R.cells) (h2 : k + N ≤ R.slots) (hd : decode cc pc = .ok (.new i, 3))
    (kk : ∀ q, q ≠ 0 → kd_ M q = 0 → V_ p l e R s m args below meth c nL D M0 Q (pc + 3) L (.ref q :: S) (nw_ M q (ci + 1) 0) (n + 1) (k + N)) : V_ p l e R s m args below meth c nL D M0 Q pc L S M n k := fun H locs ls hR hN hl hS => by
  obtain ⟨gx, gb, -, go, gt, gK, -⟩ := g
  have hci : ci < 12 := (List.getElem?_eq_some_iff.mp hc).1
  have hnf : nf_ ci = N := by unfold nf_; rw [hc]
  have hKn := gK.cls hc
  have hq0 : kd_ M H.size = 0 := hR.fresh (Nat.le_refl _)
  refine W.newcK gx gb go (gt _ w1) (gt _ w2) (gt _ w3) rfl hd h1 h2 hKn.2.1 rfl fun H' kC hkC e1 e2 e3 => ?_
  refine kk H.size (by have := hR.1; omega) hq0 H' locs ls (hR.push rfl e2 e3 (Or.inl ⟨by omega, by omega⟩) (by omega) ⟨?_, ?_⟩) (hN.push hS.1 hq0) hl ⟨Nat.le_trans hS.1 (by omega), fun x z1 z2 => (e3 x (Nat.lt_of_lt_of_le z1 hS.1)).trans (hS.2.1 x z1 z2), hS.2.2⟩
  · intro ci' hci' hk'
    rw [kd_nq_] at hk'
    have hcc : ci' = ci := by omega
    subst hcc
    rw [hnf]
    refine ⟨(u_born ty0 gt hin hKn hkC e1 hty).to (fun j hj => by rw [fv_new]; exact hdv j hj), fun z _ => Or.inl ?_⟩
    show rw2_ M.2.2.1 H.size (fun _ => 0) H.size z = 0
    exact if_pos rfl
  · intro t ht hk'
    rw [kd_nq_] at hk'
    omega
theorem r_newI (g : G_ p s m args meth c cc nL own D M0) {x : Int32} (w1 : Cond.arrayClass .int ∈ tbG_) (hx : ¬ x < 0) (hxb : ix_ x ≤ 65536) (h1 : n + 1 ≤ R.cells) (h2 : k + ix_ x ≤ R.slots) (hd : decode cc pc = .ok (.newarray .int, 2))
    (kk : ∀ q, q ≠ 0 → kd_ M q = 0 → V_ p l e R s m args below meth c nL D M0 Q (pc + 2) L (.ref q :: S) (nw_ M q 20 (ix_ x)) (n + 1) (k + ix_ x)) : V_ p l e R s m args below meth c nL D M0 Q pc L (.int x :: S) M n k := fun H locs ls hR hN hl hS => by
  obtain ⟨gx, gb, -, go, gt, gK, -⟩ := g
  have hq0 : kd_ M H.size = 0 := hR.fresh (Nat.le_refl _)
  refine va_newaK (atype := .int) gx gb (gt _ w1) rfl hd rfl hx rfl (by show ix_ x * _ ≤ _; have : componentBytes (newarray.typeOf .int) ≤ 8 := (by decide); exact Nat.le_trans (Nat.mul_le_mul hxb this) (by decide)) h1 h2 rfl fun H' cA e1 e2 e3 hAr hNm => ?_
  have hcA : cA = D.2.1 0 := by
    have h9 : s.vm.findClass ("[" ++ (FieldType.int).toString) = some (D.2.1 0) := (gK.2.1 0 (by decide)).2
    exact Option.some.inj (hNm.symm.trans h9)
  subst hcA
  refine kk H.size (by have := hR.1; omega) hq0 H' locs ls (hR.push rfl e2 e3 (Or.inr (Or.inl ⟨by decide, by decide⟩)) (by decide) ⟨?_, ?_⟩) (hN.push hS.1 hq0) hl ⟨Nat.le_trans hS.1 (by omega), fun z z1 z2 => (e3 z (Nat.lt_of_lt_of_le z1 hS.1)).trans (hS.2.1 z z1 z2), hS.2.2⟩
  · intro ci' hci' hk'
    rw [kd_nq_] at hk'
    omega
  · intro t ht hk'
    rw [kd_nq_] at hk'
    have htt : t = 0 := by omega
    subst htt
    refine ⟨?_, fun z j hj => Or.inl (if_pos rfl)⟩
    rw [ln_nq_]
    refine e1.trans ?_
    congr 2
    funext j
    simp [av_, it_, lg_, nw_, rw2_, defaultValue, newarray.typeOf]
theorem r_newZ (g : G_ p s m args meth c cc nL own D M0) {x : Int32} (w1 : Cond.arrayClass .boolean ∈ tbG_) (hx : ¬ x < 0) (hxb : ix_ x ≤ 65536) (h1 : n + 1 ≤ R.cells) (h2 : k + ix_ x ≤ R.slots) (hd : decode cc pc = .ok (.newarray .boolean, 2))
    (kk : ∀ q, q ≠ 0 → kd_ M q = 0 → V_ p l e R s m args below meth c nL D M0 Q (pc + 2) L (.ref q :: S) (nw_ M q 21 (ix_ x)) (n + 1) (k + ix_ x)) : V_ p l e R s m args below meth c nL D M0 Q pc L (.int x :: S) M n k := fun H locs ls hR hN hl hS => by
  obtain ⟨gx, gb, -, go, gt, gK, -⟩ := g
  have hq0 : kd_ M H.size = 0 := hR.fresh (Nat.le_refl _)
  refine va_newaK (atype := .boolean) gx gb (gt _ w1) rfl hd rfl hx rfl (by show ix_ x * _ ≤ _; have : componentBytes (newarray.typeOf .boolean) ≤ 8 := (by decide); exact Nat.le_trans (Nat.mul_le_mul hxb this) (by decide)) h1 h2 rfl fun H' cA e1 e2 e3 hAr hNm => ?_
  have hcA : cA = D.2.1 1 := by
    have h9 : s.vm.findClass ("[" ++ (FieldType.boolean).toString) = some (D.2.1 1) := (gK.2.1 1 (by decide)).2
    exact Option.some.inj (hNm.symm.trans h9)
  subst hcA
  refine kk H.size (by have := hR.1; omega) hq0 H' locs ls (hR.push rfl e2 e3 (Or.inr (Or.inl ⟨by decide, by decide⟩)) (by decide) ⟨?_, ?_⟩) (hN.push hS.1 hq0) hl ⟨Nat.le_trans hS.1 (by omega), fun z z1 z2 => (e3 z (Nat.lt_of_lt_of_le z1 hS.1)).trans (hS.2.1 z z1 z2), hS.2.2⟩
  · intro ci' hci' hk'
    rw [kd_nq_] at hk'
    omega
  · intro t ht hk'
    rw [kd_nq_] at hk'
    have htt : t = 1 := by omega
    subst htt
    refine ⟨?_, fun z j hj => Or.inl (if_pos rfl)⟩
    rw [ln_nq_]
    refine e1.trans ?_
    congr 2
    funext j
    simp [av_, it_, lg_, nw_, rw2_, defaultValue, newarray.typeOf]
theorem r_newJ (g : G_ p s m args meth c cc nL own D M0) {x : Int32} (w1 : Cond.arrayClass .long ∈ tbG_) (hx : ¬ x < 0) (hxb : ix_ x ≤ 65536) (h1 : n + 1 ≤ R.cells) (h2 : k + ix_ x ≤ R.slots) (hd : decode cc pc = .ok (.newarray .long, 2))
    (kk : ∀ q, q ≠ 0 → kd_ M q = 0 → V_ p l e R s m args below meth c nL D M0 Q (pc + 2) L (.ref q :: S) (nw_ M q 22 (ix_ x)) (n + 1) (k + ix_ x)) : V_ p l e R s m args below meth c nL D M0 Q pc L (.int x :: S) M n k := fun H locs ls hR hN hl hS => by
  obtain ⟨gx, gb, -, go, gt, gK, -⟩ := g
  have hq0 : kd_ M H.size = 0 := hR.fresh (Nat.le_refl _)
  refine va_newaK (atype := .long) gx gb (gt _ w1) rfl hd rfl hx rfl (by show ix_ x * _ ≤ _; have : componentBytes (newarray.typeOf .long) ≤ 8 := (by decide); exact Nat.le_trans (Nat.mul_le_mul hxb this) (by decide)) h1 h2 rfl fun H' cA e1 e2 e3 hAr hNm => ?_
  have hcA : cA = D.2.1 2 := by
    have h9 : s.vm.findClass ("[" ++ (FieldType.long).toString) = some (D.2.1 2) := (gK.2.1 2 (by decide)).2
    exact Option.some.inj (hNm.symm.trans h9)
  subst hcA
  refine kk H.size (by have := hR.1; omega) hq0 H' locs ls (hR.push rfl e2 e3 (Or.inr (Or.inl ⟨by decide, by decide⟩)) (by decide) ⟨?_, ?_⟩) (hN.push hS.1 hq0) hl ⟨Nat.le_trans hS.1 (by omega), fun z z1 z2 => (e3 z (Nat.lt_of_lt_of_le z1 hS.1)).trans (hS.2.1 z z1 z2), hS.2.2⟩
  · intro ci' hci' hk'
    rw [kd_nq_] at hk'
    omega
  · intro t ht hk'
    rw [kd_nq_] at hk'
    have htt : t = 2 := by omega
    subst htt
    refine ⟨?_, fun z j hj => Or.inl (if_pos rfl)⟩
    rw [ln_nq_]
    refine e1.trans ?_
    congr 2
    funext j
    simp [av_, it_, lg_, nw_, rw2_, defaultValue, newarray.typeOf]
theorem r_newR (g : G_ p s m args meth c cc nL own D M0) {x : Int32} {C : String} {t i : Nat} (h3 : 3 ≤ t) (ht : t < 7) (hC : ty_ t = .object C) (w1 : Cond.classLink own i C ∈ tbG_) (w2 : Cond.arrayOver (.object C) ∈ xw_) (hx : ¬ x < 0) (hxb : ix_ x ≤ 65536) (h1 : n + 1 ≤ R.cells) (h2 : k + ix_ x ≤ R.slots) (hd : decode cc pc = .ok (.anewarray i, 3))
    (kk : ∀ q, q ≠ 0 → kd_ M q = 0 → V_ p l e R s m args below meth c nL D M0 Q (pc + 3) L (.ref q :: S) (nw_ M q (20 + t) (ix_ x)) (n + 1) (k + ix_ x)) : V_ p l e R s m args below meth c nL D M0 Q pc L (.int x :: S) M n k := fun H locs ls hR hN hl hS => by
  obtain ⟨gx, gb, -, go, gt, gK, -⟩ := g
  have hq0 : kd_ M H.size = 0 := hR.fresh (Nat.le_refl _)
  refine W.anew gx gb go (gt _ w1) (va_AO.use (gK.2.2 _ w2)) rfl hd rfl hx (by show ix_ x * 4 ≤ _; exact Nat.le_trans (Nat.mul_le_mul_right 4 hxb) (by decide)) h1 h2 fun cA kA comp f1 f2 f3 f4 => ?_
  generalize hH1 : H.push ({ cls := cA, slots := Array.replicate x.toNatClampNeg .null, vm := .none } : Cell) = H1
  have e2 : H1.size = H.size + 1 := by rw [← hH1, Array.size_push]
  have e1 : H1[H.size]? = some (arrV cA x.toNatClampNeg (fun _ => .null)) := by rw [← hH1, Array.getElem?_push_size, ← arrV_new]
  have e3 : ∀ q : Nat, q < H.size → H1[q]? = H[q]? := fun q hq => by rw [← hH1, Array.getElem?_push, if_neg (Nat.ne_of_lt hq)]
  have hcA : cA = D.2.1 t := by
    have h9 := (gK.2.1 t ht).2
    rw [hC] at h9
    obtain ⟨kA', comp', g1, g2, g3, g4⟩ := h9
    exact Option.some.inj (f1.symm.trans g4)
  subst hcA
  refine kk H.size (by have := hR.1; omega) hq0 H1 locs ls (hR.push rfl e2 e3 (Or.inr (Or.inl ⟨by omega, by omega⟩)) (by omega) ⟨?_, ?_⟩) (hN.push hS.1 hq0) hl ⟨Nat.le_trans hS.1 (by omega), fun z z1 z2 => (e3 z (Nat.lt_of_lt_of_le z1 hS.1)).trans (hS.2.1 z z1 z2), hS.2.2⟩
  · intro ci' hci' hk'
    rw [kd_nq_] at hk'
    omega
  · intro t' ht' hk'
    rw [kd_nq_] at hk'
    have htt : t' = t := by omega
    subst htt
    refine ⟨?_, fun z j hj => Or.inl (if_pos rfl)⟩
    rw [ln_nq_]
    refine e1.trans ?_
    show some (arrV _ (ix_ x) _) = some (arrV _ (ix_ x) _)
    congr 2
    funext j
    unfold av_
    rw [if_neg (by omega), if_neg (by omega)]
    simp [rf_, nw_, rw2_, rv_]
theorem r_aast_of (g : G_ p s m args meth c cc nL own D M0) {a v t : Nat} {i : Int32} (h3 : 3 ≤ t) (ht : t < 7) (hk : kd_ M a = 20 + t) (hin : vp_in i (ln_ M a)) (hv0 : v ≠ 0) (hd : decode cc pc = .ok (.aastore, 1))
    (hst : ∀ (H : Heap) (locs : List Loc) (ls : Array Slot), Rp_ s D M H → (∀ H' : Heap, H'[a]? = some ((arrV (D.2.1 t) (ln_ M a) (av_ M t a)).setSlot i.toNatClampNeg (.ref v)) → H'.size = H.size → (∀ q, q ≠ a → H'[q]? = H[q]?) → W p l e R s m args below meth c H' (locs ++ [⟨a, i.toNatClampNeg⟩]) n k Q (F0 m (pc + 1) ls S)) → W p l e R s m args below meth c H locs n k Q (F0 m pc ls (.ref v :: .int i :: .ref a :: S)))
    (kk : V_ p l e R s m args below meth c nL D M0 Q (pc + 1) L S (sR_ M a (ix_ i) v) n k) : V_ p l e R s m args below meth c nL D M0 Q pc L (.ref v :: .int i :: .ref a :: S) M n k := fun H locs ls hR hN hl hS => by
  refine hst H locs ls hR fun H' e1 e2 e3 => ?_
  rw [arrV_store] at e1
  have q1 := hR.arr ht hk
  refine kk H' _ ls (hR.set (a := a) (by omega) (ag_sR _ _ _ _) e2 e3 (fun cell2 h2 => ?_) ⟨?_, ?_⟩) (hN.same rfl) hl (hS.put e2 e3 (hN.aw hS.1 (Or.inl ⟨by omega, by omega⟩)))
  · rw [q1] at h2
    cases h2
    rfl
  · intro ci hci hk'
    have hk2 : kd_ M a = ci + 1 := hk'
    omega
  · intro t' ht' hk'
    have hk2 : kd_ M a = 20 + t' := hk'
    have htt : t' = t := by omega
    subst htt
    refine ⟨e1.trans ?_, fun z => by omega⟩
    show some (arrV _ (ln_ M a) _) = some (arrV _ (ln_ M a) _)
    congr 2
    funext z
    rw [av_R h3]
    unfold updV
    rw [av_R h3, rf_sR]
    by_cases hz : z = i.toNatClampNeg
    · subst hz
      rw [if_pos rfl, if_pos ⟨rfl, rfl⟩, rv_pos hv0]
    · rw [if_neg hz, if_neg (fun h => hz h.2)]
/-- into a row of its own class -/
theorem r_aast (g : G_ p s m args meth c cc nL own D M0) {a v t ci : Nat} {i : Int32} {C : String} {T : u_T} {N : Nat} (hc : vwCl[ci]? = some (C, T, N)) (h3 : 3 ≤ t) (ht : t < 7) (hC : ty_ t = .object C) (hk : kd_ M a = 20 + t) (hkv : kd_ M v = ci + 1) (hin : vp_in i (ln_ M a)) (hd : decode cc pc = .ok (.aastore, 1))
    (kk : V_ p l e R s m args below meth c nL D M0 Q (pc + 1) L S (sR_ M a (ix_ i) v) n k) : V_ p l e R s m args below meth c nL D M0 Q pc L (.ref v :: .int i :: .ref a :: S) M n k := fun H locs ls hR hN hl hS => by
  have hv0 : v ≠ 0 := hR.ne0 (by omega)
  refine r_aast_of g h3 ht hk hin hv0 hd (fun H locs ls hR k9 => ?_) kk H locs ls hR hN hl hS
  obtain ⟨gx, gb, -, go, gt, gK, -⟩ := g
  have hci : ci < 12 := (List.getElem?_eq_some_iff.mp hc).1
  have hlt : i.toNatClampNeg < ln_ M a := Nat.not_le.mp fun q => hin (Or.inr q)
  have h0 : ¬ i < 0 := fun q => hin (Or.inl q)
  obtain ⟨cellV, g1, g2, g3, -⟩ := hR.obj hci hkv
  have hcls := (gK.cls hc).2
  have h9 := (gK.2.1 t ht).2
  rw [hC] at h9
  obtain ⟨kA, comp, k1, k2, k3, -⟩ := h9
  have hcomp : comp = D.1.1 ci := Option.some.inj (k3.symm.trans hcls.1)
  subst hcomp
  obtain ⟨kC, hkC, -⟩ := hcls.2
  exact W.aast gx gb (hR.arr ht hk) (fun q h => by cases h) (fun h => by cases h) k1 k2 rfl hkC ⟨h0, by show _ < (arrV _ _ _).slots.size; rw [arrV_size]; exact hlt⟩ g1 (fun q h => by rw [g3] at h; cases h) (by rw [g2]; exact hkC) (by rw [g2]; exact va_assign hcls) rfl rfl hd k9
/-- into a row of objects, by a word that says so -/
theorem r_aastO (g : G_ p s m args meth c cc nL own D M0) {a v ci : Nat} {i : Int32} {C : String} {T : u_T} {N : Nat} (hc : vwCl[ci]? = some (C, T, N)) (w1 : Cond.castable C "java/lang/Object" ∈ xw_) (hk : kd_ M a = 26) (hkv : kd_ M v = ci + 1) (hin : vp_in i (ln_ M a)) (hd : decode cc pc = .ok (.aastore, 1))
    (kk : V_ p l e R s m args below meth c nL D M0 Q (pc + 1) L S (sR_ M a (ix_ i) v) n k) : V_ p l e R s m args below meth c nL D M0 Q pc L (.ref v :: .int i :: .ref a :: S) M n k := fun H locs ls hR hN hl hS => by
  have hv0 : v ≠ 0 := hR.ne0 (by omega)
  refine r_aast_of (t := 6) g (by decide) (by decide) hk hin hv0 hd (fun H locs ls hR k9 => ?_) kk H locs ls hR hN hl hS
  obtain ⟨gx, gb, -, go, gt, gK, -⟩ := g
  have hci : ci < 12 := (List.getElem?_eq_some_iff.mp hc).1
  have hlt : i.toNatClampNeg < ln_ M a := Nat.not_le.mp fun q => hin (Or.inr q)
  have h0 : ¬ i < 0 := fun q => hin (Or.inl q)
  obtain ⟨cellV, g1, g2, g3, -⟩ := hR.obj hci hkv
  have hcls := (gK.cls hc).2
  obtain ⟨kA, comp, k1, k2, k3, -⟩ := (gK.2.1 6 (by decide)).2
  obtain ⟨kC, hkC, -⟩ := hcls.2
  obtain ⟨kE, hkE, -⟩ := Vm.findClass_spec k3
  obtain ⟨c3, c4, hc3, hc4, hasg⟩ := Cond.castable_spec (args := args) (va_Nw.use rfl (gK.2.2 _ w1))
  cases Option.some.inj (hc3.symm.trans hcls.1)
  cases Option.some.inj (hc4.symm.trans k3)
  exact W.aast gx gb (hR.arr (t := 6) (by decide) hk) (fun q h => by cases h) (fun h => by cases h) k1 k2 rfl hkE ⟨h0, by show _ < (arrV _ _ _).slots.size; rw [arrV_size]; exact hlt⟩ g1 (fun q h => by rw [g3] at h; cases h) (by rw [g2]; exact hkC) (by rw [g2]; exact hasg) rfl rfl hd k9
theorem r_aastN (g : G_ p s m args meth c cc nL own D M0) {a : Nat} {i : Int32} (hk : kd_ M a = 26) (hin : vp_in i (ln_ M a)) (hd : decode cc pc = .ok (.aastore, 1))
    (kk : V_ p l e R s m args below meth c nL D M0 Q (pc + 1) L S (sR_ M a (ix_ i) 0) n k) : V_ p l e R s m args below meth c nL D M0 Q pc L (rv_ 0 :: .int i :: .ref a :: S) M n k := fun H locs ls hR hN hl hS => by
  obtain ⟨gx, gb, -, go, gt, gK, -⟩ := g
  have hlt : i.toNatClampNeg < ln_ M a := Nat.not_le.mp fun q => hin (Or.inr q)
  have q1 := hR.arr (t := 6) (by decide) hk
  refine va_WaastN gx gb q1 ((gK.2.1 6 (by decide)).1 _ _) (fun q => by cases q) (by rw [arrV_size]; exact hin) rfl rfl hd fun H' e1 e2 e3 => ?_
  rw [arrV_store] at e1
  refine kk H' _ ls (hR.set (a := a) (by omega) (ag_sR _ _ _ _) e2 e3 (fun cell2 h2 => ?_) ⟨?_, ?_⟩) (hN.same rfl) hl (hS.put e2 e3 (hN.aw hS.1 (Or.inl ⟨by omega, by omega⟩)))
  · rw [q1] at h2
    cases h2
    rfl
  · intro ci hci hk'
    have hk2 : kd_ M a = ci + 1 := hk'
    omega
  · intro t' ht' hk'
    have hk2 : kd_ M a = 20 + t' := hk'
    have htt : t' = 6 := by omega
    subst htt
    refine ⟨e1.trans ?_, fun z => by omega⟩
    show some (arrV _ (ln_ M a) _) = some (arrV _ (ln_ M a) _)
    congr 2
    funext z
    rw [av_R (by decide)]
    unfold updV
    rw [av_R (by decide), rf_sR]
    by_cases hz : z = i.toNatClampNeg
    · subst hz
      rw [if_pos rfl, if_pos ⟨rfl, rfl⟩]
      rfl
    · rw [if_neg hz, if_neg (fun h => hz h.2)]
theorem r_rv {x : Nat} (hx : kd_ M x ≠ 0) (kk : V_ p l e R s m args below meth c nL D M0 Q pc L (.ref x :: S) M n k) : V_ p l e R s m args below meth c nL D M0 Q pc L (rv_ x :: S) M n k := fun H locs ls hR hN hl hS => by
  rw [rv_pos (hR.ne0 hx)]
  exact kk H locs ls hR hN hl hS
theorem r_vr {x : Nat} (hx : kd_ M x ≠ 0) (kk : V_ p l e R s m args below meth c nL D M0 Q pc L (rv_ x :: S) M n k) : V_ p l e R s m args below meth c nL D M0 Q pc L (.ref x :: S) M n k := fun H locs ls hR hN hl hS => by
  rw [← rv_pos (hR.ne0 hx)]
  exact kk H locs ls hR hN hl hS
theorem r_cast (g : G_ p s m args meth c cc nL own D M0) {x ci i : Nat} {C : String} {T : u_T} {N : Nat} (hc : vwCl[ci]? = some (C, T, N)) (w1 : Cond.classLink own i C ∈ tbG_) (hk : kd_ M x = ci + 1) (hd : decode cc pc = .ok (.checkcast i, 3)) (kk : V_ p l e R s m args below meth c nL D M0 Q (pc + 3) L (.ref x :: S) M n k) : V_ p l e R s m args below meth c nL D M0 Q pc L (.ref x :: S) M n k := fun H locs ls hR hN hl hS => by
  obtain ⟨gx, gb, -, go, gt, gK, -⟩ := g
  have hci : ci < 12 := (List.getElem?_eq_some_iff.mp hc).1
  obtain ⟨cell, g1, g2, g3, -⟩ := hR.obj hci hk
  have hcls := (gK.cls hc).2
  exact va_castS gx gb go (gt _ w1) hcls ⟨cell, g1, by rw [g3]; rfl, by rw [g2]; exact hcls.1⟩ hd (kk H locs ls hR hN hl hS)
theorem r_gets (g : G_ p s m args meth c cc nL own D M0) {ref : String} {i : Nat} (w1 : Cond.fieldLink own i ref "DEFAULTCAPACITY_EMPTY_ELEMENTDATA" "[Ljava/lang/Object;" ∈ tbG_) (hsame : ref = "java/util/ArrayList") (hd : decode cc pc = .ok (.getstatic i, 3)) (kk : ∀ q, q ≠ 0 → (∀ a, kd_ M a = 36 ↔ a = q) → ln_ M q = 0 → V_ p l e R s m args below meth c nL D M0 Q (pc + 3) L (.ref q :: S) M n k) : V_ p l e R s m args below meth c nL D M0 Q pc L S M n k := fun H locs ls hR hN hl hS => by
  obtain ⟨gx, gb, -, go, gt, gK, gR, -⟩ := g
  have hZ := gR.2.2.2.1.1
  have hne : D.2.2 ≠ 0 := hR.ne0 (by rw [(hR.2.1 D.2.2).mpr rfl]; decide)
  have hZ2 : va_Z "java/util/ArrayList" "DEFAULTCAPACITY_EMPTY_ELEMENTDATA" "[Ljava/lang/Object;" (.ref D.2.2) (Aw_ M0 s.heap.size) s s.heap := by
    obtain ⟨cf, kf, fi, f, a, cell, h1, h2, h3, h4, h5, h6, h7, h8⟩ := hZ
    refine ⟨cf, kf, fi, f, a, cell, h1, h2, h3, h4, h5, h6, h7, fun h => ?_⟩
    rcases h with ⟨z1, z2⟩ | z1
    · obtain ⟨⟨b1, b2, b3⟩, b4⟩ := gR.2.2.2.2 a
      rcases (b4 z1).1 with ⟨y1, y2⟩ | ⟨y1, y2⟩ | ⟨y1, y2⟩
      · obtain ⟨cell2, c1, c2, c3, -⟩ := (b1 (kd_ M0 a - 1) (by omega) (by omega)).1
        rw [h5] at c1
        cases c1
        rw [c3] at h6
        cases h6
      · have c1 := (b2 (kd_ M0 a - 20) (by omega) (by omega)).1
        rw [h5] at c1
        cases c1
        cases h6
      · omega
    · have := (Array.getElem?_eq_some_iff.mp h5).1
      omega
  exact va_gets gx gb hZ2 hS go (gt _ w1) (by rw [hsame]; exact fun _ h => h) hd (kk D.2.2 hne hR.2.1 hR.2.2.1 H locs ls hR hN hl hS)
theorem r_mmin (g : G_ p s m args meth c cc nL own D M0) {x y : Int32} {i : Nat} (w1 : Cond.methodLink own i Lib.Math.min.name ∈ tbG_) (w2 : Cond.static Lib.Math.min.name ∈ tbG_) (w3 : Cond.initialized "java/lang/Math" ∈ tbG_) (w4 : Cond.code Lib.Math.min.name Lib.Math.min.code 2 (some .int) ∈ tbG_) (hf : 1 ≤ R.frames) (hlo : (S.map fun v => v.category).sum + 13 ≤ R.locals) (hc : n ≤ R.cells) (hs : k ≤ R.slots) (hd : decode cc pc = .ok (.invokestatic i, 3)) (kk : V_ p l e R s m args below meth c nL D M0 Q (pc + 3) L (.int (if y < x then y else x) :: S) M n k) : V_ p l e R s m args below meth c nL D M0 Q pc L (.int y :: .int x :: S) M n k := fun H locs ls hR hN hl hS => by
  obtain ⟨gx, gb, gml, go, gt, -⟩ := g
  exact va_mmin gx gb (gml.trans hl.1.symm) go (gt _ w1) (gt _ w2) (gt _ w3) (gt _ w4) hf hlo hc hs hd (kk H locs ls hR hN hl hS)
theorem r_mmax (g : G_ p s m args meth c cc nL own D M0) {x y : Int32} {i : Nat} (w1 : Cond.methodLink own i Lib.Math.max.name ∈ tbG_) (w2 : Cond.static Lib.Math.max.name ∈ tbG_) (w3 : Cond.initialized "java/lang/Math" ∈ tbG_) (w4 : Cond.code Lib.Math.max.name Lib.Math.max.code 2 (some .int) ∈ tbG_) (hf : 1 ≤ R.frames) (hlo : (S.map fun v => v.category).sum + 13 ≤ R.locals) (hc : n ≤ R.cells) (hs : k ≤ R.slots) (hd : decode cc pc = .ok (.invokestatic i, 3)) (kk : V_ p l e R s m args below meth c nL D M0 Q (pc + 3) L (.int (if x < y then y else x) :: S) M n k) : V_ p l e R s m args below meth c nL D M0 Q pc L (.int y :: .int x :: S) M n k := fun H locs ls hR hN hl hS => by
  obtain ⟨gx, gb, gml, go, gt, -⟩ := g
  exact va_mmax gx gb (gml.trans hl.1.symm) go (gt _ w1) (gt _ w2) (gt _ w3) (gt _ w4) hf hlo hc hs hd (kk H locs ls hR hN hl hS)
theorem r_mminl (g : G_ p s m args meth c cc nL own D M0) {x y : Int64} {i : Nat} (w1 : Cond.methodLink own i Lib.MathLoose.min_long.x ∈ tbG_) (w2 : Cond.static Lib.MathLoose.min_long.x ∈ tbG_) (w3 : Cond.initialized "java/lang/Math" ∈ tbG_) (w4 : Cond.code Lib.MathLoose.min_long.x Lib.MathLoose.min_long.code 4 (some .long) ∈ tbG_) (hf : 1 ≤ R.frames) (hlo : (S.map fun v => v.category).sum + 15 ≤ R.locals) (hc : n ≤ R.cells) (hs : k ≤ R.slots) (hd : decode cc pc = .ok (.invokestatic i, 3)) (kk : V_ p l e R s m args below meth c nL D M0 Q (pc + 3) L (.long (if y < x then y else x) :: S) M n k) : V_ p l e R s m args below meth c nL D M0 Q pc L (.long y :: .long x :: S) M n k := fun H locs ls hR hN hl hS => by
  obtain ⟨gx, gb, gml, go, gt, -⟩ := g
  exact va_mmin_long gx gb (gml.trans hl.1.symm) go (gt _ w1) (gt _ w2) (gt _ w3) (gt _ w4) hf hlo hc hs hd (kk H locs ls hR hN hl hS)
theorem r_mmaxl (g : G_ p s m args meth c cc nL own D M0) {x y : Int64} {i : Nat} (w1 : Cond.methodLink own i Lib.MathLoose.max_long.x ∈ tbG_) (w2 : Cond.static Lib.MathLoose.max_long.x ∈ tbG_) (w3 : Cond.initialized "java/lang/Math" ∈ tbG_) (w4 : Cond.code Lib.MathLoose.max_long.x Lib.MathLoose.max_long.code 4 (some .long) ∈ tbG_) (hf : 1 ≤ R.frames) (hlo : (S.map fun v => v.category).sum + 15 ≤ R.locals) (hc : n ≤ R.cells) (hs : k ≤ R.slots) (hd : decode cc pc = .ok (.invokestatic i, 3)) (kk : V_ p l e R s m args below meth c nL D M0 Q (pc + 3) L (.long (if y < x then x else y) :: S) M n k) : V_ p l e R s m args below meth c nL D M0 Q pc L (.long y :: .long x :: S) M n k := fun H locs ls hR hN hl hS => by
  obtain ⟨gx, gb, gml, go, gt, -⟩ := g
  exact va_mmax_long gx gb (gml.trans hl.1.symm) go (gt _ w1) (gt _ w2) (gt _ w3) (gt _ w4) hf hlo hc hs hd (kk H locs ls hR hN hl hS)
theorem ac_nn {z : Int32} (hz : ¬ z < 0) : z.toInt = (z.toNatClampNeg : Int) := by
  have hz0 : (0 : Int) ≤ z.toInt := by
    have := Int32.not_lt.mp hz
    simpa using Int32.le_iff_toInt_le.mp this
  show z.toInt = ((z.toInt.toNat : Nat) : Int)
  omega
theorem r_acopyI (g : G_ p s m args meth c cc nL own D M0) {a0 a i : Nat} {sp dp z : Int32} (w1 : Cond.methodLink own i arraycopyName ∈ tbG_) (w2 : Cond.native arraycopyName ∈ tbG_) (w3 : Cond.static arraycopyName ∈ tbG_) (w4 : Cond.initialized "java/lang/System" ∈ tbG_) (hk0 : kd_ M a0 = 20) (hk1 : kd_ M a = 20) (h1 : ¬ sp < 0) (h2 : ¬ dp < 0) (h3 : ¬ z < 0) (h4 : ix_ sp + ix_ z ≤ ln_ M a0) (h5 : ix_ dp + ix_ z ≤ ln_ M a)
    (hf : 1 ≤ R.frames) (hlo : (S.map fun v => v.category).sum + (nativeFrameWords "java/lang/System" "arraycopy" 5 + 11) ≤ R.locals) (hd : decode cc pc = .ok (.invokestatic i, 3)) (kk : V_ p l e R s m args below meth c nL D M0 Q (pc + 3) L S (aI_ M a (va_cpy (it_ M a0) (it_ M a) (ix_ sp) (ix_ dp) (ix_ z))) n k) : V_ p l e R s m args below meth c nL D M0 Q pc L (.int z :: .int dp :: .ref a :: .int sp :: .ref a0 :: S) M n k := fun H locs ls hR hN hl hS => by
  obtain ⟨gx, gb, gml, go, gt, gK, -⟩ := g
  have hc0 := hR.arr (t := 0) (by decide) hk0
  have hc1 := hR.arr (t := 0) (by decide) hk1
  have hlt : a < H.size := (Array.getElem?_eq_some_iff.mp hc1).1
  obtain ⟨-, k0, hk0', cm0, hkk0⟩ := (gK.2.1 0 (by decide)).1 0 (fun _ => .null)
  have hk0' : s.vm.classes[D.2.1 0]? = some k0 := hk0'
  have e0 : arrV (D.2.1 0) (ln_ M a0) (av_ M 0 a0) = vp_cell (D.2.1 0) (ln_ M a0, .inl (it_ M a0)) := rfl
  have e1' : arrV (D.2.1 0) (ln_ M a) (av_ M 0 a) = vp_cell (D.2.1 0) (ln_ M a, .inl (it_ M a)) := rfl
  rw [e0] at hc0
  rw [e1'] at hc1
  intro T hT X
  obtain ⟨vm', X', step⟩ := X.arraycopy gx go (gt _ w1) (gt _ w2) (gt _ w3) (gt _ w4) (src := a0) (dst := a) (cs := vp_cell (D.2.1 0) (ln_ M a0, .inl (it_ M a0))) (cd := vp_cell (D.2.1 0) (ln_ M a, .inl (it_ M a))) (srcPos := sp) (destPos := dp) (n := z) (by rw [hT]; exact hc0) (by rw [hT]; exact hc1)
    (fun _ h => by cases h) (fun _ h => by cases h) (fun h => by cases h) (fun h => by cases h) hk0' hk0' hkk0 hkk0 (by rfl) h1 h2 h3
    (by rw [ac_nn h1, ac_nn h3]; show ¬ _ > ((arrV _ (ln_ M a0) (fun j => .int (it_ M a0 j))).slots.size : Int); rw [arrV_size]; unfold ix_ at h4; omega)
    (by rw [ac_nn h2, ac_nn h3]; show ¬ _ > ((arrV _ (ln_ M a) (fun j => .int (it_ M a j))).slots.size : Int); rw [arrV_size]; unfold ix_ at h5; omega)
    (fun vm₁ _ i hi => by
      have e : (vp_cell (D.2.1 0) (ln_ M a0, .inl (it_ M a0))).slots.getD (sp.toNatClampNeg + i) .null = .int (it_ M a0 (sp.toNatClampNeg + i)) := by
        show (arrV _ (ln_ M a0) (fun j => .int (it_ M a0 j))).slots.getD _ _ = _
        rw [Array.getD_eq_getD_getElem?, arrV_read _ _ (by unfold ix_ at h4; omega)]
        rfl
      refine ⟨?_, ?_⟩
      · rw [e]
        rfl
      · rw [e]
        exact trivial)
    (g := F0 m pc ls (.int z :: .int dp :: .ref a :: .int sp :: .ref a0 :: S)) rfl (by rw [gml]; exact hl.1) (rest := S) rfl (by rw [gb]; exact hd) hf (by show 2 * 0 + _ + _ ≤ _; omega)
  have e2 : copied (vp_cell (D.2.1 0) (ln_ M a0, .inl (it_ M a0))) (vp_cell (D.2.1 0) (ln_ M a, .inl (it_ M a))) sp dp z = vp_cell (D.2.1 0) (ln_ M a, .inl (va_cpy (it_ M a0) (it_ M a) sp.toNatClampNeg dp.toNatClampNeg z.toNatClampNeg)) := va_copied (fun z => .int z) _ _ _ _ h4
  rw [e2] at X' step
  have hheap : ((T.setVm vm').setCell a (vp_cell (D.2.1 0) (ln_ M a, .inl (va_cpy (it_ M a0) (it_ M a) sp.toNatClampNeg dp.toNatClampNeg z.toNatClampNeg)))).heap = H.setIfInBounds a (vp_cell (D.2.1 0) (ln_ M a, .inl (va_cpy (it_ M a0) (it_ M a) sp.toNatClampNeg dp.toNatClampNeg z.toNatClampNeg))) := by rw [← hT]; rfl
  have oq : ∀ q : Nat, q ≠ a → (H.setIfInBounds a (vp_cell (D.2.1 0) (ln_ M a, .inl (va_cpy (it_ M a0) (it_ M a) sp.toNatClampNeg dp.toNatClampNeg z.toNatClampNeg))))[q]? = H[q]? := fun q hq => by simp [Array.getElem?_setIfInBounds, Ne.symm hq]
  have hR' := hR.set (M' := aI_ M a (va_cpy (it_ M a0) (it_ M a) (ix_ sp) (ix_ dp) (ix_ z))) (H' := H.setIfInBounds a (vp_cell (D.2.1 0) (ln_ M a, .inl (va_cpy (it_ M a0) (it_ M a) sp.toNatClampNeg dp.toNatClampNeg z.toNatClampNeg)))) (a := a) (by omega) (ag_aI _ _ _) (by simp) oq (fun cell2 h2 => by rw [hc1] at h2; cases h2; rfl) ⟨fun ci hci hk' => by have hk2 : kd_ M a = ci + 1 := hk'; omega, fun t ht hk' => by
    have hk2 : kd_ M a = 20 + t := hk'
    have htt : t = 0 := by omega
    subst htt
    refine ⟨?_, fun z => by omega⟩
    rw [show (H.setIfInBounds a (vp_cell (D.2.1 0) (ln_ M a, .inl (va_cpy (it_ M a0) (it_ M a) sp.toNatClampNeg dp.toNatClampNeg z.toNatClampNeg))))[a]? = some (vp_cell (D.2.1 0) (ln_ M a, .inl (va_cpy (it_ M a0) (it_ M a) sp.toNatClampNeg dp.toNatClampNeg z.toNatClampNeg))) by simp [Array.getElem?_setIfInBounds, hlt]]
    rw [vp_cell_i]
    show some (arrV _ (ln_ M a) _) = some (arrV _ (ln_ M a) _)
    congr 2
    funext j
    show Value.int _ = Value.int (it_ (aI_ M a _) a j)
    rw [it_aI, if_pos rfl]
    rfl⟩
  obtain ⟨t, a1, b1⟩ := kk _ _ ls hR' (hN.same rfl) hl ⟨by simp; exact hS.1, fun q g1 g2 => by
      rw [oq q (fun e => g2 (by rw [e]; exact hN.aw hS.1 (Or.inl ⟨by omega, by omega⟩)))]
      exact hS.2.1 q g1 g2, fun q hq => by
      rcases List.mem_append.mp hq with h | h
      · exact hS.2.2 q h
      · obtain ⟨z, -, hz⟩ := List.mem_map.mp h
        rw [← hz]
        exact hN.aw (q := a) hS.1 (Or.inl ⟨by omega, by omega⟩)⟩ _ hheap X'
  exact ⟨t, step t a1, b1⟩
theorem cb_of (gt : ∀ w ∈ tbG_, w.before args s = true) {y : MethodName} {cy : ByteArray} {ny i mc ms : Nat} {ret : Option FieldType} {rm : Room} {As : List Value}(w1 : Cond.methodLink own i y ∈ tbG_) (w5 : Cond.code y cy ny ret ∈ tbG_) (w6 : Cond.initialized y.cls ∈ tbG_)(hy : y.cls ≠ "java/lang/invoke/MethodHandle" ∧ y.cls ≠ "java/lang/invoke/VarHandle" ∧ (parseMethodDescriptor y.desc).map (fun d => d.parameters.length) = some As.length) (hrm : rm.cells = mc ∧ rm.slots = ms) (hfr : rm.frames + 1 ≤ R.frames) (hlo : 8 + (ny + 11) + rm.locals ≤ R.locals) (h1 : n + mc ≤ R.cells) (h2 : k + ms ≤ R.slots) (hsr : (S.map fun v => v.category).sum ≤ 8) : CallB R s args own i y cy ny ret (Cond.code y cy ny ret :: tbG_) rm mc ms As.length := by
  refine ⟨hrm.1, hrm.2, hfr, hlo, pay_in gt (tb_goodIn w5), List.mem_cons_self, gt _ w5, gt _ w6, ⟨hy.1, hy.2.1⟩, fun sig h => ?_, gt _ w1⟩
  have h2 := hy.2.2
  rw [h] at h2
  exact (Option.some.inj h2).symm
theorem r_callVv (g : G_ p s m args meth c cc nL own D M0) {y : MethodName} {cy : ByteArray} {ny i mc ms : Nat} {ret : Option FieldType} {rm : Room} {As st : List Value} {b : Nat} {ci N : Nat} {T : u_T} {K : Mm → Prop} (hM : ∀ sz, Met l y (Cond.code y cy ny ret :: tbG_) rm (cPc_ D M sz (.ref b :: As)) (va_Qv (fun M' => K M') (cB_ D M sz) (Aw_ M sz)) mc ms (Aw_ M sz)) (w1 : Cond.methodLink own i y ∈ tbG_) (w5 : Cond.code y cy ny ret ∈ tbG_) (w6 : Cond.initialized y.cls ∈ tbG_) (w2 : Cond.instanceMethod y ∈ tbG_) (w3 : Cond.selects y.cls y y ∈ tbG_) (hc : vwCl[ci]? = some (y.cls, T, N)) (hkb : kd_ M b = ci + 1) (hy : y.cls ≠ "java/lang/invoke/MethodHandle" ∧ y.cls ≠ "java/lang/invoke/VarHandle" ∧ (parseMethodDescriptor y.desc).map (fun d => d.parameters.length) = some As.length) (hrm : rm.cells = mc ∧ rm.slots = ms) (hfr : rm.frames + 1 ≤ R.frames) (hlo : 8 + (ny + 11) + rm.locals ≤ R.locals) (h1 : n + mc ≤ R.cells) (h2 : k + ms ≤ R.slots) (hsr : (S.map fun v => v.category).sum ≤ 8) (hst : st = As.reverse ++ .ref b :: S) (hd : decode cc pc = .ok (.invokevirtual i, 3))
    (kk : ∀ M', K M' → Nk_ M M' → V_ p l e R s m args below meth c nL D M0 Q (pc + 3) L S M' (n + mc) (k + ms)) : V_ p l e R s m args below meth c nL D M0 Q pc L st M n k := fun H locs ls hR hN hl hS => by
  obtain ⟨gx, gb, gml, go, gt, gK, -⟩ := g
  have hci : ci < 12 := (List.getElem?_eq_some_iff.mp hc).1
  obtain ⟨cell, g1, g2, g3, -⟩ := hR.obj hci hkb
  have hA : ∀ q : Nat, Aw_ M H.size q → Aw_ M0 s.heap.size q := fun q h => hN.aw hS.1 h
  refine va_callv (va_runV (As := As) (rest := S) ⟨gx, gb, gml, go, gt⟩ (hM H.size) ⟨cb_of gt w1 w5 w6 hy hrm hfr hlo h1 h2 hsr, gt _ w2, gt _ w3⟩ ⟨cPc_blind _ _ _ _, ⟨cell, g1, by rw [g3]; rfl, by rw [g2]; exact (gK.cls hc).2.1⟩, fun U hU hW => ⟨rfl, by rw [hU], by rw [hU]; exact hR.moved hW.alike, gK.warm hW⟩⟩ rfl rfl hl.1 hst (by show 2 * 0 + _ ≤ _; omega) hd ⟨h1, h2⟩) hS (fun q _ h => hA q h) hA (fun u t H1 locs1 ht hvm hp hB hz1 hk1 hS1 => ?_)
  have hR1 := Rp_.moved hvm.symm hB.1
  rw [ht] at hR1
  exact kk u hp hB.2.1 H1 locs1 ls hR1 (hN.tr hS.1 hB.2) hl hS1
theorem r_callSv (g : G_ p s m args meth c cc nL own D M0) {y : MethodName} {cy : ByteArray} {ny i mc ms : Nat} {ret : Option FieldType} {rm : Room} {As st : List Value} {K : Mm → Prop} (hM : ∀ sz, Met l y (Cond.code y cy ny ret :: tbG_) rm (cPc_ D M sz As) (va_Qv (fun M' => K M') (cB_ D M sz) (Aw_ M sz)) mc ms (Aw_ M sz)) (w1 : Cond.methodLink own i y ∈ tbG_) (w5 : Cond.code y cy ny ret ∈ tbG_) (w6 : Cond.initialized y.cls ∈ tbG_) (w2 : Cond.static y ∈ tbG_) (hy : y.cls ≠ "java/lang/invoke/MethodHandle" ∧ y.cls ≠ "java/lang/invoke/VarHandle" ∧ (parseMethodDescriptor y.desc).map (fun d => d.parameters.length) = some As.length) (hrm : rm.cells = mc ∧ rm.slots = ms) (hfr : rm.frames + 1 ≤ R.frames) (hlo : 8 + (ny + 11) + rm.locals ≤ R.locals) (h1 : n + mc ≤ R.cells) (h2 : k + ms ≤ R.slots) (hsr : (S.map fun v => v.category).sum ≤ 8) (hst : st = As.reverse ++ S) (hd : decode cc pc = .ok (.invokestatic i, 3))
    (kk : ∀ M', K M' → Nk_ M M' → V_ p l e R s m args below meth c nL D M0 Q (pc + 3) L S M' (n + mc) (k + ms)) : V_ p l e R s m args below meth c nL D M0 Q pc L st M n k := fun H locs ls hR hN hl hS => by
  obtain ⟨gx, gb, gml, go, gt, gK, -⟩ := g
  have hA : ∀ q : Nat, Aw_ M H.size q → Aw_ M0 s.heap.size q := fun q h => hN.aw hS.1 h
  refine va_callv (va_runS (As := As) (rest := S) ⟨gx, gb, gml, go, gt⟩ (hM H.size) ⟨cb_of gt w1 w5 w6 hy hrm hfr hlo h1 h2 hsr, gt _ w2⟩ ⟨cPc_blind _ _ _ _, fun U hU hW => ⟨rfl, by rw [hU], by rw [hU]; exact hR.moved hW.alike, gK.warm hW⟩⟩ rfl rfl hl.1 hst (by show 2 * 0 + _ ≤ _; omega) hd ⟨h1, h2⟩) hS (fun q _ h => hA q h) hA (fun u t H1 locs1 ht hvm hp hB hz1 hk1 hS1 => ?_)
  have hR1 := Rp_.moved hvm.symm hB.1
  rw [ht] at hR1
  exact kk u hp hB.2.1 H1 locs1 ls hR1 (hN.tr hS.1 hB.2) hl hS1
theorem r_callIv (g : G_ p s m args meth c cc nL own D M0) {y : MethodName} {cy : ByteArray} {ny i mc ms : Nat} {rm : Room} {As st : List Value} {b : Nat} {K : Mm → Prop} (hM : ∀ sz, Met l y (Cond.code y cy ny none :: tbG_) rm (cPc_ D M sz (.ref b :: As)) (va_Qv (fun M' => K M') (cB_ D M sz) (Aw_ M sz)) mc ms (Aw_ M sz)) (w1 : Cond.methodLink own i y ∈ tbG_) (w5 : Cond.code y cy ny none ∈ tbG_) (w6 : Cond.initialized y.cls ∈ tbG_) (w2 : Cond.instanceMethod y ∈ tbG_) (hy1 : y.name = "<init>") (hy : y.cls ≠ "java/lang/invoke/MethodHandle" ∧ y.cls ≠ "java/lang/invoke/VarHandle" ∧ (parseMethodDescriptor y.desc).map (fun d => d.parameters.length) = some As.length) (hrm : rm.cells = mc ∧ rm.slots = ms) (hfr : rm.frames + 1 ≤ R.frames) (hlo : 8 + (ny + 11) + rm.locals ≤ R.locals) (h1 : n + mc ≤ R.cells) (h2 : k + ms ≤ R.slots) (hsr : (S.map fun v => v.category).sum ≤ 8) (hst : st = As.reverse ++ .ref b :: S) (hd : decode cc pc = .ok (.invokespecial i, 3))
    (kk : ∀ M', K M' → Nk_ M M' → V_ p l e R s m args below meth c nL D M0 Q (pc + 3) L S M' (n + mc) (k + ms)) : V_ p l e R s m args below meth c nL D M0 Q pc L st M n k := fun H locs ls hR hN hl hS => by
  obtain ⟨gx, gb, gml, go, gt, gK, -⟩ := g
  have hA : ∀ q : Nat, Aw_ M H.size q → Aw_ M0 s.heap.size q := fun q h => hN.aw hS.1 h
  refine va_callv (va_runI (As := As) (rest := S) ⟨gx, gb, gml, go, gt⟩ (hM H.size) ⟨cb_of gt w1 w5 w6 hy hrm hfr hlo h1 h2 hsr, hy1, gt _ w2⟩ ⟨cPc_blind _ _ _ _, fun U hU hW => ⟨rfl, by rw [hU], by rw [hU]; exact hR.moved hW.alike, gK.warm hW⟩⟩ rfl rfl hl.1 hst (by show 2 * 0 + _ ≤ _; omega) hd ⟨h1, h2⟩) hS (fun q _ h => hA q h) hA (fun u t H1 locs1 ht hvm hp hB hz1 hk1 hS1 => ?_)
  have hR1 := Rp_.moved hvm.symm hB.1
  rw [ht] at hR1
  exact kk u hp hB.2.1 H1 locs1 ls hR1 (hN.tr hS.1 hB.2) hl hS1
theorem r_callVi (g : G_ p s m args meth c cc nL own D M0) {y : MethodName} {cy : ByteArray} {ny i mc ms : Nat} {ret : Option FieldType} {rm : Room} {As st : List Value} {b : Nat} {ci N : Nat} {T : u_T} {K : Mm → Int32 → Prop} (hM : ∀ sz, Met l y (Cond.code y cy ny ret :: tbG_) rm (cPc_ D M sz (.ref b :: As)) (va_Qi (fun r M' => K M' r) (cB_ D M sz) (Aw_ M sz)) mc ms (Aw_ M sz)) (w1 : Cond.methodLink own i y ∈ tbG_) (w5 : Cond.code y cy ny ret ∈ tbG_) (w6 : Cond.initialized y.cls ∈ tbG_) (w2 : Cond.instanceMethod y ∈ tbG_) (w3 : Cond.selects y.cls y y ∈ tbG_) (hc : vwCl[ci]? = some (y.cls, T, N)) (hkb : kd_ M b = ci + 1) (hy : y.cls ≠ "java/lang/invoke/MethodHandle" ∧ y.cls ≠ "java/lang/invoke/VarHandle" ∧ (parseMethodDescriptor y.desc).map (fun d => d.parameters.length) = some As.length) (hrm : rm.cells = mc ∧ rm.slots = ms) (hfr : rm.frames + 1 ≤ R.frames) (hlo : 8 + (ny + 11) + rm.locals ≤ R.locals) (h1 : n + mc ≤ R.cells) (h2 : k + ms ≤ R.slots) (hsr : (S.map fun v => v.category).sum ≤ 8) (hst : st = As.reverse ++ .ref b :: S) (hd : decode cc pc = .ok (.invokevirtual i, 3))
    (kk : ∀ M' r, K M' r → Nk_ M M' → V_ p l e R s m args below meth c nL D M0 Q (pc + 3) L (.int r :: S) M' (n + mc) (k + ms)) : V_ p l e R s m args below meth c nL D M0 Q pc L st M n k := fun H locs ls hR hN hl hS => by
  obtain ⟨gx, gb, gml, go, gt, gK, -⟩ := g
  have hci : ci < 12 := (List.getElem?_eq_some_iff.mp hc).1
  obtain ⟨cell, g1, g2, g3, -⟩ := hR.obj hci hkb
  have hA : ∀ q : Nat, Aw_ M H.size q → Aw_ M0 s.heap.size q := fun q h => hN.aw hS.1 h
  refine va_calli (va_runV (As := As) (rest := S) ⟨gx, gb, gml, go, gt⟩ (hM H.size) ⟨cb_of gt w1 w5 w6 hy hrm hfr hlo h1 h2 hsr, gt _ w2, gt _ w3⟩ ⟨cPc_blind _ _ _ _, ⟨cell, g1, by rw [g3]; rfl, by rw [g2]; exact (gK.cls hc).2.1⟩, fun U hU hW => ⟨rfl, by rw [hU], by rw [hU]; exact hR.moved hW.alike, gK.warm hW⟩⟩ rfl rfl hl.1 hst (by show 2 * 0 + _ ≤ _; omega) hd ⟨h1, h2⟩) hS (fun q _ h => hA q h) hA (fun r u t H1 locs1 ht hvm hp hB hz1 hk1 hS1 => ?_)
  have hR1 := Rp_.moved hvm.symm hB.1
  rw [ht] at hR1
  exact kk u r hp hB.2.1 H1 locs1 ls hR1 (hN.tr hS.1 hB.2) hl hS1
theorem r_callSi (g : G_ p s m args meth c cc nL own D M0) {y : MethodName} {cy : ByteArray} {ny i mc ms : Nat} {ret : Option FieldType} {rm : Room} {As st : List Value} {K : Mm → Int32 → Prop} (hM : ∀ sz, Met l y (Cond.code y cy ny ret :: tbG_) rm (cPc_ D M sz As) (va_Qi (fun r M' => K M' r) (cB_ D M sz) (Aw_ M sz)) mc ms (Aw_ M sz)) (w1 : Cond.methodLink own i y ∈ tbG_) (w5 : Cond.code y cy ny ret ∈ tbG_) (w6 : Cond.initialized y.cls ∈ tbG_) (w2 : Cond.static y ∈ tbG_) (hy : y.cls ≠ "java/lang/invoke/MethodHandle" ∧ y.cls ≠ "java/lang/invoke/VarHandle" ∧ (parseMethodDescriptor y.desc).map (fun d => d.parameters.length) = some As.length) (hrm : rm.cells = mc ∧ rm.slots = ms) (hfr : rm.frames + 1 ≤ R.frames) (hlo : 8 + (ny + 11) + rm.locals ≤ R.locals) (h1 : n + mc ≤ R.cells) (h2 : k + ms ≤ R.slots) (hsr : (S.map fun v => v.category).sum ≤ 8) (hst : st = As.reverse ++ S) (hd : decode cc pc = .ok (.invokestatic i, 3))
    (kk : ∀ M' r, K M' r → Nk_ M M' → V_ p l e R s m args below meth c nL D M0 Q (pc + 3) L (.int r :: S) M' (n + mc) (k + ms)) : V_ p l e R s m args below meth c nL D M0 Q pc L st M n k := fun H locs ls hR hN hl hS => by
  obtain ⟨gx, gb, gml, go, gt, gK, -⟩ := g
  have hA : ∀ q : Nat, Aw_ M H.size q → Aw_ M0 s.heap.size q := fun q h => hN.aw hS.1 h
  refine va_calli (va_runS (As := As) (rest := S) ⟨gx, gb, gml, go, gt⟩ (hM H.size) ⟨cb_of gt w1 w5 w6 hy hrm hfr hlo h1 h2 hsr, gt _ w2⟩ ⟨cPc_blind _ _ _ _, fun U hU hW => ⟨rfl, by rw [hU], by rw [hU]; exact hR.moved hW.alike, gK.warm hW⟩⟩ rfl rfl hl.1 hst (by show 2 * 0 + _ ≤ _; omega) hd ⟨h1, h2⟩) hS (fun q _ h => hA q h) hA (fun r u t H1 locs1 ht hvm hp hB hz1 hk1 hS1 => ?_)
  have hR1 := Rp_.moved hvm.symm hB.1
  rw [ht] at hR1
  exact kk u r hp hB.2.1 H1 locs1 ls hR1 (hN.tr hS.1 hB.2) hl hS1
theorem r_callVz (g : G_ p s m args meth c cc nL own D M0) {y : MethodName} {cy : ByteArray} {ny i mc ms : Nat} {ret : Option FieldType} {rm : Room} {As st : List Value} {b : Nat} {ci N : Nat} {T : u_T} {K : Mm → Int32 → Prop} (hM : ∀ sz, Met l y (Cond.code y cy ny ret :: tbG_) rm (cPc_ D M sz (.ref b :: As)) (va_Qi (fun r M' => K M' r ∧ bz_ r) (cB_ D M sz) (Aw_ M sz)) mc ms (Aw_ M sz)) (w1 : Cond.methodLink own i y ∈ tbG_) (w5 : Cond.code y cy ny ret ∈ tbG_) (w6 : Cond.initialized y.cls ∈ tbG_) (w2 : Cond.instanceMethod y ∈ tbG_) (w3 : Cond.selects y.cls y y ∈ tbG_) (hc : vwCl[ci]? = some (y.cls, T, N)) (hkb : kd_ M b = ci + 1) (hy : y.cls ≠ "java/lang/invoke/MethodHandle" ∧ y.cls ≠ "java/lang/invoke/VarHandle" ∧ (parseMethodDescriptor y.desc).map (fun d => d.parameters.length) = some As.length) (hrm : rm.cells = mc ∧ rm.slots = ms) (hfr : rm.frames + 1 ≤ R.frames) (hlo : 8 + (ny + 11) + rm.locals ≤ R.locals) (h1 : n + mc ≤ R.cells) (h2 : k + ms ≤ R.slots) (hsr : (S.map fun v => v.category).sum ≤ 8) (hst : st = As.reverse ++ .ref b :: S) (hd : decode cc pc = .ok (.invokevirtual i, 3))
    (kk : ∀ M' r, K M' r → bz_ r → Nk_ M M' → V_ p l e R s m args below meth c nL D M0 Q (pc + 3) L (.int r :: S) M' (n + mc) (k + ms)) : V_ p l e R s m args below meth c nL D M0 Q pc L st M n k := fun H locs ls hR hN hl hS => by
  obtain ⟨gx, gb, gml, go, gt, gK, -⟩ := g
  have hci : ci < 12 := (List.getElem?_eq_some_iff.mp hc).1
  obtain ⟨cell, g1, g2, g3, -⟩ := hR.obj hci hkb
  have hA : ∀ q : Nat, Aw_ M H.size q → Aw_ M0 s.heap.size q := fun q h => hN.aw hS.1 h
  refine va_calli (va_runV (As := As) (rest := S) ⟨gx, gb, gml, go, gt⟩ (hM H.size) ⟨cb_of gt w1 w5 w6 hy hrm hfr hlo h1 h2 hsr, gt _ w2, gt _ w3⟩ ⟨cPc_blind _ _ _ _, ⟨cell, g1, by rw [g3]; rfl, by rw [g2]; exact (gK.cls hc).2.1⟩, fun U hU hW => ⟨rfl, by rw [hU], by rw [hU]; exact hR.moved hW.alike, gK.warm hW⟩⟩ rfl rfl hl.1 hst (by show 2 * 0 + _ ≤ _; omega) hd ⟨h1, h2⟩) hS (fun q _ h => hA q h) hA (fun r u t H1 locs1 ht hvm hp hB hz1 hk1 hS1 => ?_)
  have hR1 := Rp_.moved hvm.symm hB.1
  rw [ht] at hR1
  exact kk u r hp.1 hp.2 hB.2.1 H1 locs1 ls hR1 (hN.tr hS.1 hB.2) hl hS1
theorem r_callSz (g : G_ p s m args meth c cc nL own D M0) {y : MethodName} {cy : ByteArray} {ny i mc ms : Nat} {ret : Option FieldType} {rm : Room} {As st : List Value} {K : Mm → Int32 → Prop} (hM : ∀ sz, Met l y (Cond.code y cy ny ret :: tbG_) rm (cPc_ D M sz As) (va_Qi (fun r M' => K M' r ∧ bz_ r) (cB_ D M sz) (Aw_ M sz)) mc ms (Aw_ M sz)) (w1 : Cond.methodLink own i y ∈ tbG_) (w5 : Cond.code y cy ny ret ∈ tbG_) (w6 : Cond.initialized y.cls ∈ tbG_) (w2 : Cond.static y ∈ tbG_) (hy : y.cls ≠ "java/lang/invoke/MethodHandle" ∧ y.cls ≠ "java/lang/invoke/VarHandle" ∧ (parseMethodDescriptor y.desc).map (fun d => d.parameters.length) = some As.length) (hrm : rm.cells = mc ∧ rm.slots = ms) (hfr : rm.frames + 1 ≤ R.frames) (hlo : 8 + (ny + 11) + rm.locals ≤ R.locals) (h1 : n + mc ≤ R.cells) (h2 : k + ms ≤ R.slots) (hsr : (S.map fun v => v.category).sum ≤ 8) (hst : st = As.reverse ++ S) (hd : decode cc pc = .ok (.invokestatic i, 3))
    (kk : ∀ M' r, K M' r → bz_ r → Nk_ M M' → V_ p l e R s m args below meth c nL D M0 Q (pc + 3) L (.int r :: S) M' (n + mc) (k + ms)) : V_ p l e R s m args below meth c nL D M0 Q pc L st M n k := fun H locs ls hR hN hl hS => by
  obtain ⟨gx, gb, gml, go, gt, gK, -⟩ := g
  have hA : ∀ q : Nat, Aw_ M H.size q → Aw_ M0 s.heap.size q := fun q h => hN.aw hS.1 h
  refine va_calli (va_runS (As := As) (rest := S) ⟨gx, gb, gml, go, gt⟩ (hM H.size) ⟨cb_of gt w1 w5 w6 hy hrm hfr hlo h1 h2 hsr, gt _ w2⟩ ⟨cPc_blind _ _ _ _, fun U hU hW => ⟨rfl, by rw [hU], by rw [hU]; exact hR.moved hW.alike, gK.warm hW⟩⟩ rfl rfl hl.1 hst (by show 2 * 0 + _ ≤ _; omega) hd ⟨h1, h2⟩) hS (fun q _ h => hA q h) hA (fun r u t H1 locs1 ht hvm hp hB hz1 hk1 hS1 => ?_)
  have hR1 := Rp_.moved hvm.symm hB.1
  rw [ht] at hR1
  exact kk u r hp.1 hp.2 hB.2.1 H1 locs1 ls hR1 (hN.tr hS.1 hB.2) hl hS1
theorem r_callVl (g : G_ p s m args meth c cc nL own D M0) {y : MethodName} {cy : ByteArray} {ny i mc ms : Nat} {ret : Option FieldType} {rm : Room} {As st : List Value} {b : Nat} {ci N : Nat} {T : u_T} {K : Mm → Int64 → Prop} (hM : ∀ sz, Met l y (Cond.code y cy ny ret :: tbG_) rm (cPc_ D M sz (.ref b :: As)) (va_Ql (fun r M' => K M' r) (cB_ D M sz) (Aw_ M sz)) mc ms (Aw_ M sz)) (w1 : Cond.methodLink own i y ∈ tbG_) (w5 : Cond.code y cy ny ret ∈ tbG_) (w6 : Cond.initialized y.cls ∈ tbG_) (w2 : Cond.instanceMethod y ∈ tbG_) (w3 : Cond.selects y.cls y y ∈ tbG_) (hc : vwCl[ci]? = some (y.cls, T, N)) (hkb : kd_ M b = ci + 1) (hy : y.cls ≠ "java/lang/invoke/MethodHandle" ∧ y.cls ≠ "java/lang/invoke/VarHandle" ∧ (parseMethodDescriptor y.desc).map (fun d => d.parameters.length) = some As.length) (hrm : rm.cells = mc ∧ rm.slots = ms) (hfr : rm.frames + 1 ≤ R.frames) (hlo : 8 + (ny + 11) + rm.locals ≤ R.locals) (h1 : n + mc ≤ R.cells) (h2 : k + ms ≤ R.slots) (hsr : (S.map fun v => v.category).sum ≤ 8) (hst : st = As.reverse ++ .ref b :: S) (hd : decode cc pc = .ok (.invokevirtual i, 3))
    (kk : ∀ M' r, K M' r → Nk_ M M' → V_ p l e R s m args below meth c nL D M0 Q (pc + 3) L (.long r :: S) M' (n + mc) (k + ms)) : V_ p l e R s m args below meth c nL D M0 Q pc L st M n k := fun H locs ls hR hN hl hS => by
  obtain ⟨gx, gb, gml, go, gt, gK, -⟩ := g
  have hci : ci < 12 := (List.getElem?_eq_some_iff.mp hc).1
  obtain ⟨cell, g1, g2, g3, -⟩ := hR.obj hci hkb
  have hA : ∀ q : Nat, Aw_ M H.size q → Aw_ M0 s.heap.size q := fun q h => hN.aw hS.1 h
  refine va_calll (va_runV (As := As) (rest := S) ⟨gx, gb, gml, go, gt⟩ (hM H.size) ⟨cb_of gt w1 w5 w6 hy hrm hfr hlo h1 h2 hsr, gt _ w2, gt _ w3⟩ ⟨cPc_blind _ _ _ _, ⟨cell, g1, by rw [g3]; rfl, by rw [g2]; exact (gK.cls hc).2.1⟩, fun U hU hW => ⟨rfl, by rw [hU], by rw [hU]; exact hR.moved hW.alike, gK.warm hW⟩⟩ rfl rfl hl.1 hst (by show 2 * 0 + _ ≤ _; omega) hd ⟨h1, h2⟩) hS (fun q _ h => hA q h) hA (fun r u t H1 locs1 ht hvm hp hB hz1 hk1 hS1 => ?_)
  have hR1 := Rp_.moved hvm.symm hB.1
  rw [ht] at hR1
  exact kk u r hp hB.2.1 H1 locs1 ls hR1 (hN.tr hS.1 hB.2) hl hS1
theorem r_callSl (g : G_ p s m args meth c cc nL own D M0) {y : MethodName} {cy : ByteArray} {ny i mc ms : Nat} {ret : Option FieldType} {rm : Room} {As st : List Value} {K : Mm → Int64 → Prop} (hM : ∀ sz, Met l y (Cond.code y cy ny ret :: tbG_) rm (cPc_ D M sz As) (va_Ql (fun r M' => K M' r) (cB_ D M sz) (Aw_ M sz)) mc ms (Aw_ M sz)) (w1 : Cond.methodLink own i y ∈ tbG_) (w5 : Cond.code y cy ny ret ∈ tbG_) (w6 : Cond.initialized y.cls ∈ tbG_) (w2 : Cond.static y ∈ tbG_) (hy : y.cls ≠ "java/lang/invoke/MethodHandle" ∧ y.cls ≠ "java/lang/invoke/VarHandle" ∧ (parseMethodDescriptor y.desc).map (fun d => d.parameters.length) = some As.length) (hrm : rm.cells = mc ∧ rm.slots = ms) (hfr : rm.frames + 1 ≤ R.frames) (hlo : 8 + (ny + 11) + rm.locals ≤ R.locals) (h1 : n + mc ≤ R.cells) (h2 : k + ms ≤ R.slots) (hsr : (S.map fun v => v.category).sum ≤ 8) (hst : st = As.reverse ++ S) (hd : decode cc pc = .ok (.invokestatic i, 3))
    (kk : ∀ M' r, K M' r → Nk_ M M' → V_ p l e R s m args below meth c nL D M0 Q (pc + 3) L (.long r :: S) M' (n + mc) (k + ms)) : V_ p l e R s m args below meth c nL D M0 Q pc L st M n k := fun H locs ls hR hN hl hS => by
  obtain ⟨gx, gb, gml, go, gt, gK, -⟩ := g
  have hA : ∀ q : Nat, Aw_ M H.size q → Aw_ M0 s.heap.size q := fun q h => hN.aw hS.1 h
  refine va_calll (va_runS (As := As) (rest := S) ⟨gx, gb, gml, go, gt⟩ (hM H.size) ⟨cb_of gt w1 w5 w6 hy hrm hfr hlo h1 h2 hsr, gt _ w2⟩ ⟨cPc_blind _ _ _ _, fun U hU hW => ⟨rfl, by rw [hU], by rw [hU]; exact hR.moved hW.alike, gK.warm hW⟩⟩ rfl rfl hl.1 hst (by show 2 * 0 + _ ≤ _; omega) hd ⟨h1, h2⟩) hS (fun q _ h => hA q h) hA (fun r u t H1 locs1 ht hvm hp hB hz1 hk1 hS1 => ?_)
  have hR1 := Rp_.moved hvm.symm hB.1
  rw [ht] at hR1
  exact kk u r hp hB.2.1 H1 locs1 ls hR1 (hN.tr hS.1 hB.2) hl hS1
theorem r_callVr (g : G_ p s m args meth c cc nL own D M0) {y : MethodName} {cy : ByteArray} {ny i mc ms : Nat} {ret : Option FieldType} {rm : Room} {As st : List Value} {b : Nat} {ci N : Nat} {T : u_T} {K : Mm → Nat → Prop} (hM : ∀ sz, Met l y (Cond.code y cy ny ret :: tbG_) rm (cPc_ D M sz (.ref b :: As)) (va_Qr (S := Mm × Nat) (fun u => K u.1 u.2) (fun u a t => a = u.2 ∧ kd_ u.1 a ≠ 0 ∧ cB_ D M sz u.1 t) (Aw_ M sz)) mc ms (Aw_ M sz)) (w1 : Cond.methodLink own i y ∈ tbG_) (w5 : Cond.code y cy ny ret ∈ tbG_) (w6 : Cond.initialized y.cls ∈ tbG_) (w2 : Cond.instanceMethod y ∈ tbG_) (w3 : Cond.selects y.cls y y ∈ tbG_) (hc : vwCl[ci]? = some (y.cls, T, N)) (hkb : kd_ M b = ci + 1) (hy : y.cls ≠ "java/lang/invoke/MethodHandle" ∧ y.cls ≠ "java/lang/invoke/VarHandle" ∧ (parseMethodDescriptor y.desc).map (fun d => d.parameters.length) = some As.length) (hrm : rm.cells = mc ∧ rm.slots = ms) (hfr : rm.frames + 1 ≤ R.frames) (hlo : 8 + (ny + 11) + rm.locals ≤ R.locals) (h1 : n + mc ≤ R.cells) (h2 : k + ms ≤ R.slots) (hsr : (S.map fun v => v.category).sum ≤ 8) (hst : st = As.reverse ++ .ref b :: S) (hd : decode cc pc = .ok (.invokevirtual i, 3))
    (kk : ∀ M' r, K M' r → kd_ M' r ≠ 0 → Nk_ M M' → V_ p l e R s m args below meth c nL D M0 Q (pc + 3) L (.ref r :: S) M' (n + mc) (k + ms)) : V_ p l e R s m args below meth c nL D M0 Q pc L st M n k := fun H locs ls hR hN hl hS => by
  obtain ⟨gx, gb, gml, go, gt, gK, -⟩ := g
  have hci : ci < 12 := (List.getElem?_eq_some_iff.mp hc).1
  obtain ⟨cell, g1, g2, g3, -⟩ := hR.obj hci hkb
  have hA : ∀ q : Nat, Aw_ M H.size q → Aw_ M0 s.heap.size q := fun q h => hN.aw hS.1 h
  refine va_callr (va_runV (As := As) (rest := S) ⟨gx, gb, gml, go, gt⟩ (hM H.size) ⟨cb_of gt w1 w5 w6 hy hrm hfr hlo h1 h2 hsr, gt _ w2, gt _ w3⟩ ⟨cPc_blind _ _ _ _, ⟨cell, g1, by rw [g3]; rfl, by rw [g2]; exact (gK.cls hc).2.1⟩, fun U hU hW => ⟨rfl, by rw [hU], by rw [hU]; exact hR.moved hW.alike, gK.warm hW⟩⟩ rfl rfl hl.1 hst (by show 2 * 0 + _ ≤ _; omega) hd ⟨h1, h2⟩) hS (fun q _ h => hA q h) hA (fun u ra t H1 locs1 ht hvm hp hB hz1 hk1 hS1 => ?_)
  obtain ⟨rfl, hB0, hB⟩ := hB
  have hR1 := Rp_.moved hvm.symm hB.1
  rw [ht] at hR1
  exact kk u.1 u.2 hp hB0 hB.2.1 H1 locs1 ls hR1 (hN.tr hS.1 hB.2) hl hS1
theorem r_callSr (g : G_ p s m args meth c cc nL own D M0) {y : MethodName} {cy : ByteArray} {ny i mc ms : Nat} {ret : Option FieldType} {rm : Room} {As st : List Value} {K : Mm → Nat → Prop} (hM : ∀ sz, Met l y (Cond.code y cy ny ret :: tbG_) rm (cPc_ D M sz As) (va_Qr (S := Mm × Nat) (fun u => K u.1 u.2) (fun u a t => a = u.2 ∧ kd_ u.1 a ≠ 0 ∧ cB_ D M sz u.1 t) (Aw_ M sz)) mc ms (Aw_ M sz)) (w1 : Cond.methodLink own i y ∈ tbG_) (w5 : Cond.code y cy ny ret ∈ tbG_) (w6 : Cond.initialized y.cls ∈ tbG_) (w2 : Cond.static y ∈ tbG_) (hy : y.cls ≠ "java/lang/invoke/MethodHandle" ∧ y.cls ≠ "java/lang/invoke/VarHandle" ∧ (parseMethodDescriptor y.desc).map (fun d => d.parameters.length) = some As.length) (hrm : rm.cells = mc ∧ rm.slots = ms) (hfr : rm.frames + 1 ≤ R.frames) (hlo : 8 + (ny + 11) + rm.locals ≤ R.locals) (h1 : n + mc ≤ R.cells) (h2 : k + ms ≤ R.slots) (hsr : (S.map fun v => v.category).sum ≤ 8) (hst : st = As.reverse ++ S) (hd : decode cc pc = .ok (.invokestatic i, 3))
    (kk : ∀ M' r, K M' r → kd_ M' r ≠ 0 → Nk_ M M' → V_ p l e R s m args below meth c nL D M0 Q (pc + 3) L (.ref r :: S) M' (n + mc) (k + ms)) : V_ p l e R s m args below meth c nL D M0 Q pc L st M n k := fun H locs ls hR hN hl hS => by
  obtain ⟨gx, gb, gml, go, gt, gK, -⟩ := g
  have hA : ∀ q : Nat, Aw_ M H.size q → Aw_ M0 s.heap.size q := fun q h => hN.aw hS.1 h
  refine va_callr (va_runS (As := As) (rest := S) ⟨gx, gb, gml, go, gt⟩ (hM H.size) ⟨cb_of gt w1 w5 w6 hy hrm hfr hlo h1 h2 hsr, gt _ w2⟩ ⟨cPc_blind _ _ _ _, fun U hU hW => ⟨rfl, by rw [hU], by rw [hU]; exact hR.moved hW.alike, gK.warm hW⟩⟩ rfl rfl hl.1 hst (by show 2 * 0 + _ ≤ _; omega) hd ⟨h1, h2⟩) hS (fun q _ h => hA q h) hA (fun u ra t H1 locs1 ht hvm hp hB hz1 hk1 hS1 => ?_)
  obtain ⟨rfl, hB0, hB⟩ := hB
  have hR1 := Rp_.moved hvm.symm hB.1
  rw [ht] at hR1
  exact kk u.1 u.2 hp hB0 hB.2.1 H1 locs1 ls hR1 (hN.tr hS.1 hB.2) hl hS1
theorem r_callNv (g : G_ p s m args meth c cc nL own D M0) {y : MethodName} {cy : ByteArray} {ny i mc ms : Nat} {rm : Room} {As st : List Value} {b : Nat} {host : String} {K : Mm → Prop} (hM : ∀ sz, Met l y (Cond.code y cy ny none :: tbG_) rm (cPc_ D M sz (.ref b :: As)) (va_Qv (fun M' => K M') (cB_ D M sz) (Aw_ M sz)) mc ms (Aw_ M sz)) (w1 : Cond.methodLinkNest own i y host ∈ xw_) (w5 : Cond.code y cy ny none ∈ tbG_) (w6 : Cond.initialized y.cls ∈ tbG_) (w2 : Cond.instanceMethod y ∈ tbG_) (hy1 : y.name = "<init>") (hy : y.cls ≠ "java/lang/invoke/MethodHandle" ∧ y.cls ≠ "java/lang/invoke/VarHandle" ∧ (parseMethodDescriptor y.desc).map (fun d => d.parameters.length) = some As.length) (hrm : rm.cells = mc ∧ rm.slots = ms) (hfr : rm.frames + 1 ≤ R.frames) (hlo : 8 + (ny + 11) + rm.locals ≤ R.locals) (h1 : n + mc ≤ R.cells) (h2 : k + ms ≤ R.slots) (hsr : (S.map fun v => v.category).sum ≤ 8) (hst : st = As.reverse ++ .ref b :: S) (hd : decode cc pc = .ok (.invokespecial i, 3))
    (kk : ∀ M', K M' → Nk_ M M' → V_ p l e R s m args below meth c nL D M0 Q (pc + 3) L S M' (n + mc) (k + ms)) : V_ p l e R s m args below meth c nL D M0 Q pc L st M n k := fun H locs ls hR hN hl hS => by
  obtain ⟨gx, gb, gml, go, gt, gK, -⟩ := g
  have hA : ∀ q : Nat, Aw_ M H.size q → Aw_ M0 s.heap.size q := fun q h => hN.aw hS.1 h
  refine va_callv (va_runIN (As := As) (rest := S) ⟨gx, gb, gml, go, gt⟩ (hM H.size) ⟨va_cnB As.length gt (tb_goodIn w5) rfl hrm.1 hrm.2 (gK.2.2 _ w1) (gt _ w6) hy ⟨hfr, hlo⟩, hy1, gt _ w2⟩ ⟨cPc_blind _ _ _ _, fun U hU hW => ⟨rfl, by rw [hU], by rw [hU]; exact hR.moved hW.alike, gK.warm hW⟩⟩ rfl rfl hl.1 hst (by show 2 * 0 + _ ≤ _; omega) hd ⟨h1, h2⟩) hS (fun q _ h => hA q h) hA (fun u t H1 locs1 ht hvm hp hB hz1 hk1 hS1 => ?_)
  have hR1 := Rp_.moved hvm.symm hB.1
  rw [ht] at hR1
  exact kk u hp hB.2.1 H1 locs1 ls hR1 (hN.tr hS.1 hB.2) hl hS1
theorem r_iret (g : G_ p s m args meth c cc nL own D M0) {r : Int32} {mc ms : Nat} {K : Mm → Int32 → Prop} (hr : meth.sig.returnType = some .int) (h1 : n ≤ mc) (h2 : k ≤ ms) (hQ : Q = MQ below (va_Qi (fun r M' => K M' r) (cB_ D M0 s.heap.size) (Aw_ M0 s.heap.size)) args s mc ms (Aw_ M0 s.heap.size)) (hd : decode cc pc = .ok (.ireturn, 1)) (hK : K M r) : V_ p l e R s m args below meth c nL D M0 Q pc L [.int r] M n k := fun H locs ls hR hN hl hS => by
  obtain ⟨gx, gb, gml, go, gt, gK, gR, glk⟩ := g
  subst hQ
  refine W.widen h1 h2 ?_
  exact W.iret gx gb hr (fun t ht hW => ⟨⟨r, M, rfl, hK, hR.moved hW.alike |> fun z => by rw [ht]; exact z, hN⟩, hS.F ht⟩) hS.2.2 hd glk
theorem r_zret (g : G_ p s m args meth c cc nL own D M0) {r : Int32} {mc ms : Nat} {K : Mm → Int32 → Prop} (hr : meth.sig.returnType = some .boolean) (h1 : n ≤ mc) (h2 : k ≤ ms) (hQ : Q = MQ below (va_Qi (fun r M' => K M' r ∧ bz_ r) (cB_ D M0 s.heap.size) (Aw_ M0 s.heap.size)) args s mc ms (Aw_ M0 s.heap.size)) (hbz : bz_ r) (hd : decode cc pc = .ok (.ireturn, 1)) (hK : K M r) : V_ p l e R s m args below meth c nL D M0 Q pc L [.int r] M n k := fun H locs ls hR hN hl hS => by
  obtain ⟨gx, gb, gml, go, gt, gK, gR, glk⟩ := g
  subst hQ
  refine W.widen h1 h2 ?_
  exact W.zret gx gb hr (by rcases hbz with rfl | rfl <;> rfl) (fun t ht hW => ⟨⟨r, M, rfl, ⟨hK, hbz⟩, hR.moved hW.alike |> fun z => by rw [ht]; exact z, hN⟩, hS.F ht⟩) hS.2.2 hd glk
theorem r_lret (g : G_ p s m args meth c cc nL own D M0) {r : Int64} {mc ms : Nat} {K : Mm → Int64 → Prop} (hr : meth.sig.returnType = some .long) (h1 : n ≤ mc) (h2 : k ≤ ms) (hQ : Q = MQ below (va_Ql (fun r M' => K M' r) (cB_ D M0 s.heap.size) (Aw_ M0 s.heap.size)) args s mc ms (Aw_ M0 s.heap.size)) (hd : decode cc pc = .ok (.lreturn, 1)) (hK : K M r) : V_ p l e R s m args below meth c nL D M0 Q pc L [.long r] M n k := fun H locs ls hR hN hl hS => by
  obtain ⟨gx, gb, gml, go, gt, gK, gR, glk⟩ := g
  subst hQ
  refine W.widen h1 h2 ?_
  exact W.lret gx gb hr (fun t ht hW => ⟨⟨r, M, rfl, hK, hR.moved hW.alike |> fun z => by rw [ht]; exact z, hN⟩, hS.F ht⟩) hS.2.2 hd glk
theorem r_vret (g : G_ p s m args meth c cc nL own D M0) {mc ms : Nat} {K : Mm → Prop} (hr : meth.sig.returnType = none) (h1 : n ≤ mc) (h2 : k ≤ ms) (hQ : Q = MQ below (va_Qv (fun M' => K M') (cB_ D M0 s.heap.size) (Aw_ M0 s.heap.size)) args s mc ms (Aw_ M0 s.heap.size)) (hd : decode cc pc = .ok (.return_, 1)) (hK : K M) : V_ p l e R s m args below meth c nL D M0 Q pc L [] M n k := fun H locs ls hR hN hl hS => by
  obtain ⟨gx, gb, gml, go, gt, gK, gR, glk⟩ := g
  subst hQ
  refine W.widen h1 h2 ?_
  exact W.vret gx gb hr (fun t ht hW => ⟨⟨M, rfl, hK, hR.moved hW.alike |> fun z => by rw [ht]; exact z, hN⟩, hS.F ht⟩) hS.2.2 hd glk
theorem r_rret (g : G_ p s m args meth c cc nL own D M0) {x : Nat} {mc ms : Nat} {rt : FieldType} {K : Mm → Nat → Prop} (hr : meth.sig.returnType = some rt) (hrt : (∃ n, rt = .object n) ∨ ∃ t, rt = .array t) (h1 : n ≤ mc) (h2 : k ≤ ms) (hQ : Q = MQ below (va_Qr (S := Mm × Nat) (fun u => K u.1 u.2) (fun u a t => a = u.2 ∧ kd_ u.1 a ≠ 0 ∧ cB_ D M0 s.heap.size u.1 t) (Aw_ M0 s.heap.size)) args s mc ms (Aw_ M0 s.heap.size)) (hx : kd_ M x ≠ 0) (hd : decode cc pc = .ok (.areturn, 1)) (hK : K M x) : V_ p l e R s m args below meth c nL D M0 Q pc L [.ref x] M n k := fun H locs ls hR hN hl hS => by
  obtain ⟨gx, gb, gml, go, gt, gK, gR, glk⟩ := g
  subst hQ
  refine W.widen h1 h2 ?_
  exact W.aret gx gb hr hrt (Or.inr ⟨x, rfl⟩) (fun t ht hW => ⟨⟨(M, x), x, rfl, hK, rfl, hx, hR.moved hW.alike |> fun z => by rw [ht]; exact z, hN⟩, hS.F ht⟩) hS.2.2 hd glk
end ROWS
end
section
/-! the words of the tables, by their places -/
theorem tw_0 : (Jvm.Cond.initialized "ColdFrameLaw") ∈ tbG_ := tb_in (List.mem_append_right _ (List.mem_of_getElem? (i := 0) (by decide +kernel))) rfl
theorem tw_1 : (Jvm.Cond.initialized "ColdFrame") ∈ tbG_ := tb_in (List.mem_append_right _ (List.mem_of_getElem? (i := 1) (by decide +kernel))) rfl
theorem tw_2 : (Jvm.Cond.initialized "ColdFrame$Table") ∈ tbG_ := tb_in (List.mem_append_right _ (List.mem_of_getElem? (i := 2) (by decide +kernel))) rfl
theorem tw_3 : (Jvm.Cond.initialized "java/util/AbstractCollection") ∈ tbG_ := tb_in (List.mem_append_right _ (List.mem_of_getElem? (i := 3) (by decide +kernel))) rfl
theorem tw_4 : (Jvm.Cond.initialized "java/util/AbstractList") ∈ tbG_ := tb_in (List.mem_append_right _ (List.mem_of_getElem? (i := 4) (by decide +kernel))) rfl
theorem tw_5 : (Jvm.Cond.initialized "java/util/ArrayList") ∈ tbG_ := tb_in (List.mem_append_right _ (List.mem_of_getElem? (i := 5) (by decide +kernel))) rfl
theorem tw_6 : (Jvm.Cond.initialized "ColdFrame$Sorter") ∈ tbG_ := tb_in (List.mem_append_right _ (List.mem_of_getElem? (i := 6) (by decide +kernel))) rfl
theorem tw_7 : (Jvm.Cond.initialized "ColdFrame$Block") ∈ tbG_ := tb_in (List.mem_append_right _ (List.mem_of_getElem? (i := 7) (by decide +kernel))) rfl
theorem tw_8 : (Jvm.Cond.initialized "ColdFrame$Zone") ∈ tbG_ := tb_in (List.mem_append_right _ (List.mem_of_getElem? (i := 8) (by decide +kernel))) rfl
theorem tw_9 : (Jvm.Cond.initialized "ColdFrame$Query") ∈ tbG_ := tb_in (List.mem_append_right _ (List.mem_of_getElem? (i := 9) (by decide +kernel))) rfl
theorem tw_10 : (Jvm.Cond.initialized "ColdFrame$Group") ∈ tbG_ := tb_in (List.mem_append_right _ (List.mem_of_getElem? (i := 10) (by decide +kernel))) rfl
theorem tw_11 : (Jvm.Cond.initialized "ColdFrame$Condition") ∈ tbG_ := tb_in (List.mem_append_right _ (List.mem_of_getElem? (i := 11) (by decide +kernel))) rfl
theorem tw_12 : (Jvm.Cond.initialized "ColdFrame$Search") ∈ tbG_ := tb_in (List.mem_append_right _ (List.mem_of_getElem? (i := 12) (by decide +kernel))) rfl
theorem tw_13 : (Jvm.Cond.initialized "ColdFrame$Result") ∈ tbG_ := tb_in (List.mem_append_right _ (List.mem_of_getElem? (i := 13) (by decide +kernel))) rfl
theorem tw_14 : (Jvm.Cond.initialized "java/lang/Throwable") ∈ tbG_ := tb_in (List.mem_append_right _ (List.mem_of_getElem? (i := 14) (by decide +kernel))) rfl
theorem tw_15 : (Jvm.Cond.initialized "java/lang/Exception") ∈ tbG_ := tb_in (List.mem_append_right _ (List.mem_of_getElem? (i := 15) (by decide +kernel))) rfl
theorem tw_16 : (Jvm.Cond.initialized "java/lang/RuntimeException") ∈ tbG_ := tb_in (List.mem_append_right _ (List.mem_of_getElem? (i := 16) (by decide +kernel))) rfl
theorem tw_17 : (Jvm.Cond.initialized "java/lang/IllegalStateException") ∈ tbG_ := tb_in (List.mem_append_right _ (List.mem_of_getElem? (i := 17) (by decide +kernel))) rfl
theorem tw_18 : (Jvm.Cond.initialized "ColdFrame$Column") ∈ tbG_ := tb_in (List.mem_append_right _ (List.mem_of_getElem? (i := 18) (by decide +kernel))) rfl
theorem tw_19 : (Jvm.Cond.initialized "jdk/internal/util/ArraysSupport") ∈ tbG_ := tb_in (List.mem_append_right _ (List.mem_of_getElem? (i := 19) (by decide +kernel))) rfl
theorem tw_20 : (Jvm.Cond.initialized "java/lang/Math") ∈ tbG_ := tb_in (List.mem_append_right _ (List.mem_of_getElem? (i := 20) (by decide +kernel))) rfl
theorem tw_21 : (Jvm.Cond.initialized "java/util/Arrays") ∈ tbG_ := tb_in (List.mem_append_right _ (List.mem_of_getElem? (i := 21) (by decide +kernel))) rfl
theorem tw_22 : (Jvm.Cond.initialized "java/lang/System") ∈ tbG_ := tb_in (List.mem_append_right _ (List.mem_of_getElem? (i := 22) (by decide +kernel))) rfl
theorem tw_23 : (Jvm.Cond.initialized "java/lang/IndexOutOfBoundsException") ∈ tbG_ := tb_in (List.mem_append_right _ (List.mem_of_getElem? (i := 23) (by decide +kernel))) rfl
theorem tw_24 : (Jvm.Cond.initialized "java/util/Objects") ∈ tbG_ := tb_in (List.mem_append_right _ (List.mem_of_getElem? (i := 24) (by decide +kernel))) rfl
theorem tw_25 : (Jvm.Cond.initialized "jdk/internal/util/Preconditions") ∈ tbG_ := tb_in (List.mem_append_right _ (List.mem_of_getElem? (i := 25) (by decide +kernel))) rfl
theorem tw_26 : (Jvm.Cond.initialized "java/lang/IllegalArgumentException") ∈ tbG_ := tb_in (List.mem_append_right _ (List.mem_of_getElem? (i := 26) (by decide +kernel))) rfl
theorem tw_27 : (Jvm.Cond.classLink "ColdFrameLaw" (9 : Nat) "ColdFrame") ∈ tbG_ := tb_in (List.mem_append_right _ (List.mem_of_getElem? (i := 27) (by decide +kernel))) rfl
theorem tw_28 : (Jvm.Cond.instantiable "ColdFrame" (6 : Nat)) ∈ tbG_ := tb_in (List.mem_append_right _ (List.mem_of_getElem? (i := 28) (by decide +kernel))) rfl
theorem tw_29 : (Jvm.Cond.methodLink "ColdFrameLaw" (11 : Nat) ({ cls := "ColdFrame", name := "<init>", desc := "()V" } : Jvm.MethodName)) ∈ tbG_ := tb_in (List.mem_append_right _ (List.mem_of_getElem? (i := 29) (by decide +kernel))) rfl
theorem tw_30 : (Jvm.Cond.instanceMethod ({ cls := "ColdFrame", name := "<init>", desc := "()V" } : Jvm.MethodName)) ∈ tbG_ := tb_in (List.mem_append_right _ (List.mem_of_getElem? (i := 30) (by decide +kernel))) rfl
set_option maxRecDepth 20000 in
theorem tw_31 : (Jvm.Cond.code ({ cls := "ColdFrame", name := "<init>", desc := "()V" } : Jvm.MethodName) prog_1_method_1_code (1 : Nat) (Option.none : Option Jvm.ClassFile.FieldType)) ∈ tbG_ := tb_in (List.mem_append_right _ (List.mem_of_getElem? (i := 31) (rfl))) rfl
theorem tw_32 : (Jvm.Cond.methodLink "ColdFrame" (1 : Nat) ({ cls := "java/lang/Object", name := "<init>", desc := "()V" } : Jvm.MethodName)) ∈ tbG_ := tb_in (List.mem_append_right _ (List.mem_of_getElem? (i := 32) (by decide +kernel))) rfl
theorem tw_33 : (Jvm.Cond.instanceMethod ({ cls := "java/lang/Object", name := "<init>", desc := "()V" } : Jvm.MethodName)) ∈ tbG_ := tb_in (List.mem_append_right _ (List.mem_of_getElem? (i := 33) (by decide +kernel))) rfl
set_option maxRecDepth 20000 in
theorem tw_34 : (Jvm.Cond.code ({ cls := "java/lang/Object", name := "<init>", desc := "()V" } : Jvm.MethodName) object_method_1_code (1 : Nat) (Option.none : Option Jvm.ClassFile.FieldType)) ∈ tbG_ := tb_in (List.mem_append_right _ (List.mem_of_getElem? (i := 34) (rfl))) rfl
theorem tw_35 : (Jvm.Cond.classLink "ColdFrame" (7 : Nat) "ColdFrame$Table") ∈ tbG_ := tb_in (List.mem_append_right _ (List.mem_of_getElem? (i := 35) (by decide +kernel))) rfl
theorem tw_36 : (Jvm.Cond.instantiable "ColdFrame$Table" (11 : Nat)) ∈ tbG_ := tb_in (List.mem_append_right _ (List.mem_of_getElem? (i := 36) (by decide +kernel))) rfl
theorem tx_37 : (Jvm.Cond.methodLinkNest "ColdFrame" (9 : Nat) ({ cls := "ColdFrame$Table", name := "<init>", desc := "()V" } : Jvm.MethodName) "ColdFrame") ∈ xw_ := List.mem_filter.mpr ⟨List.mem_append_right _ (List.mem_of_getElem? (i := 37) (by decide +kernel)), rfl⟩
theorem tw_38 : (Jvm.Cond.instanceMethod ({ cls := "ColdFrame$Table", name := "<init>", desc := "()V" } : Jvm.MethodName)) ∈ tbG_ := tb_in (List.mem_append_right _ (List.mem_of_getElem? (i := 38) (by decide +kernel))) rfl
set_option maxRecDepth 20000 in
theorem tw_39 : (Jvm.Cond.code ({ cls := "ColdFrame$Table", name := "<init>", desc := "()V" } : Jvm.MethodName) prog_10_method_1_code (1 : Nat) (Option.none : Option Jvm.ClassFile.FieldType)) ∈ tbG_ := tb_in (List.mem_append_right _ (List.mem_of_getElem? (i := 39) (rfl))) rfl
theorem tw_40 : (Jvm.Cond.methodLink "ColdFrame$Table" (3 : Nat) ({ cls := "java/lang/Object", name := "<init>", desc := "()V" } : Jvm.MethodName)) ∈ tbG_ := tb_in (List.mem_append_right _ (List.mem_of_getElem? (i := 40) (by decide +kernel))) rfl
theorem tw_41 : (Jvm.Cond.classLink "ColdFrame$Table" (9 : Nat) "java/util/ArrayList") ∈ tbG_ := tb_in (List.mem_append_right _ (List.mem_of_getElem? (i := 41) (by decide +kernel))) rfl
theorem tw_42 : (Jvm.Cond.instantiable "java/util/ArrayList" (3 : Nat)) ∈ tbG_ := tb_in (List.mem_append_right _ (List.mem_of_getElem? (i := 42) (by decide +kernel))) rfl
theorem tw_43 : (Jvm.Cond.methodLink "ColdFrame$Table" (11 : Nat) ({ cls := "java/util/ArrayList", name := "<init>", desc := "()V" } : Jvm.MethodName)) ∈ tbG_ := tb_in (List.mem_append_right _ (List.mem_of_getElem? (i := 43) (by decide +kernel))) rfl
theorem tw_44 : (Jvm.Cond.instanceMethod ({ cls := "java/util/ArrayList", name := "<init>", desc := "()V" } : Jvm.MethodName)) ∈ tbG_ := tb_in (List.mem_append_right _ (List.mem_of_getElem? (i := 44) (by decide +kernel))) rfl
set_option maxRecDepth 20000 in
theorem tw_45 : (Jvm.Cond.code ({ cls := "java/util/ArrayList", name := "<init>", desc := "()V" } : Jvm.MethodName) prog_28_method_2_code (1 : Nat) (Option.none : Option Jvm.ClassFile.FieldType)) ∈ tbG_ := tb_in (List.mem_append_right _ (List.mem_of_getElem? (i := 45) (rfl))) rfl
theorem tw_46 : (Jvm.Cond.methodLink "java/util/ArrayList" (1 : Nat) ({ cls := "java/util/AbstractList", name := "<init>", desc := "()V" } : Jvm.MethodName)) ∈ tbG_ := tb_in (List.mem_append_right _ (List.mem_of_getElem? (i := 46) (by decide +kernel))) rfl
theorem tw_47 : (Jvm.Cond.instanceMethod ({ cls := "java/util/AbstractList", name := "<init>", desc := "()V" } : Jvm.MethodName)) ∈ tbG_ := tb_in (List.mem_append_right _ (List.mem_of_getElem? (i := 47) (by decide +kernel))) rfl
set_option maxRecDepth 20000 in
theorem tw_48 : (Jvm.Cond.code ({ cls := "java/util/AbstractList", name := "<init>", desc := "()V" } : Jvm.MethodName) prog_27_method_1_code (1 : Nat) (Option.none : Option Jvm.ClassFile.FieldType)) ∈ tbG_ := tb_in (List.mem_append_right _ (List.mem_of_getElem? (i := 48) (rfl))) rfl
theorem tw_49 : (Jvm.Cond.methodLink "java/util/AbstractList" (1 : Nat) ({ cls := "java/util/AbstractCollection", name := "<init>", desc := "()V" } : Jvm.MethodName)) ∈ tbG_ := tb_in (List.mem_append_right _ (List.mem_of_getElem? (i := 49) (by decide +kernel))) rfl
theorem tw_50 : (Jvm.Cond.instanceMethod ({ cls := "java/util/AbstractCollection", name := "<init>", desc := "()V" } : Jvm.MethodName)) ∈ tbG_ := tb_in (List.mem_append_right _ (List.mem_of_getElem? (i := 50) (by decide +kernel))) rfl
set_option maxRecDepth 20000 in
theorem tw_51 : (Jvm.Cond.code ({ cls := "java/util/AbstractCollection", name := "<init>", desc := "()V" } : Jvm.MethodName) prog_26_method_1_code (1 : Nat) (Option.none : Option Jvm.ClassFile.FieldType)) ∈ tbG_ := tb_in (List.mem_append_right _ (List.mem_of_getElem? (i := 51) (rfl))) rfl
theorem tw_52 : (Jvm.Cond.methodLink "java/util/AbstractCollection" (1 : Nat) ({ cls := "java/lang/Object", name := "<init>", desc := "()V" } : Jvm.MethodName)) ∈ tbG_ := tb_in (List.mem_append_right _ (List.mem_of_getElem? (i := 52) (by decide +kernel))) rfl
theorem tw_53 : (Jvm.Cond.fieldLink "java/util/ArrayList" (39 : Nat) "java/util/ArrayList" "DEFAULTCAPACITY_EMPTY_ELEMENTDATA" "[Ljava/lang/Object;") ∈ tbG_ := tb_in (List.mem_append_right _ (List.mem_of_getElem? (i := 53) (by decide +kernel))) rfl
theorem tw_55 : (Jvm.Cond.fieldLink "java/util/ArrayList" (9 : Nat) "java/util/ArrayList" "elementData" "[Ljava/lang/Object;") ∈ tbG_ := tb_in (List.mem_append_right _ (List.mem_of_getElem? (i := 55) (by decide +kernel))) rfl
theorem tw_56 : (Jvm.Cond.fieldLink "java/util/ArrayList" (48 : Nat) "java/util/ArrayList" "size" "I") ∈ tbG_ := tb_in (List.mem_append_right _ (List.mem_of_getElem? (i := 56) (by decide +kernel))) rfl
theorem tw_57 : (Jvm.Cond.fieldLink "java/util/AbstractList" (7 : Nat) "java/util/AbstractList" "modCount" "I") ∈ tbG_ := tb_in (List.mem_append_right _ (List.mem_of_getElem? (i := 57) (by decide +kernel))) rfl
theorem tw_58 : (Jvm.Cond.fieldLink "java/util/ArrayList" (63 : Nat) "java/util/ArrayList" "modCount" "I") ∈ tbG_ := tb_in (List.mem_append_right _ (List.mem_of_getElem? (i := 58) (by decide +kernel))) rfl
theorem tw_59 : (Jvm.Cond.sameField "java/util/ArrayList" "java/util/AbstractList" "modCount" "I") ∈ tbG_ := tb_in (List.mem_append_right _ (List.mem_of_getElem? (i := 59) (by decide +kernel))) rfl
theorem tw_67 : (Jvm.Cond.classLink "ColdFrame$Table" (29 : Nat) "ColdFrame$Sorter") ∈ tbG_ := tb_in (List.mem_append_right _ (List.mem_of_getElem? (i := 67) (by decide +kernel))) rfl
theorem tw_68 : (Jvm.Cond.instantiable "ColdFrame$Sorter" (2 : Nat)) ∈ tbG_ := tb_in (List.mem_append_right _ (List.mem_of_getElem? (i := 68) (by decide +kernel))) rfl
theorem tx_69 : (Jvm.Cond.methodLinkNest "ColdFrame$Table" (31 : Nat) ({ cls := "ColdFrame$Sorter", name := "<init>", desc := "()V" } : Jvm.MethodName) "ColdFrame") ∈ xw_ := List.mem_filter.mpr ⟨List.mem_append_right _ (List.mem_of_getElem? (i := 69) (by decide +kernel)), rfl⟩
theorem tw_70 : (Jvm.Cond.instanceMethod ({ cls := "ColdFrame$Sorter", name := "<init>", desc := "()V" } : Jvm.MethodName)) ∈ tbG_ := tb_in (List.mem_append_right _ (List.mem_of_getElem? (i := 70) (by decide +kernel))) rfl
set_option maxRecDepth 20000 in
theorem tw_71 : (Jvm.Cond.code ({ cls := "ColdFrame$Sorter", name := "<init>", desc := "()V" } : Jvm.MethodName) prog_9_method_1_code (1 : Nat) (Option.none : Option Jvm.ClassFile.FieldType)) ∈ tbG_ := tb_in (List.mem_append_right _ (List.mem_of_getElem? (i := 71) (rfl))) rfl
theorem tw_72 : (Jvm.Cond.methodLink "ColdFrame$Sorter" (3 : Nat) ({ cls := "java/lang/Object", name := "<init>", desc := "()V" } : Jvm.MethodName)) ∈ tbG_ := tb_in (List.mem_append_right _ (List.mem_of_getElem? (i := 72) (by decide +kernel))) rfl
theorem tw_73 : (Jvm.Cond.fieldLink "ColdFrame$Sorter" (9 : Nat) "ColdFrame$Sorter" "keys" "[J") ∈ tbG_ := tb_in (List.mem_append_right _ (List.mem_of_getElem? (i := 73) (by decide +kernel))) rfl
theorem tw_74 : (Jvm.Cond.fieldLink "ColdFrame$Sorter" (15 : Nat) "ColdFrame$Sorter" "spare" "[I") ∈ tbG_ := tb_in (List.mem_append_right _ (List.mem_of_getElem? (i := 74) (by decide +kernel))) rfl
theorem tw_80 : (Jvm.Cond.arrayClass Jvm.ClassFile.FieldType.boolean) ∈ tbG_ := tb_in (List.mem_append_right _ (List.mem_of_getElem? (i := 80) (by decide +kernel))) rfl
theorem tw_81 : (Jvm.Cond.arrayClass Jvm.ClassFile.FieldType.int) ∈ tbG_ := tb_in (List.mem_append_right _ (List.mem_of_getElem? (i := 81) (by decide +kernel))) rfl
theorem tw_82 : (Jvm.Cond.arrayClass Jvm.ClassFile.FieldType.long) ∈ tbG_ := tb_in (List.mem_append_right _ (List.mem_of_getElem? (i := 82) (by decide +kernel))) rfl
theorem tw_83 : (Jvm.Cond.classLink "ColdFrame$Table" (36 : Nat) "ColdFrame$Block") ∈ tbG_ := tb_in (List.mem_append_right _ (List.mem_of_getElem? (i := 83) (by decide +kernel))) rfl
theorem tw_84 : (Jvm.Cond.instantiable "ColdFrame$Block" (4 : Nat)) ∈ tbG_ := tb_in (List.mem_append_right _ (List.mem_of_getElem? (i := 84) (by decide +kernel))) rfl
theorem tw_85 : (Jvm.Cond.methodLink "ColdFrame$Table" (38 : Nat) ({ cls := "ColdFrame$Block", name := "<init>", desc := "()V" } : Jvm.MethodName)) ∈ tbG_ := tb_in (List.mem_append_right _ (List.mem_of_getElem? (i := 85) (by decide +kernel))) rfl
theorem tw_86 : (Jvm.Cond.instanceMethod ({ cls := "ColdFrame$Block", name := "<init>", desc := "()V" } : Jvm.MethodName)) ∈ tbG_ := tb_in (List.mem_append_right _ (List.mem_of_getElem? (i := 86) (by decide +kernel))) rfl
set_option maxRecDepth 20000 in
theorem tw_87 : (Jvm.Cond.code ({ cls := "ColdFrame$Block", name := "<init>", desc := "()V" } : Jvm.MethodName) prog_2_method_1_code (2 : Nat) (Option.none : Option Jvm.ClassFile.FieldType)) ∈ tbG_ := tb_in (List.mem_append_right _ (List.mem_of_getElem? (i := 87) (rfl))) rfl
theorem tw_88 : (Jvm.Cond.methodLink "ColdFrame$Block" (3 : Nat) ({ cls := "java/lang/Object", name := "<init>", desc := "()V" } : Jvm.MethodName)) ∈ tbG_ := tb_in (List.mem_append_right _ (List.mem_of_getElem? (i := 88) (by decide +kernel))) rfl
theorem tw_89 : (Jvm.Cond.classLink "ColdFrame$Block" (15 : Nat) "ColdFrame$Zone") ∈ tbG_ := tb_in (List.mem_append_right _ (List.mem_of_getElem? (i := 89) (by decide +kernel))) rfl
theorem tx_90 : (Jvm.Cond.arrayOver (Jvm.ClassFile.FieldType.object "ColdFrame$Zone")) ∈ xw_ := List.mem_filter.mpr ⟨List.mem_append_right _ (List.mem_of_getElem? (i := 90) (by decide +kernel)), rfl⟩
theorem tw_91 : (Jvm.Cond.instantiable "ColdFrame$Zone" (9 : Nat)) ∈ tbG_ := tb_in (List.mem_append_right _ (List.mem_of_getElem? (i := 91) (by decide +kernel))) rfl
theorem tx_92 : (Jvm.Cond.methodLinkNest "ColdFrame$Block" (21 : Nat) ({ cls := "ColdFrame$Zone", name := "<init>", desc := "()V" } : Jvm.MethodName) "ColdFrame") ∈ xw_ := List.mem_filter.mpr ⟨List.mem_append_right _ (List.mem_of_getElem? (i := 92) (by decide +kernel)), rfl⟩
theorem tw_93 : (Jvm.Cond.instanceMethod ({ cls := "ColdFrame$Zone", name := "<init>", desc := "()V" } : Jvm.MethodName)) ∈ tbG_ := tb_in (List.mem_append_right _ (List.mem_of_getElem? (i := 93) (by decide +kernel))) rfl
set_option maxRecDepth 20000 in
theorem tw_94 : (Jvm.Cond.code ({ cls := "ColdFrame$Zone", name := "<init>", desc := "()V" } : Jvm.MethodName) prog_11_method_1_code (1 : Nat) (Option.none : Option Jvm.ClassFile.FieldType)) ∈ tbG_ := tb_in (List.mem_append_right _ (List.mem_of_getElem? (i := 94) (rfl))) rfl
theorem tw_95 : (Jvm.Cond.methodLink "ColdFrame$Zone" (3 : Nat) ({ cls := "java/lang/Object", name := "<init>", desc := "()V" } : Jvm.MethodName)) ∈ tbG_ := tb_in (List.mem_append_right _ (List.mem_of_getElem? (i := 95) (by decide +kernel))) rfl
theorem tw_96 : (Jvm.Cond.fieldLink "ColdFrame$Zone" (15 : Nat) "ColdFrame$Zone" "count" "I") ∈ tbG_ := tb_in (List.mem_append_right _ (List.mem_of_getElem? (i := 96) (by decide +kernel))) rfl
theorem tw_97 : (Jvm.Cond.fieldLink "ColdFrame$Condition" (26 : Nat) "ColdFrame$Zone" "count" "I") ∈ tbG_ := tb_in (List.mem_append_right _ (List.mem_of_getElem? (i := 97) (by decide +kernel))) rfl
theorem tw_98 : (Jvm.Cond.fieldLink "ColdFrame$Zone" (26 : Nat) "ColdFrame$Zone" "nullCount" "I") ∈ tbG_ := tb_in (List.mem_append_right _ (List.mem_of_getElem? (i := 98) (by decide +kernel))) rfl
theorem tw_99 : (Jvm.Cond.fieldLink "ColdFrame$Condition" (21 : Nat) "ColdFrame$Zone" "nullCount" "I") ∈ tbG_ := tb_in (List.mem_append_right _ (List.mem_of_getElem? (i := 99) (by decide +kernel))) rfl
theorem tw_100 : (Jvm.Cond.fieldLink "ColdFrame" (200 : Nat) "ColdFrame$Zone" "nullCount" "I") ∈ tbG_ := tb_in (List.mem_append_right _ (List.mem_of_getElem? (i := 100) (by decide +kernel))) rfl
theorem tw_101 : (Jvm.Cond.fieldLink "ColdFrame$Zone" (45 : Nat) "ColdFrame$Zone" "distinctCount" "I") ∈ tbG_ := tb_in (List.mem_append_right _ (List.mem_of_getElem? (i := 101) (by decide +kernel))) rfl
theorem tw_102 : (Jvm.Cond.fieldLink "ColdFrame$Search" (143 : Nat) "ColdFrame$Zone" "distinctCount" "I") ∈ tbG_ := tb_in (List.mem_append_right _ (List.mem_of_getElem? (i := 102) (by decide +kernel))) rfl
theorem tw_103 : (Jvm.Cond.fieldLink "ColdFrame$Condition" (49 : Nat) "ColdFrame$Zone" "distinctCount" "I") ∈ tbG_ := tb_in (List.mem_append_right _ (List.mem_of_getElem? (i := 103) (by decide +kernel))) rfl
theorem tw_104 : (Jvm.Cond.fieldLink "ColdFrame" (203 : Nat) "ColdFrame$Zone" "distinctCount" "I") ∈ tbG_ := tb_in (List.mem_append_right _ (List.mem_of_getElem? (i := 104) (by decide +kernel))) rfl
theorem tw_105 : (Jvm.Cond.fieldLink "ColdFrame$Zone" (56 : Nat) "ColdFrame$Zone" "runCount" "I") ∈ tbG_ := tb_in (List.mem_append_right _ (List.mem_of_getElem? (i := 105) (by decide +kernel))) rfl
theorem tw_106 : (Jvm.Cond.fieldLink "ColdFrame$Search" (140 : Nat) "ColdFrame$Zone" "runCount" "I") ∈ tbG_ := tb_in (List.mem_append_right _ (List.mem_of_getElem? (i := 106) (by decide +kernel))) rfl
theorem tw_107 : (Jvm.Cond.fieldLink "ColdFrame" (206 : Nat) "ColdFrame$Zone" "runCount" "I") ∈ tbG_ := tb_in (List.mem_append_right _ (List.mem_of_getElem? (i := 107) (by decide +kernel))) rfl
theorem tw_108 : (Jvm.Cond.fieldLink "ColdFrame$Zone" (32 : Nat) "ColdFrame$Zone" "low" "I") ∈ tbG_ := tb_in (List.mem_append_right _ (List.mem_of_getElem? (i := 108) (by decide +kernel))) rfl
theorem tw_109 : (Jvm.Cond.fieldLink "ColdFrame$Condition" (29 : Nat) "ColdFrame$Zone" "low" "I") ∈ tbG_ := tb_in (List.mem_append_right _ (List.mem_of_getElem? (i := 109) (by decide +kernel))) rfl
theorem tw_110 : (Jvm.Cond.fieldLink "ColdFrame" (209 : Nat) "ColdFrame$Zone" "low" "I") ∈ tbG_ := tb_in (List.mem_append_right _ (List.mem_of_getElem? (i := 110) (by decide +kernel))) rfl
theorem tw_111 : (Jvm.Cond.fieldLink "ColdFrame$Zone" (35 : Nat) "ColdFrame$Zone" "high" "I") ∈ tbG_ := tb_in (List.mem_append_right _ (List.mem_of_getElem? (i := 111) (by decide +kernel))) rfl
theorem tw_112 : (Jvm.Cond.fieldLink "ColdFrame$Condition" (32 : Nat) "ColdFrame$Zone" "high" "I") ∈ tbG_ := tb_in (List.mem_append_right _ (List.mem_of_getElem? (i := 112) (by decide +kernel))) rfl
theorem tw_113 : (Jvm.Cond.fieldLink "ColdFrame" (212 : Nat) "ColdFrame$Zone" "high" "I") ∈ tbG_ := tb_in (List.mem_append_right _ (List.mem_of_getElem? (i := 113) (by decide +kernel))) rfl
theorem tw_114 : (Jvm.Cond.fieldLink "ColdFrame$Zone" (38 : Nat) "ColdFrame$Zone" "form" "I") ∈ tbG_ := tb_in (List.mem_append_right _ (List.mem_of_getElem? (i := 114) (by decide +kernel))) rfl
theorem tw_115 : (Jvm.Cond.fieldLink "ColdFrame$Block" (57 : Nat) "ColdFrame$Zone" "form" "I") ∈ tbG_ := tb_in (List.mem_append_right _ (List.mem_of_getElem? (i := 115) (by decide +kernel))) rfl
theorem tw_116 : (Jvm.Cond.fieldLink "ColdFrame$Condition" (46 : Nat) "ColdFrame$Zone" "form" "I") ∈ tbG_ := tb_in (List.mem_append_right _ (List.mem_of_getElem? (i := 116) (by decide +kernel))) rfl
theorem tw_117 : (Jvm.Cond.fieldLink "ColdFrame" (184 : Nat) "ColdFrame$Zone" "form" "I") ∈ tbG_ := tb_in (List.mem_append_right _ (List.mem_of_getElem? (i := 117) (by decide +kernel))) rfl
theorem tw_118 : (Jvm.Cond.fieldLink "ColdFrame$Zone" (9 : Nat) "ColdFrame$Zone" "values" "[I") ∈ tbG_ := tb_in (List.mem_append_right _ (List.mem_of_getElem? (i := 118) (by decide +kernel))) rfl
theorem tw_119 : (Jvm.Cond.fieldLink "ColdFrame$Zone" (59 : Nat) "ColdFrame$Zone" "greatestStep" "J") ∈ tbG_ := tb_in (List.mem_append_right _ (List.mem_of_getElem? (i := 119) (by decide +kernel))) rfl
theorem tw_139 : (Jvm.Cond.fieldLink "ColdFrame$Block" (9 : Nat) "ColdFrame$Block" "rows" "[I") ∈ tbG_ := tb_in (List.mem_append_right _ (List.mem_of_getElem? (i := 139) (by decide +kernel))) rfl
theorem tw_140 : (Jvm.Cond.fieldLink "ColdFrame$Search" (146 : Nat) "ColdFrame$Block" "rows" "[I") ∈ tbG_ := tb_in (List.mem_append_right _ (List.mem_of_getElem? (i := 140) (by decide +kernel))) rfl
theorem tw_141 : (Jvm.Cond.fieldLink "ColdFrame$Table" (120 : Nat) "ColdFrame$Block" "rows" "[I") ∈ tbG_ := tb_in (List.mem_append_right _ (List.mem_of_getElem? (i := 141) (by decide +kernel))) rfl
theorem tw_142 : (Jvm.Cond.fieldLink "ColdFrame" (177 : Nat) "ColdFrame$Block" "rows" "[I") ∈ tbG_ := tb_in (List.mem_append_right _ (List.mem_of_getElem? (i := 142) (by decide +kernel))) rfl
theorem tw_143 : (Jvm.Cond.fieldLink "ColdFrame$Block" (17 : Nat) "ColdFrame$Block" "zones" "[LColdFrame$Zone;") ∈ tbG_ := tb_in (List.mem_append_right _ (List.mem_of_getElem? (i := 143) (by decide +kernel))) rfl
theorem tw_144 : (Jvm.Cond.fieldLink "ColdFrame$Search" (111 : Nat) "ColdFrame$Block" "zones" "[LColdFrame$Zone;") ∈ tbG_ := tb_in (List.mem_append_right _ (List.mem_of_getElem? (i := 144) (by decide +kernel))) rfl
theorem tw_145 : (Jvm.Cond.fieldLink "ColdFrame$Table" (134 : Nat) "ColdFrame$Block" "zones" "[LColdFrame$Zone;") ∈ tbG_ := tb_in (List.mem_append_right _ (List.mem_of_getElem? (i := 145) (by decide +kernel))) rfl
theorem tw_146 : (Jvm.Cond.fieldLink "ColdFrame" (356 : Nat) "ColdFrame$Block" "zones" "[LColdFrame$Zone;") ∈ tbG_ := tb_in (List.mem_append_right _ (List.mem_of_getElem? (i := 146) (by decide +kernel))) rfl
theorem tw_147 : (Jvm.Cond.fieldLink "ColdFrame$Block" (22 : Nat) "ColdFrame$Block" "count" "I") ∈ tbG_ := tb_in (List.mem_append_right _ (List.mem_of_getElem? (i := 147) (by decide +kernel))) rfl
theorem tw_148 : (Jvm.Cond.fieldLink "ColdFrame$Search" (77 : Nat) "ColdFrame$Block" "count" "I") ∈ tbG_ := tb_in (List.mem_append_right _ (List.mem_of_getElem? (i := 148) (by decide +kernel))) rfl
theorem tw_149 : (Jvm.Cond.fieldLink "ColdFrame$Table" (93 : Nat) "ColdFrame$Block" "count" "I") ∈ tbG_ := tb_in (List.mem_append_right _ (List.mem_of_getElem? (i := 149) (by decide +kernel))) rfl
theorem tw_150 : (Jvm.Cond.fieldLink "ColdFrame" (124 : Nat) "ColdFrame$Block" "count" "I") ∈ tbG_ := tb_in (List.mem_append_right _ (List.mem_of_getElem? (i := 150) (by decide +kernel))) rfl
theorem tw_151 : (Jvm.Cond.fieldLink "ColdFrame$Block" (26 : Nat) "ColdFrame$Block" "byteCount" "I") ∈ tbG_ := tb_in (List.mem_append_right _ (List.mem_of_getElem? (i := 151) (by decide +kernel))) rfl
theorem tw_152 : (Jvm.Cond.fieldLink "ColdFrame$Table" (114 : Nat) "ColdFrame$Block" "byteCount" "I") ∈ tbG_ := tb_in (List.mem_append_right _ (List.mem_of_getElem? (i := 152) (by decide +kernel))) rfl
theorem tw_153 : (Jvm.Cond.fieldLink "ColdFrame" (194 : Nat) "ColdFrame$Block" "byteCount" "I") ∈ tbG_ := tb_in (List.mem_append_right _ (List.mem_of_getElem? (i := 153) (by decide +kernel))) rfl
theorem tw_163 : (Jvm.Cond.fieldLink "ColdFrame$Table" (12 : Nat) "ColdFrame$Table" "columns" "Ljava/util/ArrayList;") ∈ tbG_ := tb_in (List.mem_append_right _ (List.mem_of_getElem? (i := 163) (by decide +kernel))) rfl
theorem tw_164 : (Jvm.Cond.fieldLink "ColdFrame" (37 : Nat) "ColdFrame$Table" "columns" "Ljava/util/ArrayList;") ∈ tbG_ := tb_in (List.mem_append_right _ (List.mem_of_getElem? (i := 164) (by decide +kernel))) rfl
theorem tw_165 : (Jvm.Cond.fieldLink "ColdFrame$Search" (101 : Nat) "ColdFrame$Table" "columns" "Ljava/util/ArrayList;") ∈ tbG_ := tb_in (List.mem_append_right _ (List.mem_of_getElem? (i := 165) (by decide +kernel))) rfl
theorem tw_166 : (Jvm.Cond.fieldLink "ColdFrame$Table" (18 : Nat) "ColdFrame$Table" "frames" "Ljava/util/ArrayList;") ∈ tbG_ := tb_in (List.mem_append_right _ (List.mem_of_getElem? (i := 166) (by decide +kernel))) rfl
theorem tw_167 : (Jvm.Cond.fieldLink "ColdFrame$Search" (48 : Nat) "ColdFrame$Table" "frames" "Ljava/util/ArrayList;") ∈ tbG_ := tb_in (List.mem_append_right _ (List.mem_of_getElem? (i := 167) (by decide +kernel))) rfl
theorem tw_168 : (Jvm.Cond.fieldLink "ColdFrame" (141 : Nat) "ColdFrame$Table" "frames" "Ljava/util/ArrayList;") ∈ tbG_ := tb_in (List.mem_append_right _ (List.mem_of_getElem? (i := 168) (by decide +kernel))) rfl
theorem tw_169 : (Jvm.Cond.fieldLink "ColdFrame$Table" (21 : Nat) "ColdFrame$Table" "isLiving" "[Z") ∈ tbG_ := tb_in (List.mem_append_right _ (List.mem_of_getElem? (i := 169) (by decide +kernel))) rfl
theorem tw_170 : (Jvm.Cond.fieldLink "ColdFrame" (103 : Nat) "ColdFrame$Table" "isLiving" "[Z") ∈ tbG_ := tb_in (List.mem_append_right _ (List.mem_of_getElem? (i := 170) (by decide +kernel))) rfl
theorem tw_171 : (Jvm.Cond.fieldLink "ColdFrame$Search" (157 : Nat) "ColdFrame$Table" "isLiving" "[Z") ∈ tbG_ := tb_in (List.mem_append_right _ (List.mem_of_getElem? (i := 171) (by decide +kernel))) rfl
theorem tw_172 : (Jvm.Cond.fieldLink "ColdFrame$Table" (25 : Nat) "ColdFrame$Table" "home" "[I") ∈ tbG_ := tb_in (List.mem_append_right _ (List.mem_of_getElem? (i := 172) (by decide +kernel))) rfl
theorem tw_173 : (Jvm.Cond.fieldLink "ColdFrame" (172 : Nat) "ColdFrame$Table" "home" "[I") ∈ tbG_ := tb_in (List.mem_append_right _ (List.mem_of_getElem? (i := 173) (by decide +kernel))) rfl
theorem tw_174 : (Jvm.Cond.fieldLink "ColdFrame$Table" (32 : Nat) "ColdFrame$Table" "sorter" "LColdFrame$Sorter;") ∈ tbG_ := tb_in (List.mem_append_right _ (List.mem_of_getElem? (i := 174) (by decide +kernel))) rfl
theorem tw_175 : (Jvm.Cond.fieldLink "ColdFrame" (286 : Nat) "ColdFrame$Table" "sorter" "LColdFrame$Sorter;") ∈ tbG_ := tb_in (List.mem_append_right _ (List.mem_of_getElem? (i := 175) (by decide +kernel))) rfl
theorem tw_176 : (Jvm.Cond.fieldLink "ColdFrame$Table" (39 : Nat) "ColdFrame$Table" "buffer" "LColdFrame$Block;") ∈ tbG_ := tb_in (List.mem_append_right _ (List.mem_of_getElem? (i := 176) (by decide +kernel))) rfl
theorem tw_177 : (Jvm.Cond.fieldLink "ColdFrame$Search" (73 : Nat) "ColdFrame$Table" "buffer" "LColdFrame$Block;") ∈ tbG_ := tb_in (List.mem_append_right _ (List.mem_of_getElem? (i := 177) (by decide +kernel))) rfl
theorem tw_178 : (Jvm.Cond.fieldLink "ColdFrame" (120 : Nat) "ColdFrame$Table" "buffer" "LColdFrame$Block;") ∈ tbG_ := tb_in (List.mem_append_right _ (List.mem_of_getElem? (i := 178) (by decide +kernel))) rfl
theorem tw_179 : (Jvm.Cond.fieldLink "ColdFrame$Table" (43 : Nat) "ColdFrame$Table" "size" "I") ∈ tbG_ := tb_in (List.mem_append_right _ (List.mem_of_getElem? (i := 179) (by decide +kernel))) rfl
theorem tw_180 : (Jvm.Cond.fieldLink "ColdFrame" (118 : Nat) "ColdFrame$Table" "size" "I") ∈ tbG_ := tb_in (List.mem_append_right _ (List.mem_of_getElem? (i := 180) (by decide +kernel))) rfl
theorem tw_181 : (Jvm.Cond.fieldLink "ColdFrame" (54 : Nat) "ColdFrame$Table" "rowCount" "I") ∈ tbG_ := tb_in (List.mem_append_right _ (List.mem_of_getElem? (i := 181) (by decide +kernel))) rfl
theorem tw_182 : (Jvm.Cond.fieldLink "ColdFrame$Table" (66 : Nat) "ColdFrame$Table" "rowCount" "I") ∈ tbG_ := tb_in (List.mem_append_right _ (List.mem_of_getElem? (i := 182) (by decide +kernel))) rfl
theorem tw_183 : (Jvm.Cond.fieldLink "ColdFrame$Table" (90 : Nat) "ColdFrame$Table" "livingCount" "I") ∈ tbG_ := tb_in (List.mem_append_right _ (List.mem_of_getElem? (i := 183) (by decide +kernel))) rfl
theorem tw_184 : (Jvm.Cond.fieldLink "ColdFrame" (162 : Nat) "ColdFrame$Table" "livingCount" "I") ∈ tbG_ := tb_in (List.mem_append_right _ (List.mem_of_getElem? (i := 184) (by decide +kernel))) rfl
theorem tw_185 : (Jvm.Cond.fieldLink "ColdFrame$Table" (47 : Nat) "ColdFrame$Table" "trial" "LColdFrame$Block;") ∈ tbG_ := tb_in (List.mem_append_right _ (List.mem_of_getElem? (i := 185) (by decide +kernel))) rfl
theorem tw_186 : (Jvm.Cond.fieldLink "ColdFrame$Table" (50 : Nat) "ColdFrame$Table" "sorted" "[I") ∈ tbG_ := tb_in (List.mem_append_right _ (List.mem_of_getElem? (i := 186) (by decide +kernel))) rfl
theorem tw_210 : (Jvm.Cond.classLink "ColdFrame" (16 : Nat) "ColdFrame$Query") ∈ tbG_ := tb_in (List.mem_append_right _ (List.mem_of_getElem? (i := 210) (by decide +kernel))) rfl
theorem tw_211 : (Jvm.Cond.instantiable "ColdFrame$Query" (2 : Nat)) ∈ tbG_ := tb_in (List.mem_append_right _ (List.mem_of_getElem? (i := 211) (by decide +kernel))) rfl
theorem tw_212 : (Jvm.Cond.methodLink "ColdFrame" (18 : Nat) ({ cls := "ColdFrame$Query", name := "<init>", desc := "()V" } : Jvm.MethodName)) ∈ tbG_ := tb_in (List.mem_append_right _ (List.mem_of_getElem? (i := 212) (by decide +kernel))) rfl
theorem tw_213 : (Jvm.Cond.instanceMethod ({ cls := "ColdFrame$Query", name := "<init>", desc := "()V" } : Jvm.MethodName)) ∈ tbG_ := tb_in (List.mem_append_right _ (List.mem_of_getElem? (i := 213) (by decide +kernel))) rfl
set_option maxRecDepth 20000 in
theorem tw_214 : (Jvm.Cond.code ({ cls := "ColdFrame$Query", name := "<init>", desc := "()V" } : Jvm.MethodName) prog_6_method_1_code (2 : Nat) (Option.none : Option Jvm.ClassFile.FieldType)) ∈ tbG_ := tb_in (List.mem_append_right _ (List.mem_of_getElem? (i := 214) (rfl))) rfl
theorem tw_215 : (Jvm.Cond.methodLink "ColdFrame$Query" (3 : Nat) ({ cls := "java/lang/Object", name := "<init>", desc := "()V" } : Jvm.MethodName)) ∈ tbG_ := tb_in (List.mem_append_right _ (List.mem_of_getElem? (i := 215) (by decide +kernel))) rfl
theorem tw_216 : (Jvm.Cond.classLink "ColdFrame$Query" (9 : Nat) "ColdFrame$Group") ∈ tbG_ := tb_in (List.mem_append_right _ (List.mem_of_getElem? (i := 216) (by decide +kernel))) rfl
theorem tx_217 : (Jvm.Cond.arrayOver (Jvm.ClassFile.FieldType.object "ColdFrame$Group")) ∈ xw_ := List.mem_filter.mpr ⟨List.mem_append_right _ (List.mem_of_getElem? (i := 217) (by decide +kernel)), rfl⟩
theorem tw_218 : (Jvm.Cond.instantiable "ColdFrame$Group" (2 : Nat)) ∈ tbG_ := tb_in (List.mem_append_right _ (List.mem_of_getElem? (i := 218) (by decide +kernel))) rfl
theorem tw_219 : (Jvm.Cond.methodLink "ColdFrame$Query" (21 : Nat) ({ cls := "ColdFrame$Group", name := "<init>", desc := "()V" } : Jvm.MethodName)) ∈ tbG_ := tb_in (List.mem_append_right _ (List.mem_of_getElem? (i := 219) (by decide +kernel))) rfl
theorem tw_220 : (Jvm.Cond.instanceMethod ({ cls := "ColdFrame$Group", name := "<init>", desc := "()V" } : Jvm.MethodName)) ∈ tbG_ := tb_in (List.mem_append_right _ (List.mem_of_getElem? (i := 220) (by decide +kernel))) rfl
set_option maxRecDepth 20000 in
theorem tw_221 : (Jvm.Cond.code ({ cls := "ColdFrame$Group", name := "<init>", desc := "()V" } : Jvm.MethodName) prog_5_method_1_code (2 : Nat) (Option.none : Option Jvm.ClassFile.FieldType)) ∈ tbG_ := tb_in (List.mem_append_right _ (List.mem_of_getElem? (i := 221) (rfl))) rfl
theorem tw_222 : (Jvm.Cond.methodLink "ColdFrame$Group" (3 : Nat) ({ cls := "java/lang/Object", name := "<init>", desc := "()V" } : Jvm.MethodName)) ∈ tbG_ := tb_in (List.mem_append_right _ (List.mem_of_getElem? (i := 222) (by decide +kernel))) rfl
theorem tw_223 : (Jvm.Cond.classLink "ColdFrame$Group" (9 : Nat) "ColdFrame$Condition") ∈ tbG_ := tb_in (List.mem_append_right _ (List.mem_of_getElem? (i := 223) (by decide +kernel))) rfl
theorem tx_224 : (Jvm.Cond.arrayOver (Jvm.ClassFile.FieldType.object "ColdFrame$Condition")) ∈ xw_ := List.mem_filter.mpr ⟨List.mem_append_right _ (List.mem_of_getElem? (i := 224) (by decide +kernel)), rfl⟩
theorem tw_225 : (Jvm.Cond.instantiable "ColdFrame$Condition" (3 : Nat)) ∈ tbG_ := tb_in (List.mem_append_right _ (List.mem_of_getElem? (i := 225) (by decide +kernel))) rfl
theorem tx_226 : (Jvm.Cond.methodLinkNest "ColdFrame$Group" (17 : Nat) ({ cls := "ColdFrame$Condition", name := "<init>", desc := "()V" } : Jvm.MethodName) "ColdFrame") ∈ xw_ := List.mem_filter.mpr ⟨List.mem_append_right _ (List.mem_of_getElem? (i := 226) (by decide +kernel)), rfl⟩
theorem tw_227 : (Jvm.Cond.instanceMethod ({ cls := "ColdFrame$Condition", name := "<init>", desc := "()V" } : Jvm.MethodName)) ∈ tbG_ := tb_in (List.mem_append_right _ (List.mem_of_getElem? (i := 227) (by decide +kernel))) rfl
set_option maxRecDepth 20000 in
theorem tw_228 : (Jvm.Cond.code ({ cls := "ColdFrame$Condition", name := "<init>", desc := "()V" } : Jvm.MethodName) prog_4_method_1_code (1 : Nat) (Option.none : Option Jvm.ClassFile.FieldType)) ∈ tbG_ := tb_in (List.mem_append_right _ (List.mem_of_getElem? (i := 228) (rfl))) rfl
theorem tw_229 : (Jvm.Cond.methodLink "ColdFrame$Condition" (3 : Nat) ({ cls := "java/lang/Object", name := "<init>", desc := "()V" } : Jvm.MethodName)) ∈ tbG_ := tb_in (List.mem_append_right _ (List.mem_of_getElem? (i := 229) (by decide +kernel))) rfl
theorem tw_230 : (Jvm.Cond.fieldLink "ColdFrame$Condition" (9 : Nat) "ColdFrame$Condition" "column" "I") ∈ tbG_ := tb_in (List.mem_append_right _ (List.mem_of_getElem? (i := 230) (by decide +kernel))) rfl
theorem tw_231 : (Jvm.Cond.fieldLink "ColdFrame$Search" (104 : Nat) "ColdFrame$Condition" "column" "I") ∈ tbG_ := tb_in (List.mem_append_right _ (List.mem_of_getElem? (i := 231) (by decide +kernel))) rfl
theorem tw_232 : (Jvm.Cond.fieldLink "ColdFrame$Condition" (15 : Nat) "ColdFrame$Condition" "test" "I") ∈ tbG_ := tb_in (List.mem_append_right _ (List.mem_of_getElem? (i := 232) (by decide +kernel))) rfl
theorem tw_233 : (Jvm.Cond.fieldLink "ColdFrame$Condition" (18 : Nat) "ColdFrame$Condition" "value" "I") ∈ tbG_ := tb_in (List.mem_append_right _ (List.mem_of_getElem? (i := 233) (by decide +kernel))) rfl
theorem tw_241 : (Jvm.Cond.fieldLink "ColdFrame$Group" (11 : Nat) "ColdFrame$Group" "conditions" "[LColdFrame$Condition;") ∈ tbG_ := tb_in (List.mem_append_right _ (List.mem_of_getElem? (i := 241) (by decide +kernel))) rfl
theorem tw_242 : (Jvm.Cond.fieldLink "ColdFrame$Search" (97 : Nat) "ColdFrame$Group" "conditions" "[LColdFrame$Condition;") ∈ tbG_ := tb_in (List.mem_append_right _ (List.mem_of_getElem? (i := 242) (by decide +kernel))) rfl
theorem tw_243 : (Jvm.Cond.fieldLink "ColdFrame$Group" (18 : Nat) "ColdFrame$Group" "count" "I") ∈ tbG_ := tb_in (List.mem_append_right _ (List.mem_of_getElem? (i := 243) (by decide +kernel))) rfl
theorem tw_244 : (Jvm.Cond.fieldLink "ColdFrame$Query" (26 : Nat) "ColdFrame$Group" "count" "I") ∈ tbG_ := tb_in (List.mem_append_right _ (List.mem_of_getElem? (i := 244) (by decide +kernel))) rfl
theorem tw_245 : (Jvm.Cond.fieldLink "ColdFrame$Search" (83 : Nat) "ColdFrame$Group" "count" "I") ∈ tbG_ := tb_in (List.mem_append_right _ (List.mem_of_getElem? (i := 245) (by decide +kernel))) rfl
theorem tw_246 : (Jvm.Cond.fieldLink "ColdFrame" (221 : Nat) "ColdFrame$Group" "count" "I") ∈ tbG_ := tb_in (List.mem_append_right _ (List.mem_of_getElem? (i := 246) (by decide +kernel))) rfl
theorem tw_252 : (Jvm.Cond.fieldLink "ColdFrame$Query" (11 : Nat) "ColdFrame$Query" "groups" "[LColdFrame$Group;") ∈ tbG_ := tb_in (List.mem_append_right _ (List.mem_of_getElem? (i := 252) (by decide +kernel))) rfl
theorem tw_253 : (Jvm.Cond.fieldLink "ColdFrame$Search" (79 : Nat) "ColdFrame$Query" "groups" "[LColdFrame$Group;") ∈ tbG_ := tb_in (List.mem_append_right _ (List.mem_of_getElem? (i := 253) (by decide +kernel))) rfl
theorem tw_254 : (Jvm.Cond.fieldLink "ColdFrame$Query" (17 : Nat) "ColdFrame$Query" "count" "I") ∈ tbG_ := tb_in (List.mem_append_right _ (List.mem_of_getElem? (i := 254) (by decide +kernel))) rfl
theorem tw_255 : (Jvm.Cond.fieldLink "ColdFrame$Search" (78 : Nat) "ColdFrame$Query" "count" "I") ∈ tbG_ := tb_in (List.mem_append_right _ (List.mem_of_getElem? (i := 255) (by decide +kernel))) rfl
theorem tw_256 : (Jvm.Cond.fieldLink "ColdFrame" (229 : Nat) "ColdFrame$Query" "count" "I") ∈ tbG_ := tb_in (List.mem_append_right _ (List.mem_of_getElem? (i := 256) (by decide +kernel))) rfl
theorem tw_262 : (Jvm.Cond.classLink "ColdFrame" (23 : Nat) "ColdFrame$Search") ∈ tbG_ := tb_in (List.mem_append_right _ (List.mem_of_getElem? (i := 262) (by decide +kernel))) rfl
theorem tw_263 : (Jvm.Cond.instantiable "ColdFrame$Search" (10 : Nat)) ∈ tbG_ := tb_in (List.mem_append_right _ (List.mem_of_getElem? (i := 263) (by decide +kernel))) rfl
theorem tx_264 : (Jvm.Cond.methodLinkNest "ColdFrame" (25 : Nat) ({ cls := "ColdFrame$Search", name := "<init>", desc := "()V" } : Jvm.MethodName) "ColdFrame") ∈ xw_ := List.mem_filter.mpr ⟨List.mem_append_right _ (List.mem_of_getElem? (i := 264) (by decide +kernel)), rfl⟩
theorem tw_265 : (Jvm.Cond.instanceMethod ({ cls := "ColdFrame$Search", name := "<init>", desc := "()V" } : Jvm.MethodName)) ∈ tbG_ := tb_in (List.mem_append_right _ (List.mem_of_getElem? (i := 265) (by decide +kernel))) rfl
set_option maxRecDepth 20000 in
theorem tw_266 : (Jvm.Cond.code ({ cls := "ColdFrame$Search", name := "<init>", desc := "()V" } : Jvm.MethodName) prog_8_method_1_code (1 : Nat) (Option.none : Option Jvm.ClassFile.FieldType)) ∈ tbG_ := tb_in (List.mem_append_right _ (List.mem_of_getElem? (i := 266) (rfl))) rfl
theorem tw_267 : (Jvm.Cond.methodLink "ColdFrame$Search" (3 : Nat) ({ cls := "java/lang/Object", name := "<init>", desc := "()V" } : Jvm.MethodName)) ∈ tbG_ := tb_in (List.mem_append_right _ (List.mem_of_getElem? (i := 267) (by decide +kernel))) rfl
theorem tw_268 : (Jvm.Cond.fieldLink "ColdFrame$Search" (9 : Nat) "ColdFrame$Search" "rows" "[I") ∈ tbG_ := tb_in (List.mem_append_right _ (List.mem_of_getElem? (i := 268) (by decide +kernel))) rfl
theorem tw_269 : (Jvm.Cond.fieldLink "ColdFrame" (259 : Nat) "ColdFrame$Search" "rows" "[I") ∈ tbG_ := tb_in (List.mem_append_right _ (List.mem_of_getElem? (i := 269) (by decide +kernel))) rfl
theorem tw_270 : (Jvm.Cond.fieldLink "ColdFrame$Search" (28 : Nat) "ColdFrame$Search" "count" "I") ∈ tbG_ := tb_in (List.mem_append_right _ (List.mem_of_getElem? (i := 270) (by decide +kernel))) rfl
theorem tw_271 : (Jvm.Cond.fieldLink "ColdFrame" (260 : Nat) "ColdFrame$Search" "count" "I") ∈ tbG_ := tb_in (List.mem_append_right _ (List.mem_of_getElem? (i := 271) (by decide +kernel))) rfl
theorem tw_272 : (Jvm.Cond.fieldLink "ColdFrame$Search" (32 : Nat) "ColdFrame$Search" "cost" "I") ∈ tbG_ := tb_in (List.mem_append_right _ (List.mem_of_getElem? (i := 272) (by decide +kernel))) rfl
theorem tw_273 : (Jvm.Cond.fieldLink "ColdFrame" (247 : Nat) "ColdFrame$Search" "cost" "I") ∈ tbG_ := tb_in (List.mem_append_right _ (List.mem_of_getElem? (i := 273) (by decide +kernel))) rfl
theorem tw_274 : (Jvm.Cond.fieldLink "ColdFrame$Search" (35 : Nat) "ColdFrame$Search" "passedCount" "I") ∈ tbG_ := tb_in (List.mem_append_right _ (List.mem_of_getElem? (i := 274) (by decide +kernel))) rfl
theorem tw_275 : (Jvm.Cond.fieldLink "ColdFrame" (253 : Nat) "ColdFrame$Search" "passedCount" "I") ∈ tbG_ := tb_in (List.mem_append_right _ (List.mem_of_getElem? (i := 275) (by decide +kernel))) rfl
theorem tw_276 : (Jvm.Cond.fieldLink "ColdFrame$Search" (38 : Nat) "ColdFrame$Search" "mayUseBitmaps" "Z") ∈ tbG_ := tb_in (List.mem_append_right _ (List.mem_of_getElem? (i := 276) (by decide +kernel))) rfl
theorem tw_277 : (Jvm.Cond.fieldLink "ColdFrame$Search" (15 : Nat) "ColdFrame$Search" "isSelected" "[Z") ∈ tbG_ := tb_in (List.mem_append_right _ (List.mem_of_getElem? (i := 277) (by decide +kernel))) rfl
theorem tw_278 : (Jvm.Cond.fieldLink "ColdFrame$Search" (90 : Nat) "ColdFrame$Search" "selected" "I") ∈ tbG_ := tb_in (List.mem_append_right _ (List.mem_of_getElem? (i := 278) (by decide +kernel))) rfl
theorem tw_279 : (Jvm.Cond.fieldLink "ColdFrame$Search" (19 : Nat) "ColdFrame$Search" "isHit" "[Z") ∈ tbG_ := tb_in (List.mem_append_right _ (List.mem_of_getElem? (i := 279) (by decide +kernel))) rfl
theorem tw_280 : (Jvm.Cond.fieldLink "ColdFrame$Search" (22 : Nat) "ColdFrame$Search" "order" "[I") ∈ tbG_ := tb_in (List.mem_append_right _ (List.mem_of_getElem? (i := 280) (by decide +kernel))) rfl
theorem tw_281 : (Jvm.Cond.fieldLink "ColdFrame$Search" (25 : Nat) "ColdFrame$Search" "guesses" "[I") ∈ tbG_ := tb_in (List.mem_append_right _ (List.mem_of_getElem? (i := 281) (by decide +kernel))) rfl
theorem tw_303 : (Jvm.Cond.classLink "ColdFrame" (30 : Nat) "ColdFrame$Result") ∈ tbG_ := tb_in (List.mem_append_right _ (List.mem_of_getElem? (i := 303) (by decide +kernel))) rfl
theorem tw_304 : (Jvm.Cond.instantiable "ColdFrame$Result" (7 : Nat)) ∈ tbG_ := tb_in (List.mem_append_right _ (List.mem_of_getElem? (i := 304) (by decide +kernel))) rfl
theorem tx_305 : (Jvm.Cond.methodLinkNest "ColdFrame" (32 : Nat) ({ cls := "ColdFrame$Result", name := "<init>", desc := "()V" } : Jvm.MethodName) "ColdFrame") ∈ xw_ := List.mem_filter.mpr ⟨List.mem_append_right _ (List.mem_of_getElem? (i := 305) (by decide +kernel)), rfl⟩
theorem tw_306 : (Jvm.Cond.instanceMethod ({ cls := "ColdFrame$Result", name := "<init>", desc := "()V" } : Jvm.MethodName)) ∈ tbG_ := tb_in (List.mem_append_right _ (List.mem_of_getElem? (i := 306) (by decide +kernel))) rfl
set_option maxRecDepth 20000 in
theorem tw_307 : (Jvm.Cond.code ({ cls := "ColdFrame$Result", name := "<init>", desc := "()V" } : Jvm.MethodName) prog_7_method_1_code (1 : Nat) (Option.none : Option Jvm.ClassFile.FieldType)) ∈ tbG_ := tb_in (List.mem_append_right _ (List.mem_of_getElem? (i := 307) (rfl))) rfl
theorem tw_308 : (Jvm.Cond.methodLink "ColdFrame$Result" (3 : Nat) ({ cls := "java/lang/Object", name := "<init>", desc := "()V" } : Jvm.MethodName)) ∈ tbG_ := tb_in (List.mem_append_right _ (List.mem_of_getElem? (i := 308) (by decide +kernel))) rfl
theorem tw_309 : (Jvm.Cond.fieldLink "ColdFrame$Result" (9 : Nat) "ColdFrame$Result" "rows" "[I") ∈ tbG_ := tb_in (List.mem_append_right _ (List.mem_of_getElem? (i := 309) (by decide +kernel))) rfl
theorem tw_310 : (Jvm.Cond.fieldLink "ColdFrame" (285 : Nat) "ColdFrame$Result" "rows" "[I") ∈ tbG_ := tb_in (List.mem_append_right _ (List.mem_of_getElem? (i := 310) (by decide +kernel))) rfl
theorem tw_311 : (Jvm.Cond.fieldLink "ColdFrame$Result" (30 : Nat) "ColdFrame$Result" "count" "I") ∈ tbG_ := tb_in (List.mem_append_right _ (List.mem_of_getElem? (i := 311) (by decide +kernel))) rfl
theorem tw_312 : (Jvm.Cond.fieldLink "ColdFrame" (265 : Nat) "ColdFrame$Result" "count" "I") ∈ tbG_ := tb_in (List.mem_append_right _ (List.mem_of_getElem? (i := 312) (by decide +kernel))) rfl
theorem tw_313 : (Jvm.Cond.fieldLink "ColdFrame$Result" (56 : Nat) "ColdFrame$Result" "groupCount" "I") ∈ tbG_ := tb_in (List.mem_append_right _ (List.mem_of_getElem? (i := 313) (by decide +kernel))) rfl
theorem tw_314 : (Jvm.Cond.fieldLink "ColdFrame" (315 : Nat) "ColdFrame$Result" "groupCount" "I") ∈ tbG_ := tb_in (List.mem_append_right _ (List.mem_of_getElem? (i := 314) (by decide +kernel))) rfl
theorem tw_315 : (Jvm.Cond.fieldLink "ColdFrame$Result" (15 : Nat) "ColdFrame$Result" "keptRows" "[I") ∈ tbG_ := tb_in (List.mem_append_right _ (List.mem_of_getElem? (i := 315) (by decide +kernel))) rfl
theorem tw_316 : (Jvm.Cond.fieldLink "ColdFrame$Result" (34 : Nat) "ColdFrame$Result" "keptCount" "I") ∈ tbG_ := tb_in (List.mem_append_right _ (List.mem_of_getElem? (i := 316) (by decide +kernel))) rfl
theorem tw_317 : (Jvm.Cond.fieldLink "ColdFrame$Result" (18 : Nat) "ColdFrame$Result" "grouped" "[I") ∈ tbG_ := tb_in (List.mem_append_right _ (List.mem_of_getElem? (i := 317) (by decide +kernel))) rfl
theorem tw_318 : (Jvm.Cond.fieldLink "ColdFrame$Result" (21 : Nat) "ColdFrame$Result" "starts" "[I") ∈ tbG_ := tb_in (List.mem_append_right _ (List.mem_of_getElem? (i := 318) (by decide +kernel))) rfl
theorem tw_334 : (Jvm.Cond.fieldLink "ColdFrame" (10 : Nat) "ColdFrame" "table" "LColdFrame$Table;") ∈ tbG_ := tb_in (List.mem_append_right _ (List.mem_of_getElem? (i := 334) (by decide +kernel))) rfl
theorem tw_335 : (Jvm.Cond.fieldLink "ColdFrame" (19 : Nat) "ColdFrame" "query" "LColdFrame$Query;") ∈ tbG_ := tb_in (List.mem_append_right _ (List.mem_of_getElem? (i := 335) (by decide +kernel))) rfl
theorem tw_336 : (Jvm.Cond.fieldLink "ColdFrame" (26 : Nat) "ColdFrame" "search" "LColdFrame$Search;") ∈ tbG_ := tb_in (List.mem_append_right _ (List.mem_of_getElem? (i := 336) (by decide +kernel))) rfl
theorem tw_337 : (Jvm.Cond.fieldLink "ColdFrame" (33 : Nat) "ColdFrame" "result" "LColdFrame$Result;") ∈ tbG_ := tb_in (List.mem_append_right _ (List.mem_of_getElem? (i := 337) (by decide +kernel))) rfl
theorem tw_338 : (Jvm.Cond.fieldLink "ColdFrame" (250 : Nat) "ColdFrame" "latestCost" "I") ∈ tbG_ := tb_in (List.mem_append_right _ (List.mem_of_getElem? (i := 338) (by decide +kernel))) rfl
theorem tw_339 : (Jvm.Cond.fieldLink "ColdFrame" (256 : Nat) "ColdFrame" "latestPassed" "I") ∈ tbG_ := tb_in (List.mem_append_right _ (List.mem_of_getElem? (i := 339) (by decide +kernel))) rfl
theorem tw_353 : (Jvm.Cond.methodLink "ColdFrameLaw" (22 : Nat) ({ cls := "ColdFrame", name := "addColumn", desc := "()I" } : Jvm.MethodName)) ∈ tbG_ := tb_in (List.mem_append_right _ (List.mem_of_getElem? (i := 353) (by decide +kernel))) rfl
theorem tw_354 : (Jvm.Cond.instanceMethod ({ cls := "ColdFrame", name := "addColumn", desc := "()I" } : Jvm.MethodName)) ∈ tbG_ := tb_in (List.mem_append_right _ (List.mem_of_getElem? (i := 354) (by decide +kernel))) rfl
theorem tw_355 : (Jvm.Cond.selects "ColdFrame" ({ cls := "ColdFrame", name := "addColumn", desc := "()I" } : Jvm.MethodName) ({ cls := "ColdFrame", name := "addColumn", desc := "()I" } : Jvm.MethodName)) ∈ tbG_ := tb_in (List.mem_append_right _ (List.mem_of_getElem? (i := 355) (by decide +kernel))) rfl
set_option maxRecDepth 20000 in
theorem tw_356 : (Jvm.Cond.code ({ cls := "ColdFrame", name := "addColumn", desc := "()I" } : Jvm.MethodName) prog_1_method_2_code (1 : Nat) (Option.some Jvm.ClassFile.FieldType.int)) ∈ tbG_ := tb_in (List.mem_append_right _ (List.mem_of_getElem? (i := 356) (rfl))) rfl
theorem tw_357 : (Jvm.Cond.methodLink "ColdFrame" (41 : Nat) ({ cls := "java/util/ArrayList", name := "size", desc := "()I" } : Jvm.MethodName)) ∈ tbG_ := tb_in (List.mem_append_right _ (List.mem_of_getElem? (i := 357) (by decide +kernel))) rfl
theorem tw_358 : (Jvm.Cond.instanceMethod ({ cls := "java/util/ArrayList", name := "size", desc := "()I" } : Jvm.MethodName)) ∈ tbG_ := tb_in (List.mem_append_right _ (List.mem_of_getElem? (i := 358) (by decide +kernel))) rfl
theorem tw_359 : (Jvm.Cond.selects "java/util/ArrayList" ({ cls := "java/util/ArrayList", name := "size", desc := "()I" } : Jvm.MethodName) ({ cls := "java/util/ArrayList", name := "size", desc := "()I" } : Jvm.MethodName)) ∈ tbG_ := tb_in (List.mem_append_right _ (List.mem_of_getElem? (i := 359) (by decide +kernel))) rfl
set_option maxRecDepth 20000 in
theorem tw_360 : (Jvm.Cond.code ({ cls := "java/util/ArrayList", name := "size", desc := "()I" } : Jvm.MethodName) prog_28_method_8_code (1 : Nat) (Option.some Jvm.ClassFile.FieldType.int)) ∈ tbG_ := tb_in (List.mem_append_right _ (List.mem_of_getElem? (i := 360) (rfl))) rfl
theorem tw_361 : (Jvm.Cond.classLink "ColdFrame" (47 : Nat) "java/lang/IllegalStateException") ∈ tbG_ := tb_in (List.mem_append_right _ (List.mem_of_getElem? (i := 361) (by decide +kernel))) rfl
theorem tw_362 : (Jvm.Cond.instantiable "java/lang/IllegalStateException" (6 : Nat)) ∈ tbG_ := tb_in (List.mem_append_right _ (List.mem_of_getElem? (i := 362) (by decide +kernel))) rfl
theorem tx_363 : (Jvm.Cond.castable "java/lang/IllegalStateException" "java/lang/IllegalStateException") ∈ xw_ := List.mem_filter.mpr ⟨List.mem_append_right _ (List.mem_of_getElem? (i := 363) (by decide +kernel)), rfl⟩
theorem tw_370 : (Jvm.Cond.selects "java/lang/IllegalStateException" ({ cls := "java/lang/Throwable", name := "fillInStackTrace", desc := "(I)Ljava/lang/Throwable;" } : Jvm.MethodName) ({ cls := "java/lang/Throwable", name := "fillInStackTrace", desc := "(I)Ljava/lang/Throwable;" } : Jvm.MethodName)) ∈ tbG_ := tb_in (List.mem_append_right _ (List.mem_of_getElem? (i := 370) (by decide +kernel))) rfl
theorem tw_371 : (Jvm.Cond.selects "java/lang/IllegalStateException" ({ cls := "java/lang/Throwable", name := "fillInStackTrace", desc := "()Ljava/lang/Throwable;" } : Jvm.MethodName) ({ cls := "java/lang/Throwable", name := "fillInStackTrace", desc := "()Ljava/lang/Throwable;" } : Jvm.MethodName)) ∈ tbG_ := tb_in (List.mem_append_right _ (List.mem_of_getElem? (i := 371) (by decide +kernel))) rfl
theorem tw_382 : (Jvm.Cond.fieldLink "java/lang/Throwable" (198 : Nat) "java/lang/Throwable" "backtrace" "Ljava/lang/Object;") ∈ tbG_ := tb_in (List.mem_append_right _ (List.mem_of_getElem? (i := 382) (by decide +kernel))) rfl
theorem tw_384 : (Jvm.Cond.instanceMethod ({ cls := "java/lang/Throwable", name := "<init>", desc := "()V" } : Jvm.MethodName)) ∈ tbG_ := tb_in (List.mem_append_right _ (List.mem_of_getElem? (i := 384) (by decide +kernel))) rfl
set_option maxRecDepth 20000 in
theorem tw_385 : (Jvm.Cond.code ({ cls := "java/lang/Throwable", name := "<init>", desc := "()V" } : Jvm.MethodName) prog_25_method_1_code (1 : Nat) (Option.none : Option Jvm.ClassFile.FieldType)) ∈ tbG_ := tb_in (List.mem_append_right _ (List.mem_of_getElem? (i := 385) (rfl))) rfl
theorem tw_386 : (Jvm.Cond.methodLink "java/lang/Throwable" (1 : Nat) ({ cls := "java/lang/Object", name := "<init>", desc := "()V" } : Jvm.MethodName)) ∈ tbG_ := tb_in (List.mem_append_right _ (List.mem_of_getElem? (i := 386) (by decide +kernel))) rfl
theorem tw_387 : (Jvm.Cond.fieldLink "java/lang/Throwable" (13 : Nat) "java/lang/Throwable" "UNASSIGNED_STACK" "[Ljava/lang/StackTraceElement;") ∈ tbG_ := tb_in (List.mem_append_right _ (List.mem_of_getElem? (i := 387) (by decide +kernel))) rfl
theorem tw_389 : (Jvm.Cond.fieldLink "java/lang/Throwable" (20 : Nat) "java/lang/Throwable" "SUPPRESSED_SENTINEL" "Ljava/util/List;") ∈ tbG_ := tb_in (List.mem_append_right _ (List.mem_of_getElem? (i := 389) (by decide +kernel))) rfl
theorem tw_391 : (Jvm.Cond.methodLink "java/lang/Throwable" (27 : Nat) ({ cls := "java/lang/Throwable", name := "fillInStackTrace", desc := "()Ljava/lang/Throwable;" } : Jvm.MethodName)) ∈ tbG_ := tb_in (List.mem_append_right _ (List.mem_of_getElem? (i := 391) (by decide +kernel))) rfl
theorem tw_392 : (Jvm.Cond.instanceMethod ({ cls := "java/lang/Throwable", name := "fillInStackTrace", desc := "()Ljava/lang/Throwable;" } : Jvm.MethodName)) ∈ tbG_ := tb_in (List.mem_append_right _ (List.mem_of_getElem? (i := 392) (by decide +kernel))) rfl
theorem tw_394 : (Jvm.Cond.selects "java/lang/IllegalArgumentException" ({ cls := "java/lang/Throwable", name := "fillInStackTrace", desc := "()Ljava/lang/Throwable;" } : Jvm.MethodName) ({ cls := "java/lang/Throwable", name := "fillInStackTrace", desc := "()Ljava/lang/Throwable;" } : Jvm.MethodName)) ∈ tbG_ := tb_in (List.mem_append_right _ (List.mem_of_getElem? (i := 394) (by decide +kernel))) rfl
theorem tw_395 : (Jvm.Cond.selects "java/lang/IndexOutOfBoundsException" ({ cls := "java/lang/Throwable", name := "fillInStackTrace", desc := "()Ljava/lang/Throwable;" } : Jvm.MethodName) ({ cls := "java/lang/Throwable", name := "fillInStackTrace", desc := "()Ljava/lang/Throwable;" } : Jvm.MethodName)) ∈ tbG_ := tb_in (List.mem_append_right _ (List.mem_of_getElem? (i := 395) (by decide +kernel))) rfl
theorem tw_397 : (Jvm.Cond.methodLink "java/lang/Throwable" (202 : Nat) ({ cls := "java/lang/Throwable", name := "fillInStackTrace", desc := "(I)Ljava/lang/Throwable;" } : Jvm.MethodName)) ∈ tbG_ := tb_in (List.mem_append_right _ (List.mem_of_getElem? (i := 397) (by decide +kernel))) rfl
theorem tw_399 : (Jvm.Cond.instanceMethod ({ cls := "java/lang/Throwable", name := "fillInStackTrace", desc := "(I)Ljava/lang/Throwable;" } : Jvm.MethodName)) ∈ tbG_ := tb_in (List.mem_append_right _ (List.mem_of_getElem? (i := 399) (by decide +kernel))) rfl
theorem tw_400 : (Jvm.Cond.instantiable "java/lang/Throwable" (6 : Nat)) ∈ tbG_ := tb_in (List.mem_append_right _ (List.mem_of_getElem? (i := 400) (by decide +kernel))) rfl
theorem tw_401 : (Jvm.Cond.native ({ cls := "java/lang/Throwable", name := "fillInStackTrace", desc := "(I)Ljava/lang/Throwable;" } : Jvm.MethodName)) ∈ tbG_ := tb_in (List.mem_append_right _ (List.mem_of_getElem? (i := 401) (by decide +kernel))) rfl
theorem tw_403 : (Jvm.Cond.methodLink "ColdFrame" (51 : Nat) ({ cls := "java/lang/IllegalStateException", name := "<init>", desc := "(Ljava/lang/String;)V" } : Jvm.MethodName)) ∈ tbG_ := tb_in (List.mem_append_right _ (List.mem_of_getElem? (i := 403) (by decide +kernel))) rfl
theorem tw_404 : (Jvm.Cond.instanceMethod ({ cls := "java/lang/IllegalStateException", name := "<init>", desc := "(Ljava/lang/String;)V" } : Jvm.MethodName)) ∈ tbG_ := tb_in (List.mem_append_right _ (List.mem_of_getElem? (i := 404) (by decide +kernel))) rfl
set_option maxRecDepth 20000 in
theorem tw_405 : (Jvm.Cond.code ({ cls := "java/lang/IllegalStateException", name := "<init>", desc := "(Ljava/lang/String;)V" } : Jvm.MethodName) prog_18_method_2_code (2 : Nat) (Option.none : Option Jvm.ClassFile.FieldType)) ∈ tbG_ := tb_in (List.mem_append_right _ (List.mem_of_getElem? (i := 405) (rfl))) rfl
theorem tw_406 : (Jvm.Cond.methodLink "java/lang/IllegalStateException" (7 : Nat) ({ cls := "java/lang/RuntimeException", name := "<init>", desc := "(Ljava/lang/String;)V" } : Jvm.MethodName)) ∈ tbG_ := tb_in (List.mem_append_right _ (List.mem_of_getElem? (i := 406) (by decide +kernel))) rfl
theorem tw_407 : (Jvm.Cond.instanceMethod ({ cls := "java/lang/RuntimeException", name := "<init>", desc := "(Ljava/lang/String;)V" } : Jvm.MethodName)) ∈ tbG_ := tb_in (List.mem_append_right _ (List.mem_of_getElem? (i := 407) (by decide +kernel))) rfl
set_option maxRecDepth 20000 in
theorem tw_408 : (Jvm.Cond.code ({ cls := "java/lang/RuntimeException", name := "<init>", desc := "(Ljava/lang/String;)V" } : Jvm.MethodName) prog_22_method_2_code (2 : Nat) (Option.none : Option Jvm.ClassFile.FieldType)) ∈ tbG_ := tb_in (List.mem_append_right _ (List.mem_of_getElem? (i := 408) (rfl))) rfl
theorem tw_409 : (Jvm.Cond.methodLink "java/lang/RuntimeException" (7 : Nat) ({ cls := "java/lang/Exception", name := "<init>", desc := "(Ljava/lang/String;)V" } : Jvm.MethodName)) ∈ tbG_ := tb_in (List.mem_append_right _ (List.mem_of_getElem? (i := 409) (by decide +kernel))) rfl
theorem tw_410 : (Jvm.Cond.instanceMethod ({ cls := "java/lang/Exception", name := "<init>", desc := "(Ljava/lang/String;)V" } : Jvm.MethodName)) ∈ tbG_ := tb_in (List.mem_append_right _ (List.mem_of_getElem? (i := 410) (by decide +kernel))) rfl
set_option maxRecDepth 20000 in
theorem tw_411 : (Jvm.Cond.code ({ cls := "java/lang/Exception", name := "<init>", desc := "(Ljava/lang/String;)V" } : Jvm.MethodName) prog_16_method_2_code (2 : Nat) (Option.none : Option Jvm.ClassFile.FieldType)) ∈ tbG_ := tb_in (List.mem_append_right _ (List.mem_of_getElem? (i := 411) (rfl))) rfl
theorem tw_412 : (Jvm.Cond.methodLink "java/lang/Exception" (7 : Nat) ({ cls := "java/lang/Throwable", name := "<init>", desc := "(Ljava/lang/String;)V" } : Jvm.MethodName)) ∈ tbG_ := tb_in (List.mem_append_right _ (List.mem_of_getElem? (i := 412) (by decide +kernel))) rfl
theorem tw_413 : (Jvm.Cond.instanceMethod ({ cls := "java/lang/Throwable", name := "<init>", desc := "(Ljava/lang/String;)V" } : Jvm.MethodName)) ∈ tbG_ := tb_in (List.mem_append_right _ (List.mem_of_getElem? (i := 413) (by decide +kernel))) rfl
set_option maxRecDepth 20000 in
theorem tw_414 : (Jvm.Cond.code ({ cls := "java/lang/Throwable", name := "<init>", desc := "(Ljava/lang/String;)V" } : Jvm.MethodName) prog_25_method_2_code (2 : Nat) (Option.none : Option Jvm.ClassFile.FieldType)) ∈ tbG_ := tb_in (List.mem_append_right _ (List.mem_of_getElem? (i := 414) (rfl))) rfl
theorem tw_415 : (Jvm.Cond.fieldLink "java/lang/Throwable" (198 : Nat) "java/lang/Throwable" "backtrace" "Ljava/lang/Object;") ∈ tbG_ := tb_in (List.mem_append_right _ (List.mem_of_getElem? (i := 415) (by decide +kernel))) rfl
theorem tw_416 : (Jvm.Cond.fieldLink "java/lang/Throwable" (31 : Nat) "java/lang/Throwable" "detailMessage" "Ljava/lang/String;") ∈ tbG_ := tb_in (List.mem_append_right _ (List.mem_of_getElem? (i := 416) (by decide +kernel))) rfl
theorem tw_417 : (Jvm.Cond.fieldLink "java/lang/Throwable" (7 : Nat) "java/lang/Throwable" "cause" "Ljava/lang/Throwable;") ∈ tbG_ := tb_in (List.mem_append_right _ (List.mem_of_getElem? (i := 417) (by decide +kernel))) rfl
theorem tw_418 : (Jvm.Cond.fieldLink "java/lang/Throwable" (17 : Nat) "java/lang/Throwable" "stackTrace" "[Ljava/lang/StackTraceElement;") ∈ tbG_ := tb_in (List.mem_append_right _ (List.mem_of_getElem? (i := 418) (by decide +kernel))) rfl
theorem tw_419 : (Jvm.Cond.fieldLink "java/lang/Throwable" (24 : Nat) "java/lang/Throwable" "suppressedExceptions" "Ljava/util/List;") ∈ tbG_ := tb_in (List.mem_append_right _ (List.mem_of_getElem? (i := 419) (by decide +kernel))) rfl
theorem tw_428 : (Jvm.Cond.arrayClass Jvm.ClassFile.FieldType.byte) ∈ tbG_ := tb_in (List.mem_append_right _ (List.mem_of_getElem? (i := 428) (by decide +kernel))) rfl
theorem tw_430 : (Jvm.Cond.classLink "ColdFrame" (60 : Nat) "ColdFrame$Column") ∈ tbG_ := tb_in (List.mem_append_right _ (List.mem_of_getElem? (i := 430) (by decide +kernel))) rfl
theorem tw_431 : (Jvm.Cond.instantiable "ColdFrame$Column" (5 : Nat)) ∈ tbG_ := tb_in (List.mem_append_right _ (List.mem_of_getElem? (i := 431) (by decide +kernel))) rfl
theorem tx_432 : (Jvm.Cond.methodLinkNest "ColdFrame" (62 : Nat) ({ cls := "ColdFrame$Column", name := "<init>", desc := "()V" } : Jvm.MethodName) "ColdFrame") ∈ xw_ := List.mem_filter.mpr ⟨List.mem_append_right _ (List.mem_of_getElem? (i := 432) (by decide +kernel)), rfl⟩
theorem tw_433 : (Jvm.Cond.instanceMethod ({ cls := "ColdFrame$Column", name := "<init>", desc := "()V" } : Jvm.MethodName)) ∈ tbG_ := tb_in (List.mem_append_right _ (List.mem_of_getElem? (i := 433) (by decide +kernel))) rfl
set_option maxRecDepth 20000 in
theorem tw_434 : (Jvm.Cond.code ({ cls := "ColdFrame$Column", name := "<init>", desc := "()V" } : Jvm.MethodName) prog_3_method_1_code (1 : Nat) (Option.none : Option Jvm.ClassFile.FieldType)) ∈ tbG_ := tb_in (List.mem_append_right _ (List.mem_of_getElem? (i := 434) (rfl))) rfl
theorem tw_435 : (Jvm.Cond.methodLink "ColdFrame$Column" (3 : Nat) ({ cls := "java/lang/Object", name := "<init>", desc := "()V" } : Jvm.MethodName)) ∈ tbG_ := tb_in (List.mem_append_right _ (List.mem_of_getElem? (i := 435) (by decide +kernel))) rfl
theorem tw_436 : (Jvm.Cond.fieldLink "ColdFrame$Column" (9 : Nat) "ColdFrame$Column" "values" "[I") ∈ tbG_ := tb_in (List.mem_append_right _ (List.mem_of_getElem? (i := 436) (by decide +kernel))) rfl
theorem tw_437 : (Jvm.Cond.fieldLink "ColdFrame$Sorter" (19 : Nat) "ColdFrame$Column" "values" "[I") ∈ tbG_ := tb_in (List.mem_append_right _ (List.mem_of_getElem? (i := 437) (by decide +kernel))) rfl
theorem tw_438 : (Jvm.Cond.fieldLink "ColdFrame$Zone" (29 : Nat) "ColdFrame$Column" "values" "[I") ∈ tbG_ := tb_in (List.mem_append_right _ (List.mem_of_getElem? (i := 438) (by decide +kernel))) rfl
theorem tw_439 : (Jvm.Cond.fieldLink "ColdFrame$Result" (37 : Nat) "ColdFrame$Column" "values" "[I") ∈ tbG_ := tb_in (List.mem_append_right _ (List.mem_of_getElem? (i := 439) (by decide +kernel))) rfl
theorem tw_440 : (Jvm.Cond.fieldLink "ColdFrame$Search" (150 : Nat) "ColdFrame$Column" "values" "[I") ∈ tbG_ := tb_in (List.mem_append_right _ (List.mem_of_getElem? (i := 440) (by decide +kernel))) rfl
theorem tw_441 : (Jvm.Cond.fieldLink "ColdFrame" (168 : Nat) "ColdFrame$Column" "values" "[I") ∈ tbG_ := tb_in (List.mem_append_right _ (List.mem_of_getElem? (i := 441) (by decide +kernel))) rfl
theorem tw_442 : (Jvm.Cond.fieldLink "ColdFrame$Column" (15 : Nat) "ColdFrame$Column" "lacks" "[Z") ∈ tbG_ := tb_in (List.mem_append_right _ (List.mem_of_getElem? (i := 442) (by decide +kernel))) rfl
theorem tw_443 : (Jvm.Cond.fieldLink "ColdFrame$Sorter" (24 : Nat) "ColdFrame$Column" "lacks" "[Z") ∈ tbG_ := tb_in (List.mem_append_right _ (List.mem_of_getElem? (i := 443) (by decide +kernel))) rfl
theorem tw_444 : (Jvm.Cond.fieldLink "ColdFrame$Zone" (48 : Nat) "ColdFrame$Column" "lacks" "[Z") ∈ tbG_ := tb_in (List.mem_append_right _ (List.mem_of_getElem? (i := 444) (by decide +kernel))) rfl
theorem tw_445 : (Jvm.Cond.fieldLink "ColdFrame$Search" (147 : Nat) "ColdFrame$Column" "lacks" "[Z") ∈ tbG_ := tb_in (List.mem_append_right _ (List.mem_of_getElem? (i := 445) (by decide +kernel))) rfl
theorem tw_446 : (Jvm.Cond.fieldLink "ColdFrame$Result" (42 : Nat) "ColdFrame$Column" "lacks" "[Z") ∈ tbG_ := tb_in (List.mem_append_right _ (List.mem_of_getElem? (i := 446) (by decide +kernel))) rfl
theorem tw_447 : (Jvm.Cond.fieldLink "ColdFrame" (165 : Nat) "ColdFrame$Column" "lacks" "[Z") ∈ tbG_ := tb_in (List.mem_append_right _ (List.mem_of_getElem? (i := 447) (by decide +kernel))) rfl
theorem tw_448 : (Jvm.Cond.fieldLink "ColdFrame$Search" (127 : Nat) "ColdFrame$Column" "isIndexed" "Z") ∈ tbG_ := tb_in (List.mem_append_right _ (List.mem_of_getElem? (i := 448) (by decide +kernel))) rfl
theorem tw_449 : (Jvm.Cond.fieldLink "ColdFrame" (158 : Nat) "ColdFrame$Column" "isIndexed" "Z") ∈ tbG_ := tb_in (List.mem_append_right _ (List.mem_of_getElem? (i := 449) (by decide +kernel))) rfl
theorem tw_450 : (Jvm.Cond.fieldLink "ColdFrame$Table" (131 : Nat) "ColdFrame$Column" "isIndexed" "Z") ∈ tbG_ := tb_in (List.mem_append_right _ (List.mem_of_getElem? (i := 450) (by decide +kernel))) rfl
theorem tw_451 : (Jvm.Cond.fieldLink "ColdFrame$Column" (23 : Nat) "ColdFrame$Column" "isGiven" "Z") ∈ tbG_ := tb_in (List.mem_append_right _ (List.mem_of_getElem? (i := 451) (by decide +kernel))) rfl
theorem tw_452 : (Jvm.Cond.fieldLink "ColdFrame$Table" (62 : Nat) "ColdFrame$Column" "isGiven" "Z") ∈ tbG_ := tb_in (List.mem_append_right _ (List.mem_of_getElem? (i := 452) (by decide +kernel))) rfl
theorem tw_453 : (Jvm.Cond.fieldLink "ColdFrame$Column" (19 : Nat) "ColdFrame$Column" "given" "I") ∈ tbG_ := tb_in (List.mem_append_right _ (List.mem_of_getElem? (i := 453) (by decide +kernel))) rfl
theorem tw_465 : (Jvm.Cond.methodLink "ColdFrame" (63 : Nat) ({ cls := "java/util/ArrayList", name := "add", desc := "(Ljava/lang/Object;)Z" } : Jvm.MethodName)) ∈ tbG_ := tb_in (List.mem_append_right _ (List.mem_of_getElem? (i := 465) (by decide +kernel))) rfl
theorem tw_466 : (Jvm.Cond.instanceMethod ({ cls := "java/util/ArrayList", name := "add", desc := "(Ljava/lang/Object;)Z" } : Jvm.MethodName)) ∈ tbG_ := tb_in (List.mem_append_right _ (List.mem_of_getElem? (i := 466) (by decide +kernel))) rfl
theorem tw_467 : (Jvm.Cond.selects "java/util/ArrayList" ({ cls := "java/util/ArrayList", name := "add", desc := "(Ljava/lang/Object;)Z" } : Jvm.MethodName) ({ cls := "java/util/ArrayList", name := "add", desc := "(Ljava/lang/Object;)Z" } : Jvm.MethodName)) ∈ tbG_ := tb_in (List.mem_append_right _ (List.mem_of_getElem? (i := 467) (by decide +kernel))) rfl
set_option maxRecDepth 20000 in
theorem tw_468 : (Jvm.Cond.code ({ cls := "java/util/ArrayList", name := "add", desc := "(Ljava/lang/Object;)Z" } : Jvm.MethodName) prog_28_method_25_code (2 : Nat) (Option.some Jvm.ClassFile.FieldType.boolean)) ∈ tbG_ := tb_in (List.mem_append_right _ (List.mem_of_getElem? (i := 468) (rfl))) rfl
theorem tw_469 : (Jvm.Cond.methodLink "java/util/ArrayList" (131 : Nat) ({ cls := "java/util/ArrayList", name := "add", desc := "(Ljava/lang/Object;[Ljava/lang/Object;I)V" } : Jvm.MethodName)) ∈ tbG_ := tb_in (List.mem_append_right _ (List.mem_of_getElem? (i := 469) (by decide +kernel))) rfl
theorem tw_471 : (Jvm.Cond.instanceMethod ({ cls := "java/util/ArrayList", name := "add", desc := "(Ljava/lang/Object;[Ljava/lang/Object;I)V" } : Jvm.MethodName)) ∈ tbG_ := tb_in (List.mem_append_right _ (List.mem_of_getElem? (i := 471) (by decide +kernel))) rfl
set_option maxRecDepth 20000 in
theorem tw_472 : (Jvm.Cond.code ({ cls := "java/util/ArrayList", name := "add", desc := "(Ljava/lang/Object;[Ljava/lang/Object;I)V" } : Jvm.MethodName) prog_28_method_24_code (4 : Nat) (Option.none : Option Jvm.ClassFile.FieldType)) ∈ tbG_ := tb_in (List.mem_append_right _ (List.mem_of_getElem? (i := 472) (rfl))) rfl
theorem tw_473 : (Jvm.Cond.methodLink "java/util/ArrayList" (129 : Nat) ({ cls := "java/util/ArrayList", name := "grow", desc := "()[Ljava/lang/Object;" } : Jvm.MethodName)) ∈ tbG_ := tb_in (List.mem_append_right _ (List.mem_of_getElem? (i := 473) (by decide +kernel))) rfl
theorem tw_475 : (Jvm.Cond.instanceMethod ({ cls := "java/util/ArrayList", name := "grow", desc := "()[Ljava/lang/Object;" } : Jvm.MethodName)) ∈ tbG_ := tb_in (List.mem_append_right _ (List.mem_of_getElem? (i := 475) (by decide +kernel))) rfl
set_option maxRecDepth 20000 in
theorem tw_476 : (Jvm.Cond.code ({ cls := "java/util/ArrayList", name := "grow", desc := "()[Ljava/lang/Object;" } : Jvm.MethodName) prog_28_method_7_code (1 : Nat) (Option.some (Jvm.ClassFile.FieldType.array (Jvm.ClassFile.FieldType.object "java/lang/Object")))) ∈ tbG_ := tb_in (List.mem_append_right _ (List.mem_of_getElem? (i := 476) (rfl))) rfl
theorem tw_477 : (Jvm.Cond.methodLink "java/util/ArrayList" (69 : Nat) ({ cls := "java/util/ArrayList", name := "grow", desc := "(I)[Ljava/lang/Object;" } : Jvm.MethodName)) ∈ tbG_ := tb_in (List.mem_append_right _ (List.mem_of_getElem? (i := 477) (by decide +kernel))) rfl
theorem tw_479 : (Jvm.Cond.instanceMethod ({ cls := "java/util/ArrayList", name := "grow", desc := "(I)[Ljava/lang/Object;" } : Jvm.MethodName)) ∈ tbG_ := tb_in (List.mem_append_right _ (List.mem_of_getElem? (i := 479) (by decide +kernel))) rfl
set_option maxRecDepth 20000 in
theorem tw_480 : (Jvm.Cond.code ({ cls := "java/util/ArrayList", name := "grow", desc := "(I)[Ljava/lang/Object;" } : Jvm.MethodName) prog_28_method_6_code (4 : Nat) (Option.some (Jvm.ClassFile.FieldType.array (Jvm.ClassFile.FieldType.object "java/lang/Object")))) ∈ tbG_ := tb_in (List.mem_append_right _ (List.mem_of_getElem? (i := 480) (rfl))) rfl
theorem tw_481 : (Jvm.Cond.methodLink "java/util/ArrayList" (73 : Nat) ({ cls := "jdk/internal/util/ArraysSupport", name := "newLength", desc := "(III)I" } : Jvm.MethodName)) ∈ tbG_ := tb_in (List.mem_append_right _ (List.mem_of_getElem? (i := 481) (by decide +kernel))) rfl
theorem tw_482 : (Jvm.Cond.static ({ cls := "jdk/internal/util/ArraysSupport", name := "newLength", desc := "(III)I" } : Jvm.MethodName)) ∈ tbG_ := tb_in (List.mem_append_right _ (List.mem_of_getElem? (i := 482) (by decide +kernel))) rfl
set_option maxRecDepth 20000 in
theorem tw_483 : (Jvm.Cond.code ({ cls := "jdk/internal/util/ArraysSupport", name := "newLength", desc := "(III)I" } : Jvm.MethodName) prog_35_method_27_code (4 : Nat) (Option.some Jvm.ClassFile.FieldType.int)) ∈ tbG_ := tb_in (List.mem_append_right _ (List.mem_of_getElem? (i := 483) (rfl))) rfl
theorem tw_484 : (Jvm.Cond.methodLink "jdk/internal/util/ArraysSupport" (194 : Nat) ({ cls := "java/lang/Math", name := "max", desc := "(II)I" } : Jvm.MethodName)) ∈ tbG_ := tb_in (List.mem_append_right _ (List.mem_of_getElem? (i := 484) (by decide +kernel))) rfl
theorem tw_485 : (Jvm.Cond.static ({ cls := "java/lang/Math", name := "max", desc := "(II)I" } : Jvm.MethodName)) ∈ tbG_ := tb_in (List.mem_append_right _ (List.mem_of_getElem? (i := 485) (by decide +kernel))) rfl
set_option maxRecDepth 20000 in
theorem tw_486 : (Jvm.Cond.code ({ cls := "java/lang/Math", name := "max", desc := "(II)I" } : Jvm.MethodName) prog_21_method_65_code (2 : Nat) (Option.some Jvm.ClassFile.FieldType.int)) ∈ tbG_ := tb_in (List.mem_append_right _ (List.mem_of_getElem? (i := 486) (rfl))) rfl
theorem tw_487 : (Jvm.Cond.constant "jdk/internal/util/ArraysSupport" (200 : Nat) (2147483639 : Int32)) ∈ tbG_ := tb_in (List.mem_append_right _ (List.mem_of_getElem? (i := 487) (by decide +kernel))) rfl
theorem tw_488 : (Jvm.Cond.methodLink "jdk/internal/util/ArraysSupport" (201 : Nat) ({ cls := "jdk/internal/util/ArraysSupport", name := "hugeLength", desc := "(II)I" } : Jvm.MethodName)) ∈ tbG_ := tb_in (List.mem_append_right _ (List.mem_of_getElem? (i := 488) (by decide +kernel))) rfl
theorem tw_489 : (Jvm.Cond.static ({ cls := "jdk/internal/util/ArraysSupport", name := "hugeLength", desc := "(II)I" } : Jvm.MethodName)) ∈ tbG_ := tb_in (List.mem_append_right _ (List.mem_of_getElem? (i := 489) (by decide +kernel))) rfl
set_option maxRecDepth 20000 in
theorem tw_490 : (Jvm.Cond.code ({ cls := "jdk/internal/util/ArraysSupport", name := "hugeLength", desc := "(II)I" } : Jvm.MethodName) prog_35_method_28_code (3 : Nat) (Option.some Jvm.ClassFile.FieldType.int)) ∈ tbG_ := tb_in (List.mem_append_right _ (List.mem_of_getElem? (i := 490) (rfl))) rfl
theorem tw_491 : (Jvm.Cond.methodLink "java/util/ArrayList" (66 : Nat) ({ cls := "java/util/Arrays", name := "copyOf", desc := "([Ljava/lang/Object;I)[Ljava/lang/Object;" } : Jvm.MethodName)) ∈ tbG_ := tb_in (List.mem_append_right _ (List.mem_of_getElem? (i := 491) (by decide +kernel))) rfl
theorem tw_492 : (Jvm.Cond.static ({ cls := "java/util/Arrays", name := "copyOf", desc := "([Ljava/lang/Object;I)[Ljava/lang/Object;" } : Jvm.MethodName)) ∈ tbG_ := tb_in (List.mem_append_right _ (List.mem_of_getElem? (i := 492) (by decide +kernel))) rfl
set_option maxRecDepth 20000 in
theorem tw_493 : (Jvm.Cond.code ({ cls := "java/util/Arrays", name := "copyOf", desc := "([Ljava/lang/Object;I)[Ljava/lang/Object;" } : Jvm.MethodName) prog_29_method_119_code (2 : Nat) (Option.some (Jvm.ClassFile.FieldType.array (Jvm.ClassFile.FieldType.object "java/lang/Object")))) ∈ tbG_ := tb_in (List.mem_append_right _ (List.mem_of_getElem? (i := 493) (rfl))) rfl
theorem tw_494 : (Jvm.Cond.methodLink "java/util/Arrays" (86 : Nat) ({ cls := "java/lang/Object", name := "getClass", desc := "()Ljava/lang/Class;" } : Jvm.MethodName)) ∈ tbG_ := tb_in (List.mem_append_right _ (List.mem_of_getElem? (i := 494) (by decide +kernel))) rfl
theorem tw_495 : (Jvm.Cond.instanceMethod ({ cls := "java/lang/Object", name := "getClass", desc := "()Ljava/lang/Class;" } : Jvm.MethodName)) ∈ tbG_ := tb_in (List.mem_append_right _ (List.mem_of_getElem? (i := 495) (by decide +kernel))) rfl
theorem tw_497 : (Jvm.Cond.selects "ColdFrame" ({ cls := "java/lang/Object", name := "getClass", desc := "()Ljava/lang/Class;" } : Jvm.MethodName) ({ cls := "java/lang/Object", name := "getClass", desc := "()Ljava/lang/Class;" } : Jvm.MethodName)) ∈ tbG_ := tb_in (List.mem_append_right _ (List.mem_of_getElem? (i := 497) (by decide +kernel))) rfl
theorem tw_498 : (Jvm.Cond.selects "ColdFrame$Block" ({ cls := "java/lang/Object", name := "getClass", desc := "()Ljava/lang/Class;" } : Jvm.MethodName) ({ cls := "java/lang/Object", name := "getClass", desc := "()Ljava/lang/Class;" } : Jvm.MethodName)) ∈ tbG_ := tb_in (List.mem_append_right _ (List.mem_of_getElem? (i := 498) (by decide +kernel))) rfl
theorem tw_499 : (Jvm.Cond.selects "ColdFrame$Column" ({ cls := "java/lang/Object", name := "getClass", desc := "()Ljava/lang/Class;" } : Jvm.MethodName) ({ cls := "java/lang/Object", name := "getClass", desc := "()Ljava/lang/Class;" } : Jvm.MethodName)) ∈ tbG_ := tb_in (List.mem_append_right _ (List.mem_of_getElem? (i := 499) (by decide +kernel))) rfl
theorem tw_500 : (Jvm.Cond.selects "ColdFrame$Condition" ({ cls := "java/lang/Object", name := "getClass", desc := "()Ljava/lang/Class;" } : Jvm.MethodName) ({ cls := "java/lang/Object", name := "getClass", desc := "()Ljava/lang/Class;" } : Jvm.MethodName)) ∈ tbG_ := tb_in (List.mem_append_right _ (List.mem_of_getElem? (i := 500) (by decide +kernel))) rfl
theorem tw_501 : (Jvm.Cond.selects "ColdFrame$Group" ({ cls := "java/lang/Object", name := "getClass", desc := "()Ljava/lang/Class;" } : Jvm.MethodName) ({ cls := "java/lang/Object", name := "getClass", desc := "()Ljava/lang/Class;" } : Jvm.MethodName)) ∈ tbG_ := tb_in (List.mem_append_right _ (List.mem_of_getElem? (i := 501) (by decide +kernel))) rfl
theorem tw_502 : (Jvm.Cond.selects "ColdFrame$Query" ({ cls := "java/lang/Object", name := "getClass", desc := "()Ljava/lang/Class;" } : Jvm.MethodName) ({ cls := "java/lang/Object", name := "getClass", desc := "()Ljava/lang/Class;" } : Jvm.MethodName)) ∈ tbG_ := tb_in (List.mem_append_right _ (List.mem_of_getElem? (i := 502) (by decide +kernel))) rfl
theorem tw_503 : (Jvm.Cond.selects "ColdFrame$Result" ({ cls := "java/lang/Object", name := "getClass", desc := "()Ljava/lang/Class;" } : Jvm.MethodName) ({ cls := "java/lang/Object", name := "getClass", desc := "()Ljava/lang/Class;" } : Jvm.MethodName)) ∈ tbG_ := tb_in (List.mem_append_right _ (List.mem_of_getElem? (i := 503) (by decide +kernel))) rfl
theorem tw_504 : (Jvm.Cond.selects "ColdFrame$Search" ({ cls := "java/lang/Object", name := "getClass", desc := "()Ljava/lang/Class;" } : Jvm.MethodName) ({ cls := "java/lang/Object", name := "getClass", desc := "()Ljava/lang/Class;" } : Jvm.MethodName)) ∈ tbG_ := tb_in (List.mem_append_right _ (List.mem_of_getElem? (i := 504) (by decide +kernel))) rfl
theorem tw_505 : (Jvm.Cond.selects "ColdFrame$Sorter" ({ cls := "java/lang/Object", name := "getClass", desc := "()Ljava/lang/Class;" } : Jvm.MethodName) ({ cls := "java/lang/Object", name := "getClass", desc := "()Ljava/lang/Class;" } : Jvm.MethodName)) ∈ tbG_ := tb_in (List.mem_append_right _ (List.mem_of_getElem? (i := 505) (by decide +kernel))) rfl
theorem tw_506 : (Jvm.Cond.selects "ColdFrame$Table" ({ cls := "java/lang/Object", name := "getClass", desc := "()Ljava/lang/Class;" } : Jvm.MethodName) ({ cls := "java/lang/Object", name := "getClass", desc := "()Ljava/lang/Class;" } : Jvm.MethodName)) ∈ tbG_ := tb_in (List.mem_append_right _ (List.mem_of_getElem? (i := 506) (by decide +kernel))) rfl
theorem tw_507 : (Jvm.Cond.selects "ColdFrame$Zone" ({ cls := "java/lang/Object", name := "getClass", desc := "()Ljava/lang/Class;" } : Jvm.MethodName) ({ cls := "java/lang/Object", name := "getClass", desc := "()Ljava/lang/Class;" } : Jvm.MethodName)) ∈ tbG_ := tb_in (List.mem_append_right _ (List.mem_of_getElem? (i := 507) (by decide +kernel))) rfl
theorem tw_508 : (Jvm.Cond.selects "java/lang/IllegalArgumentException" ({ cls := "java/lang/Object", name := "getClass", desc := "()Ljava/lang/Class;" } : Jvm.MethodName) ({ cls := "java/lang/Object", name := "getClass", desc := "()Ljava/lang/Class;" } : Jvm.MethodName)) ∈ tbG_ := tb_in (List.mem_append_right _ (List.mem_of_getElem? (i := 508) (by decide +kernel))) rfl
theorem tw_509 : (Jvm.Cond.selects "java/lang/IllegalStateException" ({ cls := "java/lang/Object", name := "getClass", desc := "()Ljava/lang/Class;" } : Jvm.MethodName) ({ cls := "java/lang/Object", name := "getClass", desc := "()Ljava/lang/Class;" } : Jvm.MethodName)) ∈ tbG_ := tb_in (List.mem_append_right _ (List.mem_of_getElem? (i := 509) (by decide +kernel))) rfl
theorem tw_510 : (Jvm.Cond.selects "java/lang/IndexOutOfBoundsException" ({ cls := "java/lang/Object", name := "getClass", desc := "()Ljava/lang/Class;" } : Jvm.MethodName) ({ cls := "java/lang/Object", name := "getClass", desc := "()Ljava/lang/Class;" } : Jvm.MethodName)) ∈ tbG_ := tb_in (List.mem_append_right _ (List.mem_of_getElem? (i := 510) (by decide +kernel))) rfl
theorem tw_511 : (Jvm.Cond.selects "java/util/ArrayList" ({ cls := "java/lang/Object", name := "getClass", desc := "()Ljava/lang/Class;" } : Jvm.MethodName) ({ cls := "java/lang/Object", name := "getClass", desc := "()Ljava/lang/Class;" } : Jvm.MethodName)) ∈ tbG_ := tb_in (List.mem_append_right _ (List.mem_of_getElem? (i := 511) (by decide +kernel))) rfl
theorem tw_512 : (Jvm.Cond.native ({ cls := "java/lang/Object", name := "getClass", desc := "()Ljava/lang/Class;" } : Jvm.MethodName)) ∈ tbG_ := tb_in (List.mem_append_right _ (List.mem_of_getElem? (i := 512) (by decide +kernel))) rfl
theorem tw_513 : (Jvm.Cond.methodLink "java/util/Arrays" (300 : Nat) ({ cls := "java/util/Arrays", name := "copyOf", desc := "([Ljava/lang/Object;ILjava/lang/Class;)[Ljava/lang/Object;" } : Jvm.MethodName)) ∈ tbG_ := tb_in (List.mem_append_right _ (List.mem_of_getElem? (i := 513) (by decide +kernel))) rfl
theorem tw_514 : (Jvm.Cond.static ({ cls := "java/util/Arrays", name := "copyOf", desc := "([Ljava/lang/Object;ILjava/lang/Class;)[Ljava/lang/Object;" } : Jvm.MethodName)) ∈ tbG_ := tb_in (List.mem_append_right _ (List.mem_of_getElem? (i := 514) (by decide +kernel))) rfl
set_option maxRecDepth 20000 in
theorem tw_515 : (Jvm.Cond.code ({ cls := "java/util/Arrays", name := "copyOf", desc := "([Ljava/lang/Object;ILjava/lang/Class;)[Ljava/lang/Object;" } : Jvm.MethodName) prog_29_method_120_code (4 : Nat) (Option.some (Jvm.ClassFile.FieldType.array (Jvm.ClassFile.FieldType.object "java/lang/Object")))) ∈ tbG_ := tb_in (List.mem_append_right _ (List.mem_of_getElem? (i := 515) (rfl))) rfl
theorem tw_516 : (Jvm.Cond.classLink "java/util/Arrays" (110 : Nat) "[Ljava/lang/Object;") ∈ tbG_ := tb_in (List.mem_append_right _ (List.mem_of_getElem? (i := 516) (by decide +kernel))) rfl
theorem tx_517 : (Jvm.Cond.arrayOver (Jvm.ClassFile.FieldType.object "java/lang/Object")) ∈ xw_ := List.mem_filter.mpr ⟨List.mem_append_right _ (List.mem_of_getElem? (i := 517) (by decide +kernel)), rfl⟩
theorem tw_518 : (Jvm.Cond.classLink "java/util/Arrays" (2 : Nat) "java/lang/Object") ∈ tbG_ := tb_in (List.mem_append_right _ (List.mem_of_getElem? (i := 518) (by decide +kernel))) rfl
theorem tw_519 : (Jvm.Cond.methodLink "java/util/Arrays" (304 : Nat) ({ cls := "java/lang/Math", name := "min", desc := "(II)I" } : Jvm.MethodName)) ∈ tbG_ := tb_in (List.mem_append_right _ (List.mem_of_getElem? (i := 519) (by decide +kernel))) rfl
theorem tw_520 : (Jvm.Cond.static ({ cls := "java/lang/Math", name := "min", desc := "(II)I" } : Jvm.MethodName)) ∈ tbG_ := tb_in (List.mem_append_right _ (List.mem_of_getElem? (i := 520) (by decide +kernel))) rfl
set_option maxRecDepth 20000 in
theorem tw_521 : (Jvm.Cond.code ({ cls := "java/lang/Math", name := "min", desc := "(II)I" } : Jvm.MethodName) prog_21_method_69_code (2 : Nat) (Option.some Jvm.ClassFile.FieldType.int)) ∈ tbG_ := tb_in (List.mem_append_right _ (List.mem_of_getElem? (i := 521) (rfl))) rfl
theorem tw_522 : (Jvm.Cond.methodLink "java/util/Arrays" (150 : Nat) ({ cls := "java/lang/System", name := "arraycopy", desc := "(Ljava/lang/Object;ILjava/lang/Object;II)V" } : Jvm.MethodName)) ∈ tbG_ := tb_in (List.mem_append_right _ (List.mem_of_getElem? (i := 522) (by decide +kernel))) rfl
theorem tw_523 : (Jvm.Cond.static ({ cls := "java/lang/System", name := "arraycopy", desc := "(Ljava/lang/Object;ILjava/lang/Object;II)V" } : Jvm.MethodName)) ∈ tbG_ := tb_in (List.mem_append_right _ (List.mem_of_getElem? (i := 523) (by decide +kernel))) rfl
theorem tw_524 : (Jvm.Cond.native ({ cls := "java/lang/System", name := "arraycopy", desc := "(Ljava/lang/Object;ILjava/lang/Object;II)V" } : Jvm.MethodName)) ∈ tbG_ := tb_in (List.mem_append_right _ (List.mem_of_getElem? (i := 524) (by decide +kernel))) rfl
theorem tw_525 : (Jvm.Cond.methodLink "java/util/ArrayList" (79 : Nat) ({ cls := "java/lang/Math", name := "max", desc := "(II)I" } : Jvm.MethodName)) ∈ tbG_ := tb_in (List.mem_append_right _ (List.mem_of_getElem? (i := 525) (by decide +kernel))) rfl
theorem tw_526 : (Jvm.Cond.classLink "java/util/ArrayList" (7 : Nat) "java/lang/Object") ∈ tbG_ := tb_in (List.mem_append_right _ (List.mem_of_getElem? (i := 526) (by decide +kernel))) rfl
theorem tw_527 : (Jvm.Cond.methodLink "ColdFrameLaw" (41 : Nat) ({ cls := "ColdFrame", name := "costWithout", desc := "()I" } : Jvm.MethodName)) ∈ tbG_ := tb_in (List.mem_append_right _ (List.mem_of_getElem? (i := 527) (by decide +kernel))) rfl
theorem tw_528 : (Jvm.Cond.instanceMethod ({ cls := "ColdFrame", name := "costWithout", desc := "()I" } : Jvm.MethodName)) ∈ tbG_ := tb_in (List.mem_append_right _ (List.mem_of_getElem? (i := 528) (by decide +kernel))) rfl
theorem tw_529 : (Jvm.Cond.selects "ColdFrame" ({ cls := "ColdFrame", name := "costWithout", desc := "()I" } : Jvm.MethodName) ({ cls := "ColdFrame", name := "costWithout", desc := "()I" } : Jvm.MethodName)) ∈ tbG_ := tb_in (List.mem_append_right _ (List.mem_of_getElem? (i := 529) (by decide +kernel))) rfl
set_option maxRecDepth 20000 in
theorem tw_530 : (Jvm.Cond.code ({ cls := "ColdFrame", name := "costWithout", desc := "()I" } : Jvm.MethodName) prog_1_method_50_code (1 : Nat) (Option.some Jvm.ClassFile.FieldType.int)) ∈ tbG_ := tb_in (List.mem_append_right _ (List.mem_of_getElem? (i := 530) (rfl))) rfl
theorem tw_531 : (Jvm.Cond.methodLink "ColdFrame" (243 : Nat) ({ cls := "ColdFrame$Search", name := "run", desc := "(LColdFrame$Table;LColdFrame$Query;Z)V" } : Jvm.MethodName)) ∈ tbG_ := tb_in (List.mem_append_right _ (List.mem_of_getElem? (i := 531) (by decide +kernel))) rfl
theorem tw_532 : (Jvm.Cond.instanceMethod ({ cls := "ColdFrame$Search", name := "run", desc := "(LColdFrame$Table;LColdFrame$Query;Z)V" } : Jvm.MethodName)) ∈ tbG_ := tb_in (List.mem_append_right _ (List.mem_of_getElem? (i := 532) (by decide +kernel))) rfl
theorem tw_533 : (Jvm.Cond.selects "ColdFrame$Search" ({ cls := "ColdFrame$Search", name := "run", desc := "(LColdFrame$Table;LColdFrame$Query;Z)V" } : Jvm.MethodName) ({ cls := "ColdFrame$Search", name := "run", desc := "(LColdFrame$Table;LColdFrame$Query;Z)V" } : Jvm.MethodName)) ∈ tbG_ := tb_in (List.mem_append_right _ (List.mem_of_getElem? (i := 533) (by decide +kernel))) rfl
set_option maxRecDepth 20000 in
theorem tw_534 : (Jvm.Cond.code ({ cls := "ColdFrame$Search", name := "run", desc := "(LColdFrame$Table;LColdFrame$Query;Z)V" } : Jvm.MethodName) prog_8_method_2_code (7 : Nat) (Option.none : Option Jvm.ClassFile.FieldType)) ∈ tbG_ := tb_in (List.mem_append_right _ (List.mem_of_getElem? (i := 534) (rfl))) rfl
theorem tw_535 : (Jvm.Cond.methodLink "ColdFrame$Search" (42 : Nat) ({ cls := "ColdFrame$Query", name := "conditionCount", desc := "()I" } : Jvm.MethodName)) ∈ tbG_ := tb_in (List.mem_append_right _ (List.mem_of_getElem? (i := 535) (by decide +kernel))) rfl
theorem tw_536 : (Jvm.Cond.instanceMethod ({ cls := "ColdFrame$Query", name := "conditionCount", desc := "()I" } : Jvm.MethodName)) ∈ tbG_ := tb_in (List.mem_append_right _ (List.mem_of_getElem? (i := 536) (by decide +kernel))) rfl
theorem tw_537 : (Jvm.Cond.selects "ColdFrame$Query" ({ cls := "ColdFrame$Query", name := "conditionCount", desc := "()I" } : Jvm.MethodName) ({ cls := "ColdFrame$Query", name := "conditionCount", desc := "()I" } : Jvm.MethodName)) ∈ tbG_ := tb_in (List.mem_append_right _ (List.mem_of_getElem? (i := 537) (by decide +kernel))) rfl
set_option maxRecDepth 20000 in
theorem tw_538 : (Jvm.Cond.code ({ cls := "ColdFrame$Query", name := "conditionCount", desc := "()I" } : Jvm.MethodName) prog_6_method_5_code (3 : Nat) (Option.some Jvm.ClassFile.FieldType.int)) ∈ tbG_ := tb_in (List.mem_append_right _ (List.mem_of_getElem? (i := 538) (rfl))) rfl
theorem tw_539 : (Jvm.Cond.methodLink "ColdFrame$Search" (54 : Nat) ({ cls := "java/util/ArrayList", name := "size", desc := "()I" } : Jvm.MethodName)) ∈ tbG_ := tb_in (List.mem_append_right _ (List.mem_of_getElem? (i := 539) (by decide +kernel))) rfl
theorem tw_540 : (Jvm.Cond.methodLink "ColdFrame$Search" (59 : Nat) ({ cls := "java/util/ArrayList", name := "get", desc := "(I)Ljava/lang/Object;" } : Jvm.MethodName)) ∈ tbG_ := tb_in (List.mem_append_right _ (List.mem_of_getElem? (i := 540) (by decide +kernel))) rfl
theorem tw_541 : (Jvm.Cond.instanceMethod ({ cls := "java/util/ArrayList", name := "get", desc := "(I)Ljava/lang/Object;" } : Jvm.MethodName)) ∈ tbG_ := tb_in (List.mem_append_right _ (List.mem_of_getElem? (i := 541) (by decide +kernel))) rfl
theorem tw_542 : (Jvm.Cond.selects "java/util/ArrayList" ({ cls := "java/util/ArrayList", name := "get", desc := "(I)Ljava/lang/Object;" } : Jvm.MethodName) ({ cls := "java/util/ArrayList", name := "get", desc := "(I)Ljava/lang/Object;" } : Jvm.MethodName)) ∈ tbG_ := tb_in (List.mem_append_right _ (List.mem_of_getElem? (i := 542) (by decide +kernel))) rfl
set_option maxRecDepth 20000 in
theorem tw_543 : (Jvm.Cond.code ({ cls := "java/util/ArrayList", name := "get", desc := "(I)Ljava/lang/Object;" } : Jvm.MethodName) prog_28_method_20_code (2 : Nat) (Option.some (Jvm.ClassFile.FieldType.object "java/lang/Object"))) ∈ tbG_ := tb_in (List.mem_append_right _ (List.mem_of_getElem? (i := 543) (rfl))) rfl
theorem tw_544 : (Jvm.Cond.methodLink "java/util/ArrayList" (118 : Nat) ({ cls := "java/util/Objects", name := "checkIndex", desc := "(II)I" } : Jvm.MethodName)) ∈ tbG_ := tb_in (List.mem_append_right _ (List.mem_of_getElem? (i := 544) (by decide +kernel))) rfl
theorem tw_545 : (Jvm.Cond.static ({ cls := "java/util/Objects", name := "checkIndex", desc := "(II)I" } : Jvm.MethodName)) ∈ tbG_ := tb_in (List.mem_append_right _ (List.mem_of_getElem? (i := 545) (by decide +kernel))) rfl
set_option maxRecDepth 20000 in
theorem tw_546 : (Jvm.Cond.code ({ cls := "java/util/Objects", name := "checkIndex", desc := "(II)I" } : Jvm.MethodName) prog_32_method_17_code (2 : Nat) (Option.some Jvm.ClassFile.FieldType.int)) ∈ tbG_ := tb_in (List.mem_append_right _ (List.mem_of_getElem? (i := 546) (rfl))) rfl
theorem tw_547 : (Jvm.Cond.methodLink "java/util/Objects" (105 : Nat) ({ cls := "jdk/internal/util/Preconditions", name := "checkIndex", desc := "(IILjava/util/function/BiFunction;)I" } : Jvm.MethodName)) ∈ tbG_ := tb_in (List.mem_append_right _ (List.mem_of_getElem? (i := 547) (by decide +kernel))) rfl
theorem tw_548 : (Jvm.Cond.static ({ cls := "jdk/internal/util/Preconditions", name := "checkIndex", desc := "(IILjava/util/function/BiFunction;)I" } : Jvm.MethodName)) ∈ tbG_ := tb_in (List.mem_append_right _ (List.mem_of_getElem? (i := 548) (by decide +kernel))) rfl
set_option maxRecDepth 20000 in
theorem tw_549 : (Jvm.Cond.code ({ cls := "jdk/internal/util/Preconditions", name := "checkIndex", desc := "(IILjava/util/function/BiFunction;)I" } : Jvm.MethodName) prog_36_method_11_code (3 : Nat) (Option.some Jvm.ClassFile.FieldType.int)) ∈ tbG_ := tb_in (List.mem_append_right _ (List.mem_of_getElem? (i := 549) (rfl))) rfl
theorem tw_550 : (Jvm.Cond.methodLink "java/util/ArrayList" (123 : Nat) ({ cls := "java/util/ArrayList", name := "elementData", desc := "(I)Ljava/lang/Object;" } : Jvm.MethodName)) ∈ tbG_ := tb_in (List.mem_append_right _ (List.mem_of_getElem? (i := 550) (by decide +kernel))) rfl
theorem tw_551 : (Jvm.Cond.instanceMethod ({ cls := "java/util/ArrayList", name := "elementData", desc := "(I)Ljava/lang/Object;" } : Jvm.MethodName)) ∈ tbG_ := tb_in (List.mem_append_right _ (List.mem_of_getElem? (i := 551) (by decide +kernel))) rfl
theorem tw_552 : (Jvm.Cond.selects "java/util/ArrayList" ({ cls := "java/util/ArrayList", name := "elementData", desc := "(I)Ljava/lang/Object;" } : Jvm.MethodName) ({ cls := "java/util/ArrayList", name := "elementData", desc := "(I)Ljava/lang/Object;" } : Jvm.MethodName)) ∈ tbG_ := tb_in (List.mem_append_right _ (List.mem_of_getElem? (i := 552) (by decide +kernel))) rfl
set_option maxRecDepth 20000 in
theorem tw_553 : (Jvm.Cond.code ({ cls := "java/util/ArrayList", name := "elementData", desc := "(I)Ljava/lang/Object;" } : Jvm.MethodName) prog_28_method_18_code (2 : Nat) (Option.some (Jvm.ClassFile.FieldType.object "java/lang/Object"))) ∈ tbG_ := tb_in (List.mem_append_right _ (List.mem_of_getElem? (i := 553) (rfl))) rfl
theorem tw_554 : (Jvm.Cond.classLink "ColdFrame$Search" (63 : Nat) "ColdFrame$Block") ∈ tbG_ := tb_in (List.mem_append_right _ (List.mem_of_getElem? (i := 554) (by decide +kernel))) rfl
theorem tw_555 : (Jvm.Cond.methodLink "ColdFrame$Search" (65 : Nat) ({ cls := "ColdFrame$Search", name := "lookThrough", desc := "(LColdFrame$Table;LColdFrame$Query;LColdFrame$Block;Z)Z" } : Jvm.MethodName)) ∈ tbG_ := tb_in (List.mem_append_right _ (List.mem_of_getElem? (i := 555) (by decide +kernel))) rfl
theorem tw_557 : (Jvm.Cond.instanceMethod ({ cls := "ColdFrame$Search", name := "lookThrough", desc := "(LColdFrame$Table;LColdFrame$Query;LColdFrame$Block;Z)Z" } : Jvm.MethodName)) ∈ tbG_ := tb_in (List.mem_append_right _ (List.mem_of_getElem? (i := 557) (by decide +kernel))) rfl
set_option maxRecDepth 20000 in
theorem tw_558 : (Jvm.Cond.code ({ cls := "ColdFrame$Search", name := "lookThrough", desc := "(LColdFrame$Table;LColdFrame$Query;LColdFrame$Block;Z)Z" } : Jvm.MethodName) prog_8_method_3_code (9 : Nat) (Option.some Jvm.ClassFile.FieldType.boolean)) ∈ tbG_ := tb_in (List.mem_append_right _ (List.mem_of_getElem? (i := 558) (rfl))) rfl
theorem tw_559 : (Jvm.Cond.methodLink "ColdFrame$Search" (86 : Nat) ({ cls := "ColdFrame$Search", name := "select", desc := "(LColdFrame$Table;LColdFrame$Group;LColdFrame$Block;Z)V" } : Jvm.MethodName)) ∈ tbG_ := tb_in (List.mem_append_right _ (List.mem_of_getElem? (i := 559) (by decide +kernel))) rfl
theorem tw_561 : (Jvm.Cond.instanceMethod ({ cls := "ColdFrame$Search", name := "select", desc := "(LColdFrame$Table;LColdFrame$Group;LColdFrame$Block;Z)V" } : Jvm.MethodName)) ∈ tbG_ := tb_in (List.mem_append_right _ (List.mem_of_getElem? (i := 561) (by decide +kernel))) rfl
set_option maxRecDepth 20000 in
theorem tw_562 : (Jvm.Cond.code ({ cls := "ColdFrame$Search", name := "select", desc := "(LColdFrame$Table;LColdFrame$Group;LColdFrame$Block;Z)V" } : Jvm.MethodName) prog_8_method_4_code (8 : Nat) (Option.none : Option Jvm.ClassFile.FieldType)) ∈ tbG_ := tb_in (List.mem_append_right _ (List.mem_of_getElem? (i := 562) (rfl))) rfl
theorem tw_563 : (Jvm.Cond.methodLink "ColdFrame$Search" (93 : Nat) ({ cls := "ColdFrame$Search", name := "orderConditions", desc := "(LColdFrame$Group;LColdFrame$Block;Z)V" } : Jvm.MethodName)) ∈ tbG_ := tb_in (List.mem_append_right _ (List.mem_of_getElem? (i := 563) (by decide +kernel))) rfl
theorem tw_565 : (Jvm.Cond.instanceMethod ({ cls := "ColdFrame$Search", name := "orderConditions", desc := "(LColdFrame$Group;LColdFrame$Block;Z)V" } : Jvm.MethodName)) ∈ tbG_ := tb_in (List.mem_append_right _ (List.mem_of_getElem? (i := 565) (by decide +kernel))) rfl
set_option maxRecDepth 20000 in
theorem tw_566 : (Jvm.Cond.code ({ cls := "ColdFrame$Search", name := "orderConditions", desc := "(LColdFrame$Group;LColdFrame$Block;Z)V" } : Jvm.MethodName) prog_8_method_5_code (8 : Nat) (Option.none : Option Jvm.ClassFile.FieldType)) ∈ tbG_ := tb_in (List.mem_append_right _ (List.mem_of_getElem? (i := 566) (rfl))) rfl
theorem tw_567 : (Jvm.Cond.methodLink "ColdFrame$Search" (123 : Nat) ({ cls := "ColdFrame$Condition", name := "guessIn", desc := "(LColdFrame$Zone;)I" } : Jvm.MethodName)) ∈ tbG_ := tb_in (List.mem_append_right _ (List.mem_of_getElem? (i := 567) (by decide +kernel))) rfl
theorem tw_568 : (Jvm.Cond.instanceMethod ({ cls := "ColdFrame$Condition", name := "guessIn", desc := "(LColdFrame$Zone;)I" } : Jvm.MethodName)) ∈ tbG_ := tb_in (List.mem_append_right _ (List.mem_of_getElem? (i := 568) (by decide +kernel))) rfl
theorem tw_569 : (Jvm.Cond.selects "ColdFrame$Condition" ({ cls := "ColdFrame$Condition", name := "guessIn", desc := "(LColdFrame$Zone;)I" } : Jvm.MethodName) ({ cls := "ColdFrame$Condition", name := "guessIn", desc := "(LColdFrame$Zone;)I" } : Jvm.MethodName)) ∈ tbG_ := tb_in (List.mem_append_right _ (List.mem_of_getElem? (i := 569) (by decide +kernel))) rfl
set_option maxRecDepth 20000 in
theorem tw_570 : (Jvm.Cond.code ({ cls := "ColdFrame$Condition", name := "guessIn", desc := "(LColdFrame$Zone;)I" } : Jvm.MethodName) prog_4_method_7_code (4 : Nat) (Option.some Jvm.ClassFile.FieldType.int)) ∈ tbG_ := tb_in (List.mem_append_right _ (List.mem_of_getElem? (i := 570) (rfl))) rfl
theorem tw_571 : (Jvm.Cond.methodLink "ColdFrame$Condition" (35 : Nat) ({ cls := "ColdFrame$Condition", name := "isMetByNone", desc := "(LColdFrame$Zone;)Z" } : Jvm.MethodName)) ∈ tbG_ := tb_in (List.mem_append_right _ (List.mem_of_getElem? (i := 571) (by decide +kernel))) rfl
theorem tw_573 : (Jvm.Cond.instanceMethod ({ cls := "ColdFrame$Condition", name := "isMetByNone", desc := "(LColdFrame$Zone;)Z" } : Jvm.MethodName)) ∈ tbG_ := tb_in (List.mem_append_right _ (List.mem_of_getElem? (i := 573) (by decide +kernel))) rfl
set_option maxRecDepth 20000 in
theorem tw_574 : (Jvm.Cond.code ({ cls := "ColdFrame$Condition", name := "isMetByNone", desc := "(LColdFrame$Zone;)Z" } : Jvm.MethodName) prog_4_method_4_code (3 : Nat) (Option.some Jvm.ClassFile.FieldType.boolean)) ∈ tbG_ := tb_in (List.mem_append_right _ (List.mem_of_getElem? (i := 574) (rfl))) rfl
theorem tw_575 : (Jvm.Cond.methodLink "ColdFrame$Condition" (39 : Nat) ({ cls := "ColdFrame$Condition", name := "isMetByAll", desc := "(LColdFrame$Zone;)Z" } : Jvm.MethodName)) ∈ tbG_ := tb_in (List.mem_append_right _ (List.mem_of_getElem? (i := 575) (by decide +kernel))) rfl
theorem tw_577 : (Jvm.Cond.instanceMethod ({ cls := "ColdFrame$Condition", name := "isMetByAll", desc := "(LColdFrame$Zone;)Z" } : Jvm.MethodName)) ∈ tbG_ := tb_in (List.mem_append_right _ (List.mem_of_getElem? (i := 577) (by decide +kernel))) rfl
set_option maxRecDepth 20000 in
theorem tw_578 : (Jvm.Cond.code ({ cls := "ColdFrame$Condition", name := "isMetByAll", desc := "(LColdFrame$Zone;)Z" } : Jvm.MethodName) prog_4_method_5_code (3 : Nat) (Option.some Jvm.ClassFile.FieldType.boolean)) ∈ tbG_ := tb_in (List.mem_append_right _ (List.mem_of_getElem? (i := 578) (rfl))) rfl
theorem tw_579 : (Jvm.Cond.methodLink "ColdFrame$Condition" (52 : Nat) ({ cls := "ColdFrame$Condition", name := "shareOf", desc := "(IJLColdFrame$Zone;)I" } : Jvm.MethodName)) ∈ tbG_ := tb_in (List.mem_append_right _ (List.mem_of_getElem? (i := 579) (by decide +kernel))) rfl
theorem tw_580 : (Jvm.Cond.static ({ cls := "ColdFrame$Condition", name := "shareOf", desc := "(IJLColdFrame$Zone;)I" } : Jvm.MethodName)) ∈ tbG_ := tb_in (List.mem_append_right _ (List.mem_of_getElem? (i := 580) (by decide +kernel))) rfl
set_option maxRecDepth 20000 in
theorem tw_581 : (Jvm.Cond.code ({ cls := "ColdFrame$Condition", name := "shareOf", desc := "(IJLColdFrame$Zone;)I" } : Jvm.MethodName) prog_4_method_8_code (6 : Nat) (Option.some Jvm.ClassFile.FieldType.int)) ∈ tbG_ := tb_in (List.mem_append_right _ (List.mem_of_getElem? (i := 581) (rfl))) rfl
theorem tw_582 : (Jvm.Cond.methodLink "ColdFrame$Condition" (56 : Nat) ({ cls := "java/lang/Math", name := "min", desc := "(JJ)J" } : Jvm.MethodName)) ∈ tbG_ := tb_in (List.mem_append_right _ (List.mem_of_getElem? (i := 582) (by decide +kernel))) rfl
theorem tw_583 : (Jvm.Cond.static ({ cls := "java/lang/Math", name := "min", desc := "(JJ)J" } : Jvm.MethodName)) ∈ tbG_ := tb_in (List.mem_append_right _ (List.mem_of_getElem? (i := 583) (by decide +kernel))) rfl
set_option maxRecDepth 20000 in
theorem tw_584 : (Jvm.Cond.code ({ cls := "java/lang/Math", name := "min", desc := "(JJ)J" } : Jvm.MethodName) prog_21_method_70_code (4 : Nat) (Option.some Jvm.ClassFile.FieldType.long)) ∈ tbG_ := tb_in (List.mem_append_right _ (List.mem_of_getElem? (i := 584) (rfl))) rfl
theorem tw_585 : (Jvm.Cond.classLink "ColdFrame$Search" (109 : Nat) "ColdFrame$Column") ∈ tbG_ := tb_in (List.mem_append_right _ (List.mem_of_getElem? (i := 585) (by decide +kernel))) rfl
theorem tw_586 : (Jvm.Cond.methodLink "ColdFrame$Search" (115 : Nat) ({ cls := "ColdFrame$Search", name := "costIn", desc := "(LColdFrame$Zone;LColdFrame$Condition;LColdFrame$Column;)I" } : Jvm.MethodName)) ∈ tbG_ := tb_in (List.mem_append_right _ (List.mem_of_getElem? (i := 586) (by decide +kernel))) rfl
theorem tw_588 : (Jvm.Cond.instanceMethod ({ cls := "ColdFrame$Search", name := "costIn", desc := "(LColdFrame$Zone;LColdFrame$Condition;LColdFrame$Column;)I" } : Jvm.MethodName)) ∈ tbG_ := tb_in (List.mem_append_right _ (List.mem_of_getElem? (i := 588) (by decide +kernel))) rfl
set_option maxRecDepth 20000 in
theorem tw_589 : (Jvm.Cond.code ({ cls := "ColdFrame$Search", name := "costIn", desc := "(LColdFrame$Zone;LColdFrame$Condition;LColdFrame$Column;)I" } : Jvm.MethodName) prog_8_method_6_code (4 : Nat) (Option.some Jvm.ClassFile.FieldType.int)) ∈ tbG_ := tb_in (List.mem_append_right _ (List.mem_of_getElem? (i := 589) (rfl))) rfl
theorem tw_590 : (Jvm.Cond.methodLink "ColdFrame$Search" (130 : Nat) ({ cls := "ColdFrame$Condition", name := "methodIn", desc := "(LColdFrame$Zone;Z)I" } : Jvm.MethodName)) ∈ tbG_ := tb_in (List.mem_append_right _ (List.mem_of_getElem? (i := 590) (by decide +kernel))) rfl
theorem tw_591 : (Jvm.Cond.instanceMethod ({ cls := "ColdFrame$Condition", name := "methodIn", desc := "(LColdFrame$Zone;Z)I" } : Jvm.MethodName)) ∈ tbG_ := tb_in (List.mem_append_right _ (List.mem_of_getElem? (i := 591) (by decide +kernel))) rfl
theorem tw_592 : (Jvm.Cond.selects "ColdFrame$Condition" ({ cls := "ColdFrame$Condition", name := "methodIn", desc := "(LColdFrame$Zone;Z)I" } : Jvm.MethodName) ({ cls := "ColdFrame$Condition", name := "methodIn", desc := "(LColdFrame$Zone;Z)I" } : Jvm.MethodName)) ∈ tbG_ := tb_in (List.mem_append_right _ (List.mem_of_getElem? (i := 592) (by decide +kernel))) rfl
set_option maxRecDepth 20000 in
theorem tw_593 : (Jvm.Cond.code ({ cls := "ColdFrame$Condition", name := "methodIn", desc := "(LColdFrame$Zone;Z)I" } : Jvm.MethodName) prog_4_method_6_code (3 : Nat) (Option.some Jvm.ClassFile.FieldType.int)) ∈ tbG_ := tb_in (List.mem_append_right _ (List.mem_of_getElem? (i := 593) (rfl))) rfl
theorem tw_594 : (Jvm.Cond.methodLink "ColdFrame$Condition" (42 : Nat) ({ cls := "ColdFrame$Zone", name := "hasBitmaps", desc := "()Z" } : Jvm.MethodName)) ∈ tbG_ := tb_in (List.mem_append_right _ (List.mem_of_getElem? (i := 594) (by decide +kernel))) rfl
theorem tw_595 : (Jvm.Cond.instanceMethod ({ cls := "ColdFrame$Zone", name := "hasBitmaps", desc := "()Z" } : Jvm.MethodName)) ∈ tbG_ := tb_in (List.mem_append_right _ (List.mem_of_getElem? (i := 595) (by decide +kernel))) rfl
theorem tw_596 : (Jvm.Cond.selects "ColdFrame$Zone" ({ cls := "ColdFrame$Zone", name := "hasBitmaps", desc := "()Z" } : Jvm.MethodName) ({ cls := "ColdFrame$Zone", name := "hasBitmaps", desc := "()Z" } : Jvm.MethodName)) ∈ tbG_ := tb_in (List.mem_append_right _ (List.mem_of_getElem? (i := 596) (by decide +kernel))) rfl
set_option maxRecDepth 20000 in
theorem tw_597 : (Jvm.Cond.code ({ cls := "ColdFrame$Zone", name := "hasBitmaps", desc := "()Z" } : Jvm.MethodName) prog_11_method_9_code (1 : Nat) (Option.some Jvm.ClassFile.FieldType.boolean)) ∈ tbG_ := tb_in (List.mem_append_right _ (List.mem_of_getElem? (i := 597) (rfl))) rfl
theorem tw_598 : (Jvm.Cond.methodLink "ColdFrame$Search" (134 : Nat) ({ cls := "ColdFrame$Zone", name := "bitmapsFor", desc := "(LColdFrame$Condition;)I" } : Jvm.MethodName)) ∈ tbG_ := tb_in (List.mem_append_right _ (List.mem_of_getElem? (i := 598) (by decide +kernel))) rfl
theorem tw_599 : (Jvm.Cond.instanceMethod ({ cls := "ColdFrame$Zone", name := "bitmapsFor", desc := "(LColdFrame$Condition;)I" } : Jvm.MethodName)) ∈ tbG_ := tb_in (List.mem_append_right _ (List.mem_of_getElem? (i := 599) (by decide +kernel))) rfl
theorem tw_600 : (Jvm.Cond.selects "ColdFrame$Zone" ({ cls := "ColdFrame$Zone", name := "bitmapsFor", desc := "(LColdFrame$Condition;)I" } : Jvm.MethodName) ({ cls := "ColdFrame$Zone", name := "bitmapsFor", desc := "(LColdFrame$Condition;)I" } : Jvm.MethodName)) ∈ tbG_ := tb_in (List.mem_append_right _ (List.mem_of_getElem? (i := 600) (by decide +kernel))) rfl
set_option maxRecDepth 20000 in
theorem tw_601 : (Jvm.Cond.code ({ cls := "ColdFrame$Zone", name := "bitmapsFor", desc := "(LColdFrame$Condition;)I" } : Jvm.MethodName) prog_11_method_11_code (4 : Nat) (Option.some Jvm.ClassFile.FieldType.int)) ∈ tbG_ := tb_in (List.mem_append_right _ (List.mem_of_getElem? (i := 601) (rfl))) rfl
theorem tw_602 : (Jvm.Cond.methodLink "ColdFrame$Zone" (87 : Nat) ({ cls := "ColdFrame$Condition", name := "isMetBy", desc := "(ZI)Z" } : Jvm.MethodName)) ∈ tbG_ := tb_in (List.mem_append_right _ (List.mem_of_getElem? (i := 602) (by decide +kernel))) rfl
theorem tw_603 : (Jvm.Cond.instanceMethod ({ cls := "ColdFrame$Condition", name := "isMetBy", desc := "(ZI)Z" } : Jvm.MethodName)) ∈ tbG_ := tb_in (List.mem_append_right _ (List.mem_of_getElem? (i := 603) (by decide +kernel))) rfl
theorem tw_604 : (Jvm.Cond.selects "ColdFrame$Condition" ({ cls := "ColdFrame$Condition", name := "isMetBy", desc := "(ZI)Z" } : Jvm.MethodName) ({ cls := "ColdFrame$Condition", name := "isMetBy", desc := "(ZI)Z" } : Jvm.MethodName)) ∈ tbG_ := tb_in (List.mem_append_right _ (List.mem_of_getElem? (i := 604) (by decide +kernel))) rfl
set_option maxRecDepth 20000 in
theorem tw_605 : (Jvm.Cond.code ({ cls := "ColdFrame$Condition", name := "isMetBy", desc := "(ZI)Z" } : Jvm.MethodName) prog_4_method_3_code (3 : Nat) (Option.some Jvm.ClassFile.FieldType.boolean)) ∈ tbG_ := tb_in (List.mem_append_right _ (List.mem_of_getElem? (i := 605) (rfl))) rfl
theorem tw_606 : (Jvm.Cond.methodLink "ColdFrame$Search" (119 : Nat) ({ cls := "ColdFrame$Search", name := "narrow", desc := "(LColdFrame$Block;LColdFrame$Condition;LColdFrame$Column;)V" } : Jvm.MethodName)) ∈ tbG_ := tb_in (List.mem_append_right _ (List.mem_of_getElem? (i := 606) (by decide +kernel))) rfl
theorem tw_608 : (Jvm.Cond.instanceMethod ({ cls := "ColdFrame$Search", name := "narrow", desc := "(LColdFrame$Block;LColdFrame$Condition;LColdFrame$Column;)V" } : Jvm.MethodName)) ∈ tbG_ := tb_in (List.mem_append_right _ (List.mem_of_getElem? (i := 608) (by decide +kernel))) rfl
set_option maxRecDepth 20000 in
theorem tw_609 : (Jvm.Cond.code ({ cls := "ColdFrame$Search", name := "narrow", desc := "(LColdFrame$Block;LColdFrame$Condition;LColdFrame$Column;)V" } : Jvm.MethodName) prog_8_method_7_code (6 : Nat) (Option.none : Option Jvm.ClassFile.FieldType)) ∈ tbG_ := tb_in (List.mem_append_right _ (List.mem_of_getElem? (i := 609) (rfl))) rfl
theorem tw_610 : (Jvm.Cond.methodLink "ColdFrame$Search" (153 : Nat) ({ cls := "ColdFrame$Condition", name := "isMetBy", desc := "(ZI)Z" } : Jvm.MethodName)) ∈ tbG_ := tb_in (List.mem_append_right _ (List.mem_of_getElem? (i := 610) (by decide +kernel))) rfl
theorem tw_611 : (Jvm.Cond.methodLink "ColdFrame$Search" (69 : Nat) ({ cls := "ColdFrame$Search", name := "collect", desc := "(LColdFrame$Table;LColdFrame$Block;Z)V" } : Jvm.MethodName)) ∈ tbG_ := tb_in (List.mem_append_right _ (List.mem_of_getElem? (i := 611) (by decide +kernel))) rfl
theorem tw_613 : (Jvm.Cond.instanceMethod ({ cls := "ColdFrame$Search", name := "collect", desc := "(LColdFrame$Table;LColdFrame$Block;Z)V" } : Jvm.MethodName)) ∈ tbG_ := tb_in (List.mem_append_right _ (List.mem_of_getElem? (i := 613) (by decide +kernel))) rfl
set_option maxRecDepth 20000 in
theorem tw_614 : (Jvm.Cond.code ({ cls := "ColdFrame$Search", name := "collect", desc := "(LColdFrame$Table;LColdFrame$Block;Z)V" } : Jvm.MethodName) prog_8_method_8_code (6 : Nat) (Option.none : Option Jvm.ClassFile.FieldType)) ∈ tbG_ := tb_in (List.mem_append_right _ (List.mem_of_getElem? (i := 614) (rfl))) rfl
theorem tw_615 : (Jvm.Cond.methodLink "ColdFrameLaw" (38 : Nat) ({ cls := "ColdFrame", name := "wouldFind", desc := "()I" } : Jvm.MethodName)) ∈ tbG_ := tb_in (List.mem_append_right _ (List.mem_of_getElem? (i := 615) (by decide +kernel))) rfl
theorem tw_616 : (Jvm.Cond.instanceMethod ({ cls := "ColdFrame", name := "wouldFind", desc := "()I" } : Jvm.MethodName)) ∈ tbG_ := tb_in (List.mem_append_right _ (List.mem_of_getElem? (i := 616) (by decide +kernel))) rfl
theorem tw_617 : (Jvm.Cond.selects "ColdFrame" ({ cls := "ColdFrame", name := "wouldFind", desc := "()I" } : Jvm.MethodName) ({ cls := "ColdFrame", name := "wouldFind", desc := "()I" } : Jvm.MethodName)) ∈ tbG_ := tb_in (List.mem_append_right _ (List.mem_of_getElem? (i := 617) (by decide +kernel))) rfl
set_option maxRecDepth 20000 in
theorem tw_618 : (Jvm.Cond.code ({ cls := "ColdFrame", name := "wouldFind", desc := "()I" } : Jvm.MethodName) prog_1_method_51_code (1 : Nat) (Option.some Jvm.ClassFile.FieldType.int)) ∈ tbG_ := tb_in (List.mem_append_right _ (List.mem_of_getElem? (i := 618) (rfl))) rfl
theorem tw_619 : (Jvm.Cond.methodLink "ColdFrameLaw" (30 : Nat) ({ cls := "ColdFrame", name := "digest", desc := "()J" } : Jvm.MethodName)) ∈ tbG_ := tb_in (List.mem_append_right _ (List.mem_of_getElem? (i := 619) (by decide +kernel))) rfl
theorem tw_620 : (Jvm.Cond.instanceMethod ({ cls := "ColdFrame", name := "digest", desc := "()J" } : Jvm.MethodName)) ∈ tbG_ := tb_in (List.mem_append_right _ (List.mem_of_getElem? (i := 620) (by decide +kernel))) rfl
theorem tw_621 : (Jvm.Cond.selects "ColdFrame" ({ cls := "ColdFrame", name := "digest", desc := "()J" } : Jvm.MethodName) ({ cls := "ColdFrame", name := "digest", desc := "()J" } : Jvm.MethodName)) ∈ tbG_ := tb_in (List.mem_append_right _ (List.mem_of_getElem? (i := 621) (by decide +kernel))) rfl
set_option maxRecDepth 20000 in
theorem tw_622 : (Jvm.Cond.code ({ cls := "ColdFrame", name := "digest", desc := "()J" } : Jvm.MethodName) prog_1_method_53_code (1 : Nat) (Option.some Jvm.ClassFile.FieldType.long)) ∈ tbG_ := tb_in (List.mem_append_right _ (List.mem_of_getElem? (i := 622) (rfl))) rfl
theorem tw_623 : (Jvm.Cond.constantLong "ColdFrame" (336 : Nat) (58023 : Int64)) ∈ tbG_ := tb_in (List.mem_append_right _ (List.mem_of_getElem? (i := 623) (by decide +kernel))) rfl
theorem tw_624 : (Jvm.Cond.methodLink "ColdFrame" (338 : Nat) ({ cls := "ColdFrame", name := "digestOfCounts", desc := "(J)J" } : Jvm.MethodName)) ∈ tbG_ := tb_in (List.mem_append_right _ (List.mem_of_getElem? (i := 624) (by decide +kernel))) rfl
theorem tw_626 : (Jvm.Cond.instanceMethod ({ cls := "ColdFrame", name := "digestOfCounts", desc := "(J)J" } : Jvm.MethodName)) ∈ tbG_ := tb_in (List.mem_append_right _ (List.mem_of_getElem? (i := 626) (by decide +kernel))) rfl
set_option maxRecDepth 20000 in
theorem tw_627 : (Jvm.Cond.code ({ cls := "ColdFrame", name := "digestOfCounts", desc := "(J)J" } : Jvm.MethodName) prog_1_method_61_code (6 : Nat) (Option.some Jvm.ClassFile.FieldType.long)) ∈ tbG_ := tb_in (List.mem_append_right _ (List.mem_of_getElem? (i := 627) (rfl))) rfl
theorem tw_628 : (Jvm.Cond.methodLink "ColdFrame" (372 : Nat) ({ cls := "ColdFrame", name := "mixed", desc := "(JJ)J" } : Jvm.MethodName)) ∈ tbG_ := tb_in (List.mem_append_right _ (List.mem_of_getElem? (i := 628) (by decide +kernel))) rfl
theorem tw_629 : (Jvm.Cond.static ({ cls := "ColdFrame", name := "mixed", desc := "(JJ)J" } : Jvm.MethodName)) ∈ tbG_ := tb_in (List.mem_append_right _ (List.mem_of_getElem? (i := 629) (by decide +kernel))) rfl
set_option maxRecDepth 20000 in
theorem tw_630 : (Jvm.Cond.code ({ cls := "ColdFrame", name := "mixed", desc := "(JJ)J" } : Jvm.MethodName) prog_1_method_60_code (4 : Nat) (Option.some Jvm.ClassFile.FieldType.long)) ∈ tbG_ := tb_in (List.mem_append_right _ (List.mem_of_getElem? (i := 630) (rfl))) rfl
theorem tw_631 : (Jvm.Cond.constantLong "ColdFrame" (370 : Nat) (31 : Int64)) ∈ tbG_ := tb_in (List.mem_append_right _ (List.mem_of_getElem? (i := 631) (by decide +kernel))) rfl
theorem tw_632 : (Jvm.Cond.methodLink "ColdFrame" (197 : Nat) ({ cls := "ColdFrame$Table", name := "bytesOfBitmaps", desc := "()I" } : Jvm.MethodName)) ∈ tbG_ := tb_in (List.mem_append_right _ (List.mem_of_getElem? (i := 632) (by decide +kernel))) rfl
theorem tw_633 : (Jvm.Cond.instanceMethod ({ cls := "ColdFrame$Table", name := "bytesOfBitmaps", desc := "()I" } : Jvm.MethodName)) ∈ tbG_ := tb_in (List.mem_append_right _ (List.mem_of_getElem? (i := 633) (by decide +kernel))) rfl
theorem tw_634 : (Jvm.Cond.selects "ColdFrame$Table" ({ cls := "ColdFrame$Table", name := "bytesOfBitmaps", desc := "()I" } : Jvm.MethodName) ({ cls := "ColdFrame$Table", name := "bytesOfBitmaps", desc := "()I" } : Jvm.MethodName)) ∈ tbG_ := tb_in (List.mem_append_right _ (List.mem_of_getElem? (i := 634) (by decide +kernel))) rfl
set_option maxRecDepth 20000 in
theorem tw_635 : (Jvm.Cond.code ({ cls := "ColdFrame$Table", name := "bytesOfBitmaps", desc := "()I" } : Jvm.MethodName) prog_10_method_13_code (4 : Nat) (Option.some Jvm.ClassFile.FieldType.int)) ∈ tbG_ := tb_in (List.mem_append_right _ (List.mem_of_getElem? (i := 635) (rfl))) rfl
theorem tw_636 : (Jvm.Cond.methodLink "ColdFrame$Table" (53 : Nat) ({ cls := "java/util/ArrayList", name := "size", desc := "()I" } : Jvm.MethodName)) ∈ tbG_ := tb_in (List.mem_append_right _ (List.mem_of_getElem? (i := 636) (by decide +kernel))) rfl
theorem tw_637 : (Jvm.Cond.methodLink "ColdFrame$Table" (56 : Nat) ({ cls := "java/util/ArrayList", name := "get", desc := "(I)Ljava/lang/Object;" } : Jvm.MethodName)) ∈ tbG_ := tb_in (List.mem_append_right _ (List.mem_of_getElem? (i := 637) (by decide +kernel))) rfl
theorem tw_638 : (Jvm.Cond.classLink "ColdFrame$Table" (60 : Nat) "ColdFrame$Column") ∈ tbG_ := tb_in (List.mem_append_right _ (List.mem_of_getElem? (i := 638) (by decide +kernel))) rfl
theorem tw_639 : (Jvm.Cond.methodLink "ColdFrame$Table" (138 : Nat) ({ cls := "ColdFrame$Zone", name := "bytesOfBitmaps", desc := "()I" } : Jvm.MethodName)) ∈ tbG_ := tb_in (List.mem_append_right _ (List.mem_of_getElem? (i := 639) (by decide +kernel))) rfl
theorem tw_640 : (Jvm.Cond.instanceMethod ({ cls := "ColdFrame$Zone", name := "bytesOfBitmaps", desc := "()I" } : Jvm.MethodName)) ∈ tbG_ := tb_in (List.mem_append_right _ (List.mem_of_getElem? (i := 640) (by decide +kernel))) rfl
theorem tw_641 : (Jvm.Cond.selects "ColdFrame$Zone" ({ cls := "ColdFrame$Zone", name := "bytesOfBitmaps", desc := "()I" } : Jvm.MethodName) ({ cls := "ColdFrame$Zone", name := "bytesOfBitmaps", desc := "()I" } : Jvm.MethodName)) ∈ tbG_ := tb_in (List.mem_append_right _ (List.mem_of_getElem? (i := 641) (by decide +kernel))) rfl
set_option maxRecDepth 20000 in
theorem tw_642 : (Jvm.Cond.code ({ cls := "ColdFrame$Zone", name := "bytesOfBitmaps", desc := "()I" } : Jvm.MethodName) prog_11_method_10_code (1 : Nat) (Option.some Jvm.ClassFile.FieldType.int)) ∈ tbG_ := tb_in (List.mem_append_right _ (List.mem_of_getElem? (i := 642) (rfl))) rfl
theorem tw_643 : (Jvm.Cond.methodLink "ColdFrame$Zone" (83 : Nat) ({ cls := "ColdFrame$Zone", name := "hasBitmaps", desc := "()Z" } : Jvm.MethodName)) ∈ tbG_ := tb_in (List.mem_append_right _ (List.mem_of_getElem? (i := 643) (by decide +kernel))) rfl
theorem tw_644 : (Jvm.Cond.methodLink "ColdFrame$Zone" (73 : Nat) ({ cls := "ColdFrame$Zone", name := "bytesFor", desc := "(I)I" } : Jvm.MethodName)) ∈ tbG_ := tb_in (List.mem_append_right _ (List.mem_of_getElem? (i := 644) (by decide +kernel))) rfl
theorem tw_645 : (Jvm.Cond.static ({ cls := "ColdFrame$Zone", name := "bytesFor", desc := "(I)I" } : Jvm.MethodName)) ∈ tbG_ := tb_in (List.mem_append_right _ (List.mem_of_getElem? (i := 645) (by decide +kernel))) rfl
set_option maxRecDepth 20000 in
theorem tw_646 : (Jvm.Cond.code ({ cls := "ColdFrame$Zone", name := "bytesFor", desc := "(I)I" } : Jvm.MethodName) prog_11_method_7_code (1 : Nat) (Option.some Jvm.ClassFile.FieldType.int)) ∈ tbG_ := tb_in (List.mem_append_right _ (List.mem_of_getElem? (i := 646) (rfl))) rfl
theorem tw_647 : (Jvm.Cond.methodLink "ColdFrame" (342 : Nat) ({ cls := "ColdFrame", name := "digestOfRows", desc := "(J)J" } : Jvm.MethodName)) ∈ tbG_ := tb_in (List.mem_append_right _ (List.mem_of_getElem? (i := 647) (by decide +kernel))) rfl
theorem tw_649 : (Jvm.Cond.instanceMethod ({ cls := "ColdFrame", name := "digestOfRows", desc := "(J)J" } : Jvm.MethodName)) ∈ tbG_ := tb_in (List.mem_append_right _ (List.mem_of_getElem? (i := 649) (by decide +kernel))) rfl
set_option maxRecDepth 20000 in
theorem tw_650 : (Jvm.Cond.code ({ cls := "ColdFrame", name := "digestOfRows", desc := "(J)J" } : Jvm.MethodName) prog_1_method_62_code (8 : Nat) (Option.some Jvm.ClassFile.FieldType.long)) ∈ tbG_ := tb_in (List.mem_append_right _ (List.mem_of_getElem? (i := 650) (rfl))) rfl
theorem tw_651 : (Jvm.Cond.methodLink "ColdFrame" (71 : Nat) ({ cls := "java/util/ArrayList", name := "get", desc := "(I)Ljava/lang/Object;" } : Jvm.MethodName)) ∈ tbG_ := tb_in (List.mem_append_right _ (List.mem_of_getElem? (i := 651) (by decide +kernel))) rfl
theorem tw_652 : (Jvm.Cond.methodLink "ColdFrame" (345 : Nat) ({ cls := "ColdFrame", name := "digestOfFrames", desc := "(J)J" } : Jvm.MethodName)) ∈ tbG_ := tb_in (List.mem_append_right _ (List.mem_of_getElem? (i := 652) (by decide +kernel))) rfl
theorem tw_654 : (Jvm.Cond.instanceMethod ({ cls := "ColdFrame", name := "digestOfFrames", desc := "(J)J" } : Jvm.MethodName)) ∈ tbG_ := tb_in (List.mem_append_right _ (List.mem_of_getElem? (i := 654) (by decide +kernel))) rfl
set_option maxRecDepth 20000 in
theorem tw_655 : (Jvm.Cond.code ({ cls := "ColdFrame", name := "digestOfFrames", desc := "(J)J" } : Jvm.MethodName) prog_1_method_63_code (8 : Nat) (Option.some Jvm.ClassFile.FieldType.long)) ∈ tbG_ := tb_in (List.mem_append_right _ (List.mem_of_getElem? (i := 655) (rfl))) rfl
theorem tw_656 : (Jvm.Cond.classLink "ColdFrame" (125 : Nat) "ColdFrame$Block") ∈ tbG_ := tb_in (List.mem_append_right _ (List.mem_of_getElem? (i := 656) (by decide +kernel))) rfl
theorem tw_657 : (Jvm.Cond.methodLink "ColdFrame" (376 : Nat) ({ cls := "ColdFrame", name := "digestOfZone", desc := "(JLColdFrame$Zone;)J" } : Jvm.MethodName)) ∈ tbG_ := tb_in (List.mem_append_right _ (List.mem_of_getElem? (i := 657) (by decide +kernel))) rfl
theorem tw_658 : (Jvm.Cond.static ({ cls := "ColdFrame", name := "digestOfZone", desc := "(JLColdFrame$Zone;)J" } : Jvm.MethodName)) ∈ tbG_ := tb_in (List.mem_append_right _ (List.mem_of_getElem? (i := 658) (by decide +kernel))) rfl
set_option maxRecDepth 20000 in
theorem tw_659 : (Jvm.Cond.code ({ cls := "ColdFrame", name := "digestOfZone", desc := "(JLColdFrame$Zone;)J" } : Jvm.MethodName) prog_1_method_64_code (5 : Nat) (Option.some Jvm.ClassFile.FieldType.long)) ∈ tbG_ := tb_in (List.mem_append_right _ (List.mem_of_getElem? (i := 659) (rfl))) rfl
theorem tw_660 : (Jvm.Cond.methodLink "ColdFrameLaw" (18 : Nat) ({ cls := "ColdFrameLaw", name := "below", desc := "(II)I" } : Jvm.MethodName)) ∈ tbG_ := tb_in (List.mem_append_right _ (List.mem_of_getElem? (i := 660) (by decide +kernel))) rfl
theorem tw_661 : (Jvm.Cond.static ({ cls := "ColdFrameLaw", name := "below", desc := "(II)I" } : Jvm.MethodName)) ∈ tbG_ := tb_in (List.mem_append_right _ (List.mem_of_getElem? (i := 661) (by decide +kernel))) rfl
set_option maxRecDepth 20000 in
theorem tw_662 : (Jvm.Cond.code ({ cls := "ColdFrameLaw", name := "below", desc := "(II)I" } : Jvm.MethodName) method_2_code (2 : Nat) (Option.some Jvm.ClassFile.FieldType.int)) ∈ tbG_ := tb_in (List.mem_append_right _ (List.mem_of_getElem? (i := 662) (rfl))) rfl
theorem tw_663 : (Jvm.Cond.constant "ColdFrameLaw" (7 : Nat) (2147483647 : Int32)) ∈ tbG_ := tb_in (List.mem_append_right _ (List.mem_of_getElem? (i := 663) (by decide +kernel))) rfl
theorem tw_664 : (Jvm.Cond.methodLink "ColdFrameLaw" (12 : Nat) ({ cls := "ColdFrameLaw", name := "cell", desc := "([II)I" } : Jvm.MethodName)) ∈ tbG_ := tb_in (List.mem_append_right _ (List.mem_of_getElem? (i := 664) (by decide +kernel))) rfl
theorem tw_665 : (Jvm.Cond.static ({ cls := "ColdFrameLaw", name := "cell", desc := "([II)I" } : Jvm.MethodName)) ∈ tbG_ := tb_in (List.mem_append_right _ (List.mem_of_getElem? (i := 665) (by decide +kernel))) rfl
set_option maxRecDepth 20000 in
theorem tw_666 : (Jvm.Cond.code ({ cls := "ColdFrameLaw", name := "cell", desc := "([II)I" } : Jvm.MethodName) method_3_code (2 : Nat) (Option.some Jvm.ClassFile.FieldType.int)) ∈ tbG_ := tb_in (List.mem_append_right _ (List.mem_of_getElem? (i := 666) (rfl))) rfl
theorem tw_667 : (Jvm.Cond.constant "ColdFrameLaw" (8 : Nat) (790386105 : Int32)) ∈ tbG_ := tb_in (List.mem_append_right _ (List.mem_of_getElem? (i := 667) (by decide +kernel))) rfl
theorem tw_668 : (Jvm.Cond.methodLink "ColdFrameLaw" (26 : Nat) ({ cls := "ColdFrameLaw", name := "act", desc := "(LColdFrame;II)V" } : Jvm.MethodName)) ∈ tbG_ := tb_in (List.mem_append_right _ (List.mem_of_getElem? (i := 668) (by decide +kernel))) rfl
theorem tw_669 : (Jvm.Cond.static ({ cls := "ColdFrameLaw", name := "act", desc := "(LColdFrame;II)V" } : Jvm.MethodName)) ∈ tbG_ := tb_in (List.mem_append_right _ (List.mem_of_getElem? (i := 669) (by decide +kernel))) rfl
set_option maxRecDepth 20000 in
theorem tw_670 : (Jvm.Cond.codeWith ({ cls := "ColdFrameLaw", name := "act", desc := "(LColdFrame;II)V" } : Jvm.MethodName) method_5_code (7 : Nat) (Option.none : Option Jvm.ClassFile.FieldType) [((40 : Nat), (309 : Nat), (312 : Nat), (97 : Nat)), ((40 : Nat), (309 : Nat), (315 : Nat), (99 : Nat))]) ∈ tbG_ := tb_in (List.mem_append_right _ (List.mem_of_getElem? (i := 670) (rfl))) rfl
theorem tw_671 : (Jvm.Cond.classLink "ColdFrameLaw" (97 : Nat) "java/lang/IndexOutOfBoundsException") ∈ tbG_ := tb_in (List.mem_append_right _ (List.mem_of_getElem? (i := 671) (by decide +kernel))) rfl
theorem tw_672 : (Jvm.Cond.classLink "ColdFrameLaw" (99 : Nat) "java/lang/IllegalStateException") ∈ tbG_ := tb_in (List.mem_append_right _ (List.mem_of_getElem? (i := 672) (by decide +kernel))) rfl
theorem tw_673 : (Jvm.Cond.methodLink "ColdFrameLaw" (47 : Nat) ({ cls := "ColdFrame", name := "rows", desc := "()I" } : Jvm.MethodName)) ∈ tbG_ := tb_in (List.mem_append_right _ (List.mem_of_getElem? (i := 673) (by decide +kernel))) rfl
theorem tw_674 : (Jvm.Cond.instanceMethod ({ cls := "ColdFrame", name := "rows", desc := "()I" } : Jvm.MethodName)) ∈ tbG_ := tb_in (List.mem_append_right _ (List.mem_of_getElem? (i := 674) (by decide +kernel))) rfl
theorem tw_675 : (Jvm.Cond.selects "ColdFrame" ({ cls := "ColdFrame", name := "rows", desc := "()I" } : Jvm.MethodName) ({ cls := "ColdFrame", name := "rows", desc := "()I" } : Jvm.MethodName)) ∈ tbG_ := tb_in (List.mem_append_right _ (List.mem_of_getElem? (i := 675) (by decide +kernel))) rfl
set_option maxRecDepth 20000 in
theorem tw_676 : (Jvm.Cond.code ({ cls := "ColdFrame", name := "rows", desc := "()I" } : Jvm.MethodName) prog_1_method_13_code (1 : Nat) (Option.some Jvm.ClassFile.FieldType.int)) ∈ tbG_ := tb_in (List.mem_append_right _ (List.mem_of_getElem? (i := 676) (rfl))) rfl
theorem tw_677 : (Jvm.Cond.methodLink "ColdFrameLaw" (50 : Nat) ({ cls := "java/lang/Math", name := "max", desc := "(II)I" } : Jvm.MethodName)) ∈ tbG_ := tb_in (List.mem_append_right _ (List.mem_of_getElem? (i := 677) (by decide +kernel))) rfl
theorem tw_678 : (Jvm.Cond.methodLink "ColdFrameLaw" (55 : Nat) ({ cls := "ColdFrame", name := "frames", desc := "()I" } : Jvm.MethodName)) ∈ tbG_ := tb_in (List.mem_append_right _ (List.mem_of_getElem? (i := 678) (by decide +kernel))) rfl
theorem tw_679 : (Jvm.Cond.instanceMethod ({ cls := "ColdFrame", name := "frames", desc := "()I" } : Jvm.MethodName)) ∈ tbG_ := tb_in (List.mem_append_right _ (List.mem_of_getElem? (i := 679) (by decide +kernel))) rfl
theorem tw_680 : (Jvm.Cond.selects "ColdFrame" ({ cls := "ColdFrame", name := "frames", desc := "()I" } : Jvm.MethodName) ({ cls := "ColdFrame", name := "frames", desc := "()I" } : Jvm.MethodName)) ∈ tbG_ := tb_in (List.mem_append_right _ (List.mem_of_getElem? (i := 680) (by decide +kernel))) rfl
set_option maxRecDepth 20000 in
theorem tw_681 : (Jvm.Cond.code ({ cls := "ColdFrame", name := "frames", desc := "()I" } : Jvm.MethodName) prog_1_method_15_code (1 : Nat) (Option.some Jvm.ClassFile.FieldType.int)) ∈ tbG_ := tb_in (List.mem_append_right _ (List.mem_of_getElem? (i := 681) (rfl))) rfl
theorem tw_682 : (Jvm.Cond.methodLink "ColdFrameLaw" (58 : Nat) ({ cls := "ColdFrame", name := "delete", desc := "(I)Z" } : Jvm.MethodName)) ∈ tbG_ := tb_in (List.mem_append_right _ (List.mem_of_getElem? (i := 682) (by decide +kernel))) rfl
theorem tw_683 : (Jvm.Cond.instanceMethod ({ cls := "ColdFrame", name := "delete", desc := "(I)Z" } : Jvm.MethodName)) ∈ tbG_ := tb_in (List.mem_append_right _ (List.mem_of_getElem? (i := 683) (by decide +kernel))) rfl
theorem tw_684 : (Jvm.Cond.selects "ColdFrame" ({ cls := "ColdFrame", name := "delete", desc := "(I)Z" } : Jvm.MethodName) ({ cls := "ColdFrame", name := "delete", desc := "(I)Z" } : Jvm.MethodName)) ∈ tbG_ := tb_in (List.mem_append_right _ (List.mem_of_getElem? (i := 684) (by decide +kernel))) rfl
set_option maxRecDepth 20000 in
theorem tw_685 : (Jvm.Cond.code ({ cls := "ColdFrame", name := "delete", desc := "(I)Z" } : Jvm.MethodName) prog_1_method_5_code (2 : Nat) (Option.some Jvm.ClassFile.FieldType.boolean)) ∈ tbG_ := tb_in (List.mem_append_right _ (List.mem_of_getElem? (i := 685) (rfl))) rfl
theorem tw_686 : (Jvm.Cond.methodLink "ColdFrame" (96 : Nat) ({ cls := "ColdFrame", name := "needRow", desc := "(I)V" } : Jvm.MethodName)) ∈ tbG_ := tb_in (List.mem_append_right _ (List.mem_of_getElem? (i := 686) (by decide +kernel))) rfl
theorem tw_688 : (Jvm.Cond.instanceMethod ({ cls := "ColdFrame", name := "needRow", desc := "(I)V" } : Jvm.MethodName)) ∈ tbG_ := tb_in (List.mem_append_right _ (List.mem_of_getElem? (i := 688) (by decide +kernel))) rfl
set_option maxRecDepth 20000 in
theorem tw_689 : (Jvm.Cond.code ({ cls := "ColdFrame", name := "needRow", desc := "(I)V" } : Jvm.MethodName) prog_1_method_55_code (2 : Nat) (Option.none : Option Jvm.ClassFile.FieldType)) ∈ tbG_ := tb_in (List.mem_append_right _ (List.mem_of_getElem? (i := 689) (rfl))) rfl
theorem tw_690 : (Jvm.Cond.classLink "ColdFrame" (144 : Nat) "java/lang/IndexOutOfBoundsException") ∈ tbG_ := tb_in (List.mem_append_right _ (List.mem_of_getElem? (i := 690) (by decide +kernel))) rfl
theorem tw_691 : (Jvm.Cond.instantiable "java/lang/IndexOutOfBoundsException" (6 : Nat)) ∈ tbG_ := tb_in (List.mem_append_right _ (List.mem_of_getElem? (i := 691) (by decide +kernel))) rfl
theorem tx_692 : (Jvm.Cond.castable "java/lang/IndexOutOfBoundsException" "java/lang/IndexOutOfBoundsException") ∈ xw_ := List.mem_filter.mpr ⟨List.mem_append_right _ (List.mem_of_getElem? (i := 692) (by decide +kernel)), rfl⟩
theorem tw_693 : (Jvm.Cond.selects "java/lang/IndexOutOfBoundsException" ({ cls := "java/lang/Throwable", name := "fillInStackTrace", desc := "(I)Ljava/lang/Throwable;" } : Jvm.MethodName) ({ cls := "java/lang/Throwable", name := "fillInStackTrace", desc := "(I)Ljava/lang/Throwable;" } : Jvm.MethodName)) ∈ tbG_ := tb_in (List.mem_append_right _ (List.mem_of_getElem? (i := 693) (by decide +kernel))) rfl
theorem tw_700 : (Jvm.Cond.methodLink "ColdFrame" (148 : Nat) ({ cls := "java/lang/IndexOutOfBoundsException", name := "<init>", desc := "(Ljava/lang/String;)V" } : Jvm.MethodName)) ∈ tbG_ := tb_in (List.mem_append_right _ (List.mem_of_getElem? (i := 700) (by decide +kernel))) rfl
theorem tw_701 : (Jvm.Cond.instanceMethod ({ cls := "java/lang/IndexOutOfBoundsException", name := "<init>", desc := "(Ljava/lang/String;)V" } : Jvm.MethodName)) ∈ tbG_ := tb_in (List.mem_append_right _ (List.mem_of_getElem? (i := 701) (by decide +kernel))) rfl
set_option maxRecDepth 20000 in
theorem tw_702 : (Jvm.Cond.code ({ cls := "java/lang/IndexOutOfBoundsException", name := "<init>", desc := "(Ljava/lang/String;)V" } : Jvm.MethodName) prog_19_method_2_code (2 : Nat) (Option.none : Option Jvm.ClassFile.FieldType)) ∈ tbG_ := tb_in (List.mem_append_right _ (List.mem_of_getElem? (i := 702) (rfl))) rfl
theorem tw_703 : (Jvm.Cond.methodLink "java/lang/IndexOutOfBoundsException" (7 : Nat) ({ cls := "java/lang/RuntimeException", name := "<init>", desc := "(Ljava/lang/String;)V" } : Jvm.MethodName)) ∈ tbG_ := tb_in (List.mem_append_right _ (List.mem_of_getElem? (i := 703) (by decide +kernel))) rfl
theorem tw_706 : (Jvm.Cond.methodLink "ColdFrame" (99 : Nat) ({ cls := "ColdFrame$Table", name := "kill", desc := "(I)Z" } : Jvm.MethodName)) ∈ tbG_ := tb_in (List.mem_append_right _ (List.mem_of_getElem? (i := 706) (by decide +kernel))) rfl
theorem tw_707 : (Jvm.Cond.instanceMethod ({ cls := "ColdFrame$Table", name := "kill", desc := "(I)Z" } : Jvm.MethodName)) ∈ tbG_ := tb_in (List.mem_append_right _ (List.mem_of_getElem? (i := 707) (by decide +kernel))) rfl
theorem tw_708 : (Jvm.Cond.selects "ColdFrame$Table" ({ cls := "ColdFrame$Table", name := "kill", desc := "(I)Z" } : Jvm.MethodName) ({ cls := "ColdFrame$Table", name := "kill", desc := "(I)Z" } : Jvm.MethodName)) ∈ tbG_ := tb_in (List.mem_append_right _ (List.mem_of_getElem? (i := 708) (by decide +kernel))) rfl
set_option maxRecDepth 20000 in
theorem tw_709 : (Jvm.Cond.code ({ cls := "ColdFrame$Table", name := "kill", desc := "(I)Z" } : Jvm.MethodName) prog_10_method_6_code (2 : Nat) (Option.some Jvm.ClassFile.FieldType.boolean)) ∈ tbG_ := tb_in (List.mem_append_right _ (List.mem_of_getElem? (i := 709) (rfl))) rfl
theorem tw_710 : (Jvm.Cond.methodLink "ColdFrameLaw" (62 : Nat) ({ cls := "ColdFrame", name := "change", desc := "(III)I" } : Jvm.MethodName)) ∈ tbG_ := tb_in (List.mem_append_right _ (List.mem_of_getElem? (i := 710) (by decide +kernel))) rfl
theorem tw_711 : (Jvm.Cond.instanceMethod ({ cls := "ColdFrame", name := "change", desc := "(III)I" } : Jvm.MethodName)) ∈ tbG_ := tb_in (List.mem_append_right _ (List.mem_of_getElem? (i := 711) (by decide +kernel))) rfl
theorem tw_712 : (Jvm.Cond.selects "ColdFrame" ({ cls := "ColdFrame", name := "change", desc := "(III)I" } : Jvm.MethodName) ({ cls := "ColdFrame", name := "change", desc := "(III)I" } : Jvm.MethodName)) ∈ tbG_ := tb_in (List.mem_append_right _ (List.mem_of_getElem? (i := 712) (by decide +kernel))) rfl
set_option maxRecDepth 20000 in
theorem tw_713 : (Jvm.Cond.code ({ cls := "ColdFrame", name := "change", desc := "(III)I" } : Jvm.MethodName) prog_1_method_6_code (5 : Nat) (Option.some Jvm.ClassFile.FieldType.int)) ∈ tbG_ := tb_in (List.mem_append_right _ (List.mem_of_getElem? (i := 713) (rfl))) rfl
theorem tw_714 : (Jvm.Cond.methodLink "ColdFrame" (67 : Nat) ({ cls := "ColdFrame", name := "needColumn", desc := "(I)V" } : Jvm.MethodName)) ∈ tbG_ := tb_in (List.mem_append_right _ (List.mem_of_getElem? (i := 714) (by decide +kernel))) rfl
theorem tw_716 : (Jvm.Cond.instanceMethod ({ cls := "ColdFrame", name := "needColumn", desc := "(I)V" } : Jvm.MethodName)) ∈ tbG_ := tb_in (List.mem_append_right _ (List.mem_of_getElem? (i := 716) (by decide +kernel))) rfl
set_option maxRecDepth 20000 in
theorem tw_717 : (Jvm.Cond.code ({ cls := "ColdFrame", name := "needColumn", desc := "(I)V" } : Jvm.MethodName) prog_1_method_54_code (2 : Nat) (Option.none : Option Jvm.ClassFile.FieldType)) ∈ tbG_ := tb_in (List.mem_append_right _ (List.mem_of_getElem? (i := 717) (rfl))) rfl
theorem tw_720 : (Jvm.Cond.methodLink "ColdFrame" (87 : Nat) ({ cls := "ColdFrame", name := "needRoom", desc := "()V" } : Jvm.MethodName)) ∈ tbG_ := tb_in (List.mem_append_right _ (List.mem_of_getElem? (i := 720) (by decide +kernel))) rfl
theorem tw_722 : (Jvm.Cond.instanceMethod ({ cls := "ColdFrame", name := "needRoom", desc := "()V" } : Jvm.MethodName)) ∈ tbG_ := tb_in (List.mem_append_right _ (List.mem_of_getElem? (i := 722) (by decide +kernel))) rfl
set_option maxRecDepth 20000 in
theorem tw_723 : (Jvm.Cond.code ({ cls := "ColdFrame", name := "needRoom", desc := "()V" } : Jvm.MethodName) prog_1_method_57_code (1 : Nat) (Option.none : Option Jvm.ClassFile.FieldType)) ∈ tbG_ := tb_in (List.mem_append_right _ (List.mem_of_getElem? (i := 723) (rfl))) rfl
theorem tw_725 : (Jvm.Cond.methodLink "ColdFrame" (109 : Nat) ({ cls := "ColdFrame$Table", name := "appendChanged", desc := "(III)I" } : Jvm.MethodName)) ∈ tbG_ := tb_in (List.mem_append_right _ (List.mem_of_getElem? (i := 725) (by decide +kernel))) rfl
theorem tw_726 : (Jvm.Cond.instanceMethod ({ cls := "ColdFrame$Table", name := "appendChanged", desc := "(III)I" } : Jvm.MethodName)) ∈ tbG_ := tb_in (List.mem_append_right _ (List.mem_of_getElem? (i := 726) (by decide +kernel))) rfl
theorem tw_727 : (Jvm.Cond.selects "ColdFrame$Table" ({ cls := "ColdFrame$Table", name := "appendChanged", desc := "(III)I" } : Jvm.MethodName) ({ cls := "ColdFrame$Table", name := "appendChanged", desc := "(III)I" } : Jvm.MethodName)) ∈ tbG_ := tb_in (List.mem_append_right _ (List.mem_of_getElem? (i := 727) (by decide +kernel))) rfl
set_option maxRecDepth 20000 in
theorem tw_728 : (Jvm.Cond.code ({ cls := "ColdFrame$Table", name := "appendChanged", desc := "(III)I" } : Jvm.MethodName) prog_10_method_4_code (5 : Nat) (Option.some Jvm.ClassFile.FieldType.int)) ∈ tbG_ := tb_in (List.mem_append_right _ (List.mem_of_getElem? (i := 728) (rfl))) rfl
theorem tw_729 : (Jvm.Cond.methodLink "ColdFrame$Table" (76 : Nat) ({ cls := "ColdFrame$Table", name := "kill", desc := "(I)Z" } : Jvm.MethodName)) ∈ tbG_ := tb_in (List.mem_append_right _ (List.mem_of_getElem? (i := 729) (by decide +kernel))) rfl
theorem tw_730 : (Jvm.Cond.methodLink "ColdFrame$Table" (80 : Nat) ({ cls := "ColdFrame$Column", name := "copy", desc := "(II)V" } : Jvm.MethodName)) ∈ tbG_ := tb_in (List.mem_append_right _ (List.mem_of_getElem? (i := 730) (by decide +kernel))) rfl
theorem tw_731 : (Jvm.Cond.instanceMethod ({ cls := "ColdFrame$Column", name := "copy", desc := "(II)V" } : Jvm.MethodName)) ∈ tbG_ := tb_in (List.mem_append_right _ (List.mem_of_getElem? (i := 731) (by decide +kernel))) rfl
theorem tw_732 : (Jvm.Cond.selects "ColdFrame$Column" ({ cls := "ColdFrame$Column", name := "copy", desc := "(II)V" } : Jvm.MethodName) ({ cls := "ColdFrame$Column", name := "copy", desc := "(II)V" } : Jvm.MethodName)) ∈ tbG_ := tb_in (List.mem_append_right _ (List.mem_of_getElem? (i := 732) (by decide +kernel))) rfl
set_option maxRecDepth 20000 in
theorem tw_733 : (Jvm.Cond.code ({ cls := "ColdFrame$Column", name := "copy", desc := "(II)V" } : Jvm.MethodName) prog_3_method_5_code (3 : Nat) (Option.none : Option Jvm.ClassFile.FieldType)) ∈ tbG_ := tb_in (List.mem_append_right _ (List.mem_of_getElem? (i := 733) (rfl))) rfl
theorem tw_734 : (Jvm.Cond.methodLink "ColdFrame$Table" (84 : Nat) ({ cls := "ColdFrame$Column", name := "put", desc := "(II)V" } : Jvm.MethodName)) ∈ tbG_ := tb_in (List.mem_append_right _ (List.mem_of_getElem? (i := 734) (by decide +kernel))) rfl
theorem tw_735 : (Jvm.Cond.instanceMethod ({ cls := "ColdFrame$Column", name := "put", desc := "(II)V" } : Jvm.MethodName)) ∈ tbG_ := tb_in (List.mem_append_right _ (List.mem_of_getElem? (i := 735) (by decide +kernel))) rfl
theorem tw_736 : (Jvm.Cond.selects "ColdFrame$Column" ({ cls := "ColdFrame$Column", name := "put", desc := "(II)V" } : Jvm.MethodName) ({ cls := "ColdFrame$Column", name := "put", desc := "(II)V" } : Jvm.MethodName)) ∈ tbG_ := tb_in (List.mem_append_right _ (List.mem_of_getElem? (i := 736) (by decide +kernel))) rfl
set_option maxRecDepth 20000 in
theorem tw_737 : (Jvm.Cond.code ({ cls := "ColdFrame$Column", name := "put", desc := "(II)V" } : Jvm.MethodName) prog_3_method_4_code (3 : Nat) (Option.none : Option Jvm.ClassFile.FieldType)) ∈ tbG_ := tb_in (List.mem_append_right _ (List.mem_of_getElem? (i := 737) (rfl))) rfl
theorem tw_738 : (Jvm.Cond.methodLink "ColdFrame$Table" (73 : Nat) ({ cls := "ColdFrame$Table", name := "appendFilled", desc := "()I" } : Jvm.MethodName)) ∈ tbG_ := tb_in (List.mem_append_right _ (List.mem_of_getElem? (i := 738) (by decide +kernel))) rfl
theorem tw_740 : (Jvm.Cond.instanceMethod ({ cls := "ColdFrame$Table", name := "appendFilled", desc := "()I" } : Jvm.MethodName)) ∈ tbG_ := tb_in (List.mem_append_right _ (List.mem_of_getElem? (i := 740) (by decide +kernel))) rfl
set_option maxRecDepth 20000 in
theorem tw_741 : (Jvm.Cond.code ({ cls := "ColdFrame$Table", name := "appendFilled", desc := "()I" } : Jvm.MethodName) prog_10_method_5_code (2 : Nat) (Option.some Jvm.ClassFile.FieldType.int)) ∈ tbG_ := tb_in (List.mem_append_right _ (List.mem_of_getElem? (i := 741) (rfl))) rfl
theorem tw_742 : (Jvm.Cond.methodLink "ColdFrame$Table" (87 : Nat) ({ cls := "ColdFrame$Block", name := "append", desc := "(I)V" } : Jvm.MethodName)) ∈ tbG_ := tb_in (List.mem_append_right _ (List.mem_of_getElem? (i := 742) (by decide +kernel))) rfl
theorem tw_743 : (Jvm.Cond.instanceMethod ({ cls := "ColdFrame$Block", name := "append", desc := "(I)V" } : Jvm.MethodName)) ∈ tbG_ := tb_in (List.mem_append_right _ (List.mem_of_getElem? (i := 743) (by decide +kernel))) rfl
theorem tw_744 : (Jvm.Cond.selects "ColdFrame$Block" ({ cls := "ColdFrame$Block", name := "append", desc := "(I)V" } : Jvm.MethodName) ({ cls := "ColdFrame$Block", name := "append", desc := "(I)V" } : Jvm.MethodName)) ∈ tbG_ := tb_in (List.mem_append_right _ (List.mem_of_getElem? (i := 744) (by decide +kernel))) rfl
set_option maxRecDepth 20000 in
theorem tw_745 : (Jvm.Cond.code ({ cls := "ColdFrame$Block", name := "append", desc := "(I)V" } : Jvm.MethodName) prog_2_method_2_code (2 : Nat) (Option.none : Option Jvm.ClassFile.FieldType)) ∈ tbG_ := tb_in (List.mem_append_right _ (List.mem_of_getElem? (i := 745) (rfl))) rfl
theorem tw_746 : (Jvm.Cond.methodLink "ColdFrame" (93 : Nat) ({ cls := "ColdFrame$Table", name := "sealIfFull", desc := "()V" } : Jvm.MethodName)) ∈ tbG_ := tb_in (List.mem_append_right _ (List.mem_of_getElem? (i := 746) (by decide +kernel))) rfl
theorem tw_747 : (Jvm.Cond.instanceMethod ({ cls := "ColdFrame$Table", name := "sealIfFull", desc := "()V" } : Jvm.MethodName)) ∈ tbG_ := tb_in (List.mem_append_right _ (List.mem_of_getElem? (i := 747) (by decide +kernel))) rfl
theorem tw_748 : (Jvm.Cond.selects "ColdFrame$Table" ({ cls := "ColdFrame$Table", name := "sealIfFull", desc := "()V" } : Jvm.MethodName) ({ cls := "ColdFrame$Table", name := "sealIfFull", desc := "()V" } : Jvm.MethodName)) ∈ tbG_ := tb_in (List.mem_append_right _ (List.mem_of_getElem? (i := 748) (by decide +kernel))) rfl
set_option maxRecDepth 20000 in
theorem tw_749 : (Jvm.Cond.code ({ cls := "ColdFrame$Table", name := "sealIfFull", desc := "()V" } : Jvm.MethodName) prog_10_method_7_code (1 : Nat) (Option.none : Option Jvm.ClassFile.FieldType)) ∈ tbG_ := tb_in (List.mem_append_right _ (List.mem_of_getElem? (i := 749) (rfl))) rfl
theorem tw_750 : (Jvm.Cond.methodLink "ColdFrame$Table" (96 : Nat) ({ cls := "ColdFrame$Table", name := "sealBuffer", desc := "()I" } : Jvm.MethodName)) ∈ tbG_ := tb_in (List.mem_append_right _ (List.mem_of_getElem? (i := 750) (by decide +kernel))) rfl
theorem tw_751 : (Jvm.Cond.instanceMethod ({ cls := "ColdFrame$Table", name := "sealBuffer", desc := "()I" } : Jvm.MethodName)) ∈ tbG_ := tb_in (List.mem_append_right _ (List.mem_of_getElem? (i := 751) (by decide +kernel))) rfl
theorem tw_752 : (Jvm.Cond.selects "ColdFrame$Table" ({ cls := "ColdFrame$Table", name := "sealBuffer", desc := "()I" } : Jvm.MethodName) ({ cls := "ColdFrame$Table", name := "sealBuffer", desc := "()I" } : Jvm.MethodName)) ∈ tbG_ := tb_in (List.mem_append_right _ (List.mem_of_getElem? (i := 752) (by decide +kernel))) rfl
set_option maxRecDepth 20000 in
theorem tw_753 : (Jvm.Cond.code ({ cls := "ColdFrame$Table", name := "sealBuffer", desc := "()I" } : Jvm.MethodName) prog_10_method_8_code (2 : Nat) (Option.some Jvm.ClassFile.FieldType.int)) ∈ tbG_ := tb_in (List.mem_append_right _ (List.mem_of_getElem? (i := 753) (rfl))) rfl
theorem tw_754 : (Jvm.Cond.methodLink "ColdFrame$Table" (99 : Nat) ({ cls := "ColdFrame$Table", name := "dropDead", desc := "(LColdFrame$Block;)V" } : Jvm.MethodName)) ∈ tbG_ := tb_in (List.mem_append_right _ (List.mem_of_getElem? (i := 754) (by decide +kernel))) rfl
theorem tw_756 : (Jvm.Cond.instanceMethod ({ cls := "ColdFrame$Table", name := "dropDead", desc := "(LColdFrame$Block;)V" } : Jvm.MethodName)) ∈ tbG_ := tb_in (List.mem_append_right _ (List.mem_of_getElem? (i := 756) (by decide +kernel))) rfl
set_option maxRecDepth 20000 in
theorem tw_757 : (Jvm.Cond.code ({ cls := "ColdFrame$Table", name := "dropDead", desc := "(LColdFrame$Block;)V" } : Jvm.MethodName) prog_10_method_15_code (5 : Nat) (Option.none : Option Jvm.ClassFile.FieldType)) ∈ tbG_ := tb_in (List.mem_append_right _ (List.mem_of_getElem? (i := 757) (rfl))) rfl
theorem tw_758 : (Jvm.Cond.methodLink "ColdFrame$Table" (103 : Nat) ({ cls := "ColdFrame$Block", name := "reckon", desc := "(Ljava/util/ArrayList;[ILColdFrame$Sorter;)V" } : Jvm.MethodName)) ∈ tbG_ := tb_in (List.mem_append_right _ (List.mem_of_getElem? (i := 758) (by decide +kernel))) rfl
theorem tw_759 : (Jvm.Cond.instanceMethod ({ cls := "ColdFrame$Block", name := "reckon", desc := "(Ljava/util/ArrayList;[ILColdFrame$Sorter;)V" } : Jvm.MethodName)) ∈ tbG_ := tb_in (List.mem_append_right _ (List.mem_of_getElem? (i := 759) (by decide +kernel))) rfl
theorem tw_760 : (Jvm.Cond.selects "ColdFrame$Block" ({ cls := "ColdFrame$Block", name := "reckon", desc := "(Ljava/util/ArrayList;[ILColdFrame$Sorter;)V" } : Jvm.MethodName) ({ cls := "ColdFrame$Block", name := "reckon", desc := "(Ljava/util/ArrayList;[ILColdFrame$Sorter;)V" } : Jvm.MethodName)) ∈ tbG_ := tb_in (List.mem_append_right _ (List.mem_of_getElem? (i := 760) (by decide +kernel))) rfl
set_option maxRecDepth 20000 in
theorem tw_761 : (Jvm.Cond.code ({ cls := "ColdFrame$Block", name := "reckon", desc := "(Ljava/util/ArrayList;[ILColdFrame$Sorter;)V" } : Jvm.MethodName) prog_2_method_3_code (6 : Nat) (Option.none : Option Jvm.ClassFile.FieldType)) ∈ tbG_ := tb_in (List.mem_append_right _ (List.mem_of_getElem? (i := 761) (rfl))) rfl
theorem tw_762 : (Jvm.Cond.methodLink "ColdFrame$Block" (29 : Nat) ({ cls := "java/util/ArrayList", name := "size", desc := "()I" } : Jvm.MethodName)) ∈ tbG_ := tb_in (List.mem_append_right _ (List.mem_of_getElem? (i := 762) (by decide +kernel))) rfl
theorem tw_763 : (Jvm.Cond.methodLink "ColdFrame$Block" (35 : Nat) ({ cls := "java/util/ArrayList", name := "get", desc := "(I)Ljava/lang/Object;" } : Jvm.MethodName)) ∈ tbG_ := tb_in (List.mem_append_right _ (List.mem_of_getElem? (i := 763) (by decide +kernel))) rfl
theorem tw_764 : (Jvm.Cond.classLink "ColdFrame$Block" (39 : Nat) "ColdFrame$Column") ∈ tbG_ := tb_in (List.mem_append_right _ (List.mem_of_getElem? (i := 764) (by decide +kernel))) rfl
theorem tw_765 : (Jvm.Cond.methodLink "ColdFrame$Block" (41 : Nat) ({ cls := "java/lang/System", name := "arraycopy", desc := "(Ljava/lang/Object;ILjava/lang/Object;II)V" } : Jvm.MethodName)) ∈ tbG_ := tb_in (List.mem_append_right _ (List.mem_of_getElem? (i := 765) (by decide +kernel))) rfl
theorem tw_766 : (Jvm.Cond.methodLink "ColdFrame$Block" (47 : Nat) ({ cls := "ColdFrame$Sorter", name := "arrange", desc := "([IILColdFrame$Column;ZZ)V" } : Jvm.MethodName)) ∈ tbG_ := tb_in (List.mem_append_right _ (List.mem_of_getElem? (i := 766) (by decide +kernel))) rfl
theorem tw_767 : (Jvm.Cond.instanceMethod ({ cls := "ColdFrame$Sorter", name := "arrange", desc := "([IILColdFrame$Column;ZZ)V" } : Jvm.MethodName)) ∈ tbG_ := tb_in (List.mem_append_right _ (List.mem_of_getElem? (i := 767) (by decide +kernel))) rfl
theorem tw_768 : (Jvm.Cond.selects "ColdFrame$Sorter" ({ cls := "ColdFrame$Sorter", name := "arrange", desc := "([IILColdFrame$Column;ZZ)V" } : Jvm.MethodName) ({ cls := "ColdFrame$Sorter", name := "arrange", desc := "([IILColdFrame$Column;ZZ)V" } : Jvm.MethodName)) ∈ tbG_ := tb_in (List.mem_append_right _ (List.mem_of_getElem? (i := 768) (by decide +kernel))) rfl
set_option maxRecDepth 20000 in
theorem tw_769 : (Jvm.Cond.code ({ cls := "ColdFrame$Sorter", name := "arrange", desc := "([IILColdFrame$Column;ZZ)V" } : Jvm.MethodName) prog_9_method_2_code (10 : Nat) (Option.none : Option Jvm.ClassFile.FieldType)) ∈ tbG_ := tb_in (List.mem_append_right _ (List.mem_of_getElem? (i := 769) (rfl))) rfl
theorem tw_770 : (Jvm.Cond.constantLong "ColdFrame$Sorter" (28 : Nat) (-1099511627776 : Int64)) ∈ tbG_ := tb_in (List.mem_append_right _ (List.mem_of_getElem? (i := 770) (by decide +kernel))) rfl
theorem tw_771 : (Jvm.Cond.constantLong "ColdFrame$Sorter" (30 : Nat) (1099511627776 : Int64)) ∈ tbG_ := tb_in (List.mem_append_right _ (List.mem_of_getElem? (i := 771) (by decide +kernel))) rfl
theorem tw_772 : (Jvm.Cond.methodLink "ColdFrame$Sorter" (32 : Nat) ({ cls := "java/lang/Math", name := "min", desc := "(II)I" } : Jvm.MethodName)) ∈ tbG_ := tb_in (List.mem_append_right _ (List.mem_of_getElem? (i := 772) (by decide +kernel))) rfl
theorem tw_773 : (Jvm.Cond.methodLink "ColdFrame$Sorter" (38 : Nat) ({ cls := "ColdFrame$Sorter", name := "join", desc := "([IIII)V" } : Jvm.MethodName)) ∈ tbG_ := tb_in (List.mem_append_right _ (List.mem_of_getElem? (i := 773) (by decide +kernel))) rfl
theorem tw_775 : (Jvm.Cond.instanceMethod ({ cls := "ColdFrame$Sorter", name := "join", desc := "([IIII)V" } : Jvm.MethodName)) ∈ tbG_ := tb_in (List.mem_append_right _ (List.mem_of_getElem? (i := 775) (by decide +kernel))) rfl
set_option maxRecDepth 20000 in
theorem tw_776 : (Jvm.Cond.code ({ cls := "ColdFrame$Sorter", name := "join", desc := "([IIII)V" } : Jvm.MethodName) prog_9_method_3_code (9 : Nat) (Option.none : Option Jvm.ClassFile.FieldType)) ∈ tbG_ := tb_in (List.mem_append_right _ (List.mem_of_getElem? (i := 776) (rfl))) rfl
theorem tw_777 : (Jvm.Cond.methodLink "ColdFrame$Sorter" (42 : Nat) ({ cls := "java/lang/System", name := "arraycopy", desc := "(Ljava/lang/Object;ILjava/lang/Object;II)V" } : Jvm.MethodName)) ∈ tbG_ := tb_in (List.mem_append_right _ (List.mem_of_getElem? (i := 777) (by decide +kernel))) rfl
theorem tw_778 : (Jvm.Cond.methodLink "ColdFrame$Block" (53 : Nat) ({ cls := "ColdFrame$Zone", name := "reckon", desc := "(LColdFrame$Column;[I[II)V" } : Jvm.MethodName)) ∈ tbG_ := tb_in (List.mem_append_right _ (List.mem_of_getElem? (i := 778) (by decide +kernel))) rfl
theorem tw_779 : (Jvm.Cond.instanceMethod ({ cls := "ColdFrame$Zone", name := "reckon", desc := "(LColdFrame$Column;[I[II)V" } : Jvm.MethodName)) ∈ tbG_ := tb_in (List.mem_append_right _ (List.mem_of_getElem? (i := 779) (by decide +kernel))) rfl
theorem tw_780 : (Jvm.Cond.selects "ColdFrame$Zone" ({ cls := "ColdFrame$Zone", name := "reckon", desc := "(LColdFrame$Column;[I[II)V" } : Jvm.MethodName) ({ cls := "ColdFrame$Zone", name := "reckon", desc := "(LColdFrame$Column;[I[II)V" } : Jvm.MethodName)) ∈ tbG_ := tb_in (List.mem_append_right _ (List.mem_of_getElem? (i := 780) (by decide +kernel))) rfl
set_option maxRecDepth 20000 in
theorem tw_781 : (Jvm.Cond.code ({ cls := "ColdFrame$Zone", name := "reckon", desc := "(LColdFrame$Column;[I[II)V" } : Jvm.MethodName) prog_11_method_2_code (8 : Nat) (Option.none : Option Jvm.ClassFile.FieldType)) ∈ tbG_ := tb_in (List.mem_append_right _ (List.mem_of_getElem? (i := 781) (rfl))) rfl
theorem tw_782 : (Jvm.Cond.methodLink "ColdFrame$Zone" (19 : Nat) ({ cls := "ColdFrame$Zone", name := "countValues", desc := "(LColdFrame$Column;[I)V" } : Jvm.MethodName)) ∈ tbG_ := tb_in (List.mem_append_right _ (List.mem_of_getElem? (i := 782) (by decide +kernel))) rfl
theorem tw_784 : (Jvm.Cond.instanceMethod ({ cls := "ColdFrame$Zone", name := "countValues", desc := "(LColdFrame$Column;[I)V" } : Jvm.MethodName)) ∈ tbG_ := tb_in (List.mem_append_right _ (List.mem_of_getElem? (i := 784) (by decide +kernel))) rfl
set_option maxRecDepth 20000 in
theorem tw_785 : (Jvm.Cond.code ({ cls := "ColdFrame$Zone", name := "countValues", desc := "(LColdFrame$Column;[I)V" } : Jvm.MethodName) prog_11_method_3_code (4 : Nat) (Option.none : Option Jvm.ClassFile.FieldType)) ∈ tbG_ := tb_in (List.mem_append_right _ (List.mem_of_getElem? (i := 785) (rfl))) rfl
theorem tw_786 : (Jvm.Cond.methodLink "ColdFrame$Zone" (52 : Nat) ({ cls := "ColdFrame$Column", name := "isSame", desc := "(II)Z" } : Jvm.MethodName)) ∈ tbG_ := tb_in (List.mem_append_right _ (List.mem_of_getElem? (i := 786) (by decide +kernel))) rfl
theorem tw_787 : (Jvm.Cond.instanceMethod ({ cls := "ColdFrame$Column", name := "isSame", desc := "(II)Z" } : Jvm.MethodName)) ∈ tbG_ := tb_in (List.mem_append_right _ (List.mem_of_getElem? (i := 787) (by decide +kernel))) rfl
theorem tw_788 : (Jvm.Cond.selects "ColdFrame$Column" ({ cls := "ColdFrame$Column", name := "isSame", desc := "(II)Z" } : Jvm.MethodName) ({ cls := "ColdFrame$Column", name := "isSame", desc := "(II)Z" } : Jvm.MethodName)) ∈ tbG_ := tb_in (List.mem_append_right _ (List.mem_of_getElem? (i := 788) (by decide +kernel))) rfl
set_option maxRecDepth 20000 in
theorem tw_789 : (Jvm.Cond.code ({ cls := "ColdFrame$Column", name := "isSame", desc := "(II)Z" } : Jvm.MethodName) prog_3_method_6_code (3 : Nat) (Option.some Jvm.ClassFile.FieldType.boolean)) ∈ tbG_ := tb_in (List.mem_append_right _ (List.mem_of_getElem? (i := 789) (rfl))) rfl
theorem tw_790 : (Jvm.Cond.methodLink "ColdFrame$Zone" (23 : Nat) ({ cls := "ColdFrame$Zone", name := "countRuns", desc := "(LColdFrame$Column;[I)V" } : Jvm.MethodName)) ∈ tbG_ := tb_in (List.mem_append_right _ (List.mem_of_getElem? (i := 790) (by decide +kernel))) rfl
theorem tw_792 : (Jvm.Cond.instanceMethod ({ cls := "ColdFrame$Zone", name := "countRuns", desc := "(LColdFrame$Column;[I)V" } : Jvm.MethodName)) ∈ tbG_ := tb_in (List.mem_append_right _ (List.mem_of_getElem? (i := 792) (by decide +kernel))) rfl
set_option maxRecDepth 20000 in
theorem tw_793 : (Jvm.Cond.code ({ cls := "ColdFrame$Zone", name := "countRuns", desc := "(LColdFrame$Column;[I)V" } : Jvm.MethodName) prog_11_method_4_code (6 : Nat) (Option.none : Option Jvm.ClassFile.FieldType)) ∈ tbG_ := tb_in (List.mem_append_right _ (List.mem_of_getElem? (i := 793) (rfl))) rfl
theorem tw_794 : (Jvm.Cond.constantLong "ColdFrame$Zone" (63 : Nat) (2 : Int64)) ∈ tbG_ := tb_in (List.mem_append_right _ (List.mem_of_getElem? (i := 794) (by decide +kernel))) rfl
theorem tw_795 : (Jvm.Cond.constantLong "ColdFrame$Zone" (65 : Nat) (-2 : Int64)) ∈ tbG_ := tb_in (List.mem_append_right _ (List.mem_of_getElem? (i := 795) (by decide +kernel))) rfl
theorem tw_796 : (Jvm.Cond.methodLink "ColdFrame$Zone" (67 : Nat) ({ cls := "java/lang/Math", name := "max", desc := "(JJ)J" } : Jvm.MethodName)) ∈ tbG_ := tb_in (List.mem_append_right _ (List.mem_of_getElem? (i := 796) (by decide +kernel))) rfl
theorem tw_797 : (Jvm.Cond.static ({ cls := "java/lang/Math", name := "max", desc := "(JJ)J" } : Jvm.MethodName)) ∈ tbG_ := tb_in (List.mem_append_right _ (List.mem_of_getElem? (i := 797) (by decide +kernel))) rfl
set_option maxRecDepth 20000 in
theorem tw_798 : (Jvm.Cond.code ({ cls := "java/lang/Math", name := "max", desc := "(JJ)J" } : Jvm.MethodName) prog_21_method_66_code (4 : Nat) (Option.some Jvm.ClassFile.FieldType.long)) ∈ tbG_ := tb_in (List.mem_append_right _ (List.mem_of_getElem? (i := 798) (rfl))) rfl
theorem tw_799 : (Jvm.Cond.methodLink "ColdFrame$Zone" (41 : Nat) ({ cls := "ColdFrame$Zone", name := "bytesIn", desc := "(I)I" } : Jvm.MethodName)) ∈ tbG_ := tb_in (List.mem_append_right _ (List.mem_of_getElem? (i := 799) (by decide +kernel))) rfl
theorem tw_800 : (Jvm.Cond.instanceMethod ({ cls := "ColdFrame$Zone", name := "bytesIn", desc := "(I)I" } : Jvm.MethodName)) ∈ tbG_ := tb_in (List.mem_append_right _ (List.mem_of_getElem? (i := 800) (by decide +kernel))) rfl
theorem tw_801 : (Jvm.Cond.selects "ColdFrame$Zone" ({ cls := "ColdFrame$Zone", name := "bytesIn", desc := "(I)I" } : Jvm.MethodName) ({ cls := "ColdFrame$Zone", name := "bytesIn", desc := "(I)I" } : Jvm.MethodName)) ∈ tbG_ := tb_in (List.mem_append_right _ (List.mem_of_getElem? (i := 801) (by decide +kernel))) rfl
set_option maxRecDepth 20000 in
theorem tw_802 : (Jvm.Cond.code ({ cls := "ColdFrame$Zone", name := "bytesIn", desc := "(I)I" } : Jvm.MethodName) prog_11_method_5_code (2 : Nat) (Option.some Jvm.ClassFile.FieldType.int)) ∈ tbG_ := tb_in (List.mem_append_right _ (List.mem_of_getElem? (i := 802) (rfl))) rfl
theorem tw_803 : (Jvm.Cond.methodLink "ColdFrame$Zone" (76 : Nat) ({ cls := "ColdFrame$Zone", name := "widthFor", desc := "(J)I" } : Jvm.MethodName)) ∈ tbG_ := tb_in (List.mem_append_right _ (List.mem_of_getElem? (i := 803) (by decide +kernel))) rfl
theorem tw_805 : (Jvm.Cond.instanceMethod ({ cls := "ColdFrame$Zone", name := "widthFor", desc := "(J)I" } : Jvm.MethodName)) ∈ tbG_ := tb_in (List.mem_append_right _ (List.mem_of_getElem? (i := 805) (by decide +kernel))) rfl
set_option maxRecDepth 20000 in
theorem tw_806 : (Jvm.Cond.code ({ cls := "ColdFrame$Zone", name := "widthFor", desc := "(J)I" } : Jvm.MethodName) prog_11_method_6_code (3 : Nat) (Option.some Jvm.ClassFile.FieldType.int)) ∈ tbG_ := tb_in (List.mem_append_right _ (List.mem_of_getElem? (i := 806) (rfl))) rfl
theorem tw_807 : (Jvm.Cond.methodLink "ColdFrame$Zone" (80 : Nat) ({ cls := "ColdFrame$Zone", name := "bits", desc := "(J)I" } : Jvm.MethodName)) ∈ tbG_ := tb_in (List.mem_append_right _ (List.mem_of_getElem? (i := 807) (by decide +kernel))) rfl
theorem tw_808 : (Jvm.Cond.static ({ cls := "ColdFrame$Zone", name := "bits", desc := "(J)I" } : Jvm.MethodName)) ∈ tbG_ := tb_in (List.mem_append_right _ (List.mem_of_getElem? (i := 808) (by decide +kernel))) rfl
set_option maxRecDepth 20000 in
theorem tw_809 : (Jvm.Cond.code ({ cls := "ColdFrame$Zone", name := "bits", desc := "(J)I" } : Jvm.MethodName) prog_11_method_8_code (3 : Nat) (Option.some Jvm.ClassFile.FieldType.int)) ∈ tbG_ := tb_in (List.mem_append_right _ (List.mem_of_getElem? (i := 809) (rfl))) rfl
theorem tw_810 : (Jvm.Cond.methodLink "ColdFrame$Block" (60 : Nat) ({ cls := "ColdFrame$Zone", name := "bytesIn", desc := "(I)I" } : Jvm.MethodName)) ∈ tbG_ := tb_in (List.mem_append_right _ (List.mem_of_getElem? (i := 810) (by decide +kernel))) rfl
theorem tw_811 : (Jvm.Cond.methodLink "ColdFrame$Table" (107 : Nat) ({ cls := "java/util/ArrayList", name := "add", desc := "(Ljava/lang/Object;)Z" } : Jvm.MethodName)) ∈ tbG_ := tb_in (List.mem_append_right _ (List.mem_of_getElem? (i := 811) (by decide +kernel))) rfl
theorem tw_812 : (Jvm.Cond.methodLink "ColdFrame$Table" (111 : Nat) ({ cls := "ColdFrame$Table", name := "numberFrom", desc := "(I)V" } : Jvm.MethodName)) ∈ tbG_ := tb_in (List.mem_append_right _ (List.mem_of_getElem? (i := 812) (by decide +kernel))) rfl
theorem tw_814 : (Jvm.Cond.instanceMethod ({ cls := "ColdFrame$Table", name := "numberFrom", desc := "(I)V" } : Jvm.MethodName)) ∈ tbG_ := tb_in (List.mem_append_right _ (List.mem_of_getElem? (i := 814) (by decide +kernel))) rfl
set_option maxRecDepth 20000 in
theorem tw_815 : (Jvm.Cond.code ({ cls := "ColdFrame$Table", name := "numberFrom", desc := "(I)V" } : Jvm.MethodName) prog_10_method_17_code (5 : Nat) (Option.none : Option Jvm.ClassFile.FieldType)) ∈ tbG_ := tb_in (List.mem_append_right _ (List.mem_of_getElem? (i := 815) (rfl))) rfl
theorem tw_816 : (Jvm.Cond.methodLink "ColdFrameLaw" (66 : Nat) ({ cls := "ColdFrame", name := "setSize", desc := "(I)I" } : Jvm.MethodName)) ∈ tbG_ := tb_in (List.mem_append_right _ (List.mem_of_getElem? (i := 816) (by decide +kernel))) rfl
theorem tw_817 : (Jvm.Cond.instanceMethod ({ cls := "ColdFrame", name := "setSize", desc := "(I)I" } : Jvm.MethodName)) ∈ tbG_ := tb_in (List.mem_append_right _ (List.mem_of_getElem? (i := 817) (by decide +kernel))) rfl
theorem tw_818 : (Jvm.Cond.selects "ColdFrame" ({ cls := "ColdFrame", name := "setSize", desc := "(I)I" } : Jvm.MethodName) ({ cls := "ColdFrame", name := "setSize", desc := "(I)I" } : Jvm.MethodName)) ∈ tbG_ := tb_in (List.mem_append_right _ (List.mem_of_getElem? (i := 818) (by decide +kernel))) rfl
set_option maxRecDepth 20000 in
theorem tw_819 : (Jvm.Cond.code ({ cls := "ColdFrame", name := "setSize", desc := "(I)I" } : Jvm.MethodName) prog_1_method_7_code (3 : Nat) (Option.some Jvm.ClassFile.FieldType.int)) ∈ tbG_ := tb_in (List.mem_append_right _ (List.mem_of_getElem? (i := 819) (rfl))) rfl
theorem tw_820 : (Jvm.Cond.classLink "ColdFrame" (113 : Nat) "java/lang/IllegalArgumentException") ∈ tbG_ := tb_in (List.mem_append_right _ (List.mem_of_getElem? (i := 820) (by decide +kernel))) rfl
theorem tw_821 : (Jvm.Cond.instantiable "java/lang/IllegalArgumentException" (6 : Nat)) ∈ tbG_ := tb_in (List.mem_append_right _ (List.mem_of_getElem? (i := 821) (by decide +kernel))) rfl
theorem tx_822 : (Jvm.Cond.castable "java/lang/IllegalArgumentException" "java/lang/IllegalArgumentException") ∈ xw_ := List.mem_filter.mpr ⟨List.mem_append_right _ (List.mem_of_getElem? (i := 822) (by decide +kernel)), rfl⟩
theorem tw_823 : (Jvm.Cond.selects "java/lang/IllegalArgumentException" ({ cls := "java/lang/Throwable", name := "fillInStackTrace", desc := "(I)Ljava/lang/Throwable;" } : Jvm.MethodName) ({ cls := "java/lang/Throwable", name := "fillInStackTrace", desc := "(I)Ljava/lang/Throwable;" } : Jvm.MethodName)) ∈ tbG_ := tb_in (List.mem_append_right _ (List.mem_of_getElem? (i := 823) (by decide +kernel))) rfl
theorem tw_830 : (Jvm.Cond.methodLink "ColdFrame" (117 : Nat) ({ cls := "java/lang/IllegalArgumentException", name := "<init>", desc := "(Ljava/lang/String;)V" } : Jvm.MethodName)) ∈ tbG_ := tb_in (List.mem_append_right _ (List.mem_of_getElem? (i := 830) (by decide +kernel))) rfl
theorem tw_831 : (Jvm.Cond.instanceMethod ({ cls := "java/lang/IllegalArgumentException", name := "<init>", desc := "(Ljava/lang/String;)V" } : Jvm.MethodName)) ∈ tbG_ := tb_in (List.mem_append_right _ (List.mem_of_getElem? (i := 831) (by decide +kernel))) rfl
set_option maxRecDepth 20000 in
theorem tw_832 : (Jvm.Cond.code ({ cls := "java/lang/IllegalArgumentException", name := "<init>", desc := "(Ljava/lang/String;)V" } : Jvm.MethodName) prog_17_method_2_code (2 : Nat) (Option.none : Option Jvm.ClassFile.FieldType)) ∈ tbG_ := tb_in (List.mem_append_right _ (List.mem_of_getElem? (i := 832) (rfl))) rfl
theorem tw_833 : (Jvm.Cond.methodLink "java/lang/IllegalArgumentException" (7 : Nat) ({ cls := "java/lang/RuntimeException", name := "<init>", desc := "(Ljava/lang/String;)V" } : Jvm.MethodName)) ∈ tbG_ := tb_in (List.mem_append_right _ (List.mem_of_getElem? (i := 833) (by decide +kernel))) rfl
theorem tw_836 : (Jvm.Cond.methodLink "ColdFrameLaw" (70 : Nat) ({ cls := "ColdFrame", name := "seal", desc := "()I" } : Jvm.MethodName)) ∈ tbG_ := tb_in (List.mem_append_right _ (List.mem_of_getElem? (i := 836) (by decide +kernel))) rfl
theorem tw_837 : (Jvm.Cond.instanceMethod ({ cls := "ColdFrame", name := "seal", desc := "()I" } : Jvm.MethodName)) ∈ tbG_ := tb_in (List.mem_append_right _ (List.mem_of_getElem? (i := 837) (by decide +kernel))) rfl
theorem tw_838 : (Jvm.Cond.selects "ColdFrame" ({ cls := "ColdFrame", name := "seal", desc := "()I" } : Jvm.MethodName) ({ cls := "ColdFrame", name := "seal", desc := "()I" } : Jvm.MethodName)) ∈ tbG_ := tb_in (List.mem_append_right _ (List.mem_of_getElem? (i := 838) (by decide +kernel))) rfl
set_option maxRecDepth 20000 in
theorem tw_839 : (Jvm.Cond.code ({ cls := "ColdFrame", name := "seal", desc := "()I" } : Jvm.MethodName) prog_1_method_8_code (1 : Nat) (Option.some Jvm.ClassFile.FieldType.int)) ∈ tbG_ := tb_in (List.mem_append_right _ (List.mem_of_getElem? (i := 839) (rfl))) rfl
theorem tw_841 : (Jvm.Cond.methodLink "ColdFrame" (131 : Nat) ({ cls := "ColdFrame$Table", name := "sealBuffer", desc := "()I" } : Jvm.MethodName)) ∈ tbG_ := tb_in (List.mem_append_right _ (List.mem_of_getElem? (i := 841) (by decide +kernel))) rfl
theorem tw_842 : (Jvm.Cond.methodLink "ColdFrameLaw" (73 : Nat) ({ cls := "ColdFrame", name := "cluster", desc := "(II)I" } : Jvm.MethodName)) ∈ tbG_ := tb_in (List.mem_append_right _ (List.mem_of_getElem? (i := 842) (by decide +kernel))) rfl
theorem tw_843 : (Jvm.Cond.instanceMethod ({ cls := "ColdFrame", name := "cluster", desc := "(II)I" } : Jvm.MethodName)) ∈ tbG_ := tb_in (List.mem_append_right _ (List.mem_of_getElem? (i := 843) (by decide +kernel))) rfl
theorem tw_844 : (Jvm.Cond.selects "ColdFrame" ({ cls := "ColdFrame", name := "cluster", desc := "(II)I" } : Jvm.MethodName) ({ cls := "ColdFrame", name := "cluster", desc := "(II)I" } : Jvm.MethodName)) ∈ tbG_ := tb_in (List.mem_append_right _ (List.mem_of_getElem? (i := 844) (by decide +kernel))) rfl
set_option maxRecDepth 20000 in
theorem tw_845 : (Jvm.Cond.code ({ cls := "ColdFrame", name := "cluster", desc := "(II)I" } : Jvm.MethodName) prog_1_method_9_code (3 : Nat) (Option.some Jvm.ClassFile.FieldType.int)) ∈ tbG_ := tb_in (List.mem_append_right _ (List.mem_of_getElem? (i := 845) (rfl))) rfl
theorem tw_846 : (Jvm.Cond.methodLink "ColdFrame" (134 : Nat) ({ cls := "ColdFrame", name := "needFrame", desc := "(I)V" } : Jvm.MethodName)) ∈ tbG_ := tb_in (List.mem_append_right _ (List.mem_of_getElem? (i := 846) (by decide +kernel))) rfl
theorem tw_848 : (Jvm.Cond.instanceMethod ({ cls := "ColdFrame", name := "needFrame", desc := "(I)V" } : Jvm.MethodName)) ∈ tbG_ := tb_in (List.mem_append_right _ (List.mem_of_getElem? (i := 848) (by decide +kernel))) rfl
set_option maxRecDepth 20000 in
theorem tw_849 : (Jvm.Cond.code ({ cls := "ColdFrame", name := "needFrame", desc := "(I)V" } : Jvm.MethodName) prog_1_method_56_code (2 : Nat) (Option.none : Option Jvm.ClassFile.FieldType)) ∈ tbG_ := tb_in (List.mem_append_right _ (List.mem_of_getElem? (i := 849) (rfl))) rfl
theorem tw_851 : (Jvm.Cond.methodLink "ColdFrame" (137 : Nat) ({ cls := "ColdFrame$Table", name := "clusterBy", desc := "(II)I" } : Jvm.MethodName)) ∈ tbG_ := tb_in (List.mem_append_right _ (List.mem_of_getElem? (i := 851) (by decide +kernel))) rfl
theorem tw_852 : (Jvm.Cond.instanceMethod ({ cls := "ColdFrame$Table", name := "clusterBy", desc := "(II)I" } : Jvm.MethodName)) ∈ tbG_ := tb_in (List.mem_append_right _ (List.mem_of_getElem? (i := 852) (by decide +kernel))) rfl
theorem tw_853 : (Jvm.Cond.selects "ColdFrame$Table" ({ cls := "ColdFrame$Table", name := "clusterBy", desc := "(II)I" } : Jvm.MethodName) ({ cls := "ColdFrame$Table", name := "clusterBy", desc := "(II)I" } : Jvm.MethodName)) ∈ tbG_ := tb_in (List.mem_append_right _ (List.mem_of_getElem? (i := 853) (by decide +kernel))) rfl
set_option maxRecDepth 20000 in
theorem tw_854 : (Jvm.Cond.code ({ cls := "ColdFrame$Table", name := "clusterBy", desc := "(II)I" } : Jvm.MethodName) prog_10_method_9_code (5 : Nat) (Option.some Jvm.ClassFile.FieldType.int)) ∈ tbG_ := tb_in (List.mem_append_right _ (List.mem_of_getElem? (i := 854) (rfl))) rfl
theorem tw_855 : (Jvm.Cond.methodLink "ColdFrame$Table" (117 : Nat) ({ cls := "ColdFrame$Table", name := "removeFrame", desc := "(I)V" } : Jvm.MethodName)) ∈ tbG_ := tb_in (List.mem_append_right _ (List.mem_of_getElem? (i := 855) (by decide +kernel))) rfl
theorem tw_857 : (Jvm.Cond.instanceMethod ({ cls := "ColdFrame$Table", name := "removeFrame", desc := "(I)V" } : Jvm.MethodName)) ∈ tbG_ := tb_in (List.mem_append_right _ (List.mem_of_getElem? (i := 857) (by decide +kernel))) rfl
set_option maxRecDepth 20000 in
theorem tw_858 : (Jvm.Cond.code ({ cls := "ColdFrame$Table", name := "removeFrame", desc := "(I)V" } : Jvm.MethodName) prog_10_method_16_code (2 : Nat) (Option.none : Option Jvm.ClassFile.FieldType)) ∈ tbG_ := tb_in (List.mem_append_right _ (List.mem_of_getElem? (i := 858) (rfl))) rfl
theorem tw_859 : (Jvm.Cond.methodLink "ColdFrame$Table" (143 : Nat) ({ cls := "java/util/ArrayList", name := "remove", desc := "(I)Ljava/lang/Object;" } : Jvm.MethodName)) ∈ tbG_ := tb_in (List.mem_append_right _ (List.mem_of_getElem? (i := 859) (by decide +kernel))) rfl
theorem tw_860 : (Jvm.Cond.instanceMethod ({ cls := "java/util/ArrayList", name := "remove", desc := "(I)Ljava/lang/Object;" } : Jvm.MethodName)) ∈ tbG_ := tb_in (List.mem_append_right _ (List.mem_of_getElem? (i := 860) (by decide +kernel))) rfl
theorem tw_861 : (Jvm.Cond.selects "java/util/ArrayList" ({ cls := "java/util/ArrayList", name := "remove", desc := "(I)Ljava/lang/Object;" } : Jvm.MethodName) ({ cls := "java/util/ArrayList", name := "remove", desc := "(I)Ljava/lang/Object;" } : Jvm.MethodName)) ∈ tbG_ := tb_in (List.mem_append_right _ (List.mem_of_getElem? (i := 861) (by decide +kernel))) rfl
set_option maxRecDepth 20000 in
theorem tw_862 : (Jvm.Cond.code ({ cls := "java/util/ArrayList", name := "remove", desc := "(I)Ljava/lang/Object;" } : Jvm.MethodName) prog_28_method_29_code (4 : Nat) (Option.some (Jvm.ClassFile.FieldType.object "java/lang/Object"))) ∈ tbG_ := tb_in (List.mem_append_right _ (List.mem_of_getElem? (i := 862) (rfl))) rfl
theorem tw_863 : (Jvm.Cond.methodLink "java/util/ArrayList" (144 : Nat) ({ cls := "java/util/ArrayList", name := "fastRemove", desc := "([Ljava/lang/Object;I)V" } : Jvm.MethodName)) ∈ tbG_ := tb_in (List.mem_append_right _ (List.mem_of_getElem? (i := 863) (by decide +kernel))) rfl
theorem tw_865 : (Jvm.Cond.instanceMethod ({ cls := "java/util/ArrayList", name := "fastRemove", desc := "([Ljava/lang/Object;I)V" } : Jvm.MethodName)) ∈ tbG_ := tb_in (List.mem_append_right _ (List.mem_of_getElem? (i := 865) (by decide +kernel))) rfl
set_option maxRecDepth 20000 in
theorem tw_866 : (Jvm.Cond.code ({ cls := "java/util/ArrayList", name := "fastRemove", desc := "([Ljava/lang/Object;I)V" } : Jvm.MethodName) prog_28_method_39_code (4 : Nat) (Option.none : Option Jvm.ClassFile.FieldType)) ∈ tbG_ := tb_in (List.mem_append_right _ (List.mem_of_getElem? (i := 866) (rfl))) rfl
theorem tw_867 : (Jvm.Cond.methodLink "java/util/ArrayList" (112 : Nat) ({ cls := "java/lang/System", name := "arraycopy", desc := "(Ljava/lang/Object;ILjava/lang/Object;II)V" } : Jvm.MethodName)) ∈ tbG_ := tb_in (List.mem_append_right _ (List.mem_of_getElem? (i := 867) (by decide +kernel))) rfl
theorem tw_868 : (Jvm.Cond.methodLink "ColdFrame$Table" (123 : Nat) ({ cls := "ColdFrame$Sorter", name := "arrange", desc := "([IILColdFrame$Column;ZZ)V" } : Jvm.MethodName)) ∈ tbG_ := tb_in (List.mem_append_right _ (List.mem_of_getElem? (i := 868) (by decide +kernel))) rfl
theorem tw_869 : (Jvm.Cond.methodLink "ColdFrameLaw" (76 : Nat) ({ cls := "ColdFrame", name := "merge", desc := "(I)I" } : Jvm.MethodName)) ∈ tbG_ := tb_in (List.mem_append_right _ (List.mem_of_getElem? (i := 869) (by decide +kernel))) rfl
theorem tw_870 : (Jvm.Cond.instanceMethod ({ cls := "ColdFrame", name := "merge", desc := "(I)I" } : Jvm.MethodName)) ∈ tbG_ := tb_in (List.mem_append_right _ (List.mem_of_getElem? (i := 870) (by decide +kernel))) rfl
theorem tw_871 : (Jvm.Cond.selects "ColdFrame" ({ cls := "ColdFrame", name := "merge", desc := "(I)I" } : Jvm.MethodName) ({ cls := "ColdFrame", name := "merge", desc := "(I)I" } : Jvm.MethodName)) ∈ tbG_ := tb_in (List.mem_append_right _ (List.mem_of_getElem? (i := 871) (by decide +kernel))) rfl
set_option maxRecDepth 20000 in
theorem tw_872 : (Jvm.Cond.code ({ cls := "ColdFrame", name := "merge", desc := "(I)I" } : Jvm.MethodName) prog_1_method_10_code (2 : Nat) (Option.some Jvm.ClassFile.FieldType.int)) ∈ tbG_ := tb_in (List.mem_append_right _ (List.mem_of_getElem? (i := 872) (rfl))) rfl
theorem tw_874 : (Jvm.Cond.methodLink "ColdFrame" (149 : Nat) ({ cls := "ColdFrame$Table", name := "livingIn", desc := "(I)I" } : Jvm.MethodName)) ∈ tbG_ := tb_in (List.mem_append_right _ (List.mem_of_getElem? (i := 874) (by decide +kernel))) rfl
theorem tw_875 : (Jvm.Cond.instanceMethod ({ cls := "ColdFrame$Table", name := "livingIn", desc := "(I)I" } : Jvm.MethodName)) ∈ tbG_ := tb_in (List.mem_append_right _ (List.mem_of_getElem? (i := 875) (by decide +kernel))) rfl
theorem tw_876 : (Jvm.Cond.selects "ColdFrame$Table" ({ cls := "ColdFrame$Table", name := "livingIn", desc := "(I)I" } : Jvm.MethodName) ({ cls := "ColdFrame$Table", name := "livingIn", desc := "(I)I" } : Jvm.MethodName)) ∈ tbG_ := tb_in (List.mem_append_right _ (List.mem_of_getElem? (i := 876) (by decide +kernel))) rfl
set_option maxRecDepth 20000 in
theorem tw_877 : (Jvm.Cond.code ({ cls := "ColdFrame$Table", name := "livingIn", desc := "(I)I" } : Jvm.MethodName) prog_10_method_10_code (5 : Nat) (Option.some Jvm.ClassFile.FieldType.int)) ∈ tbG_ := tb_in (List.mem_append_right _ (List.mem_of_getElem? (i := 877) (rfl))) rfl
theorem tw_879 : (Jvm.Cond.methodLink "ColdFrame" (155 : Nat) ({ cls := "ColdFrame$Table", name := "mergeNext", desc := "(I)I" } : Jvm.MethodName)) ∈ tbG_ := tb_in (List.mem_append_right _ (List.mem_of_getElem? (i := 879) (by decide +kernel))) rfl
theorem tw_880 : (Jvm.Cond.instanceMethod ({ cls := "ColdFrame$Table", name := "mergeNext", desc := "(I)I" } : Jvm.MethodName)) ∈ tbG_ := tb_in (List.mem_append_right _ (List.mem_of_getElem? (i := 880) (by decide +kernel))) rfl
theorem tw_881 : (Jvm.Cond.selects "ColdFrame$Table" ({ cls := "ColdFrame$Table", name := "mergeNext", desc := "(I)I" } : Jvm.MethodName) ({ cls := "ColdFrame$Table", name := "mergeNext", desc := "(I)I" } : Jvm.MethodName)) ∈ tbG_ := tb_in (List.mem_append_right _ (List.mem_of_getElem? (i := 881) (by decide +kernel))) rfl
set_option maxRecDepth 20000 in
theorem tw_882 : (Jvm.Cond.code ({ cls := "ColdFrame$Table", name := "mergeNext", desc := "(I)I" } : Jvm.MethodName) prog_10_method_11_code (5 : Nat) (Option.some Jvm.ClassFile.FieldType.int)) ∈ tbG_ := tb_in (List.mem_append_right _ (List.mem_of_getElem? (i := 882) (rfl))) rfl
theorem tw_883 : (Jvm.Cond.methodLink "ColdFrameLaw" (79 : Nat) ({ cls := "ColdFrame", name := "index", desc := "(I)Z" } : Jvm.MethodName)) ∈ tbG_ := tb_in (List.mem_append_right _ (List.mem_of_getElem? (i := 883) (by decide +kernel))) rfl
theorem tw_884 : (Jvm.Cond.instanceMethod ({ cls := "ColdFrame", name := "index", desc := "(I)Z" } : Jvm.MethodName)) ∈ tbG_ := tb_in (List.mem_append_right _ (List.mem_of_getElem? (i := 884) (by decide +kernel))) rfl
theorem tw_885 : (Jvm.Cond.selects "ColdFrame" ({ cls := "ColdFrame", name := "index", desc := "(I)Z" } : Jvm.MethodName) ({ cls := "ColdFrame", name := "index", desc := "(I)Z" } : Jvm.MethodName)) ∈ tbG_ := tb_in (List.mem_append_right _ (List.mem_of_getElem? (i := 885) (by decide +kernel))) rfl
set_option maxRecDepth 20000 in
theorem tw_886 : (Jvm.Cond.code ({ cls := "ColdFrame", name := "index", desc := "(I)Z" } : Jvm.MethodName) prog_1_method_11_code (3 : Nat) (Option.some Jvm.ClassFile.FieldType.boolean)) ∈ tbG_ := tb_in (List.mem_append_right _ (List.mem_of_getElem? (i := 886) (rfl))) rfl
theorem tw_887 : (Jvm.Cond.methodLink "ColdFrameLaw" (82 : Nat) ({ cls := "ColdFrame", name := "where", desc := "(III)I" } : Jvm.MethodName)) ∈ tbG_ := tb_in (List.mem_append_right _ (List.mem_of_getElem? (i := 887) (by decide +kernel))) rfl
theorem tw_888 : (Jvm.Cond.instanceMethod ({ cls := "ColdFrame", name := "where", desc := "(III)I" } : Jvm.MethodName)) ∈ tbG_ := tb_in (List.mem_append_right _ (List.mem_of_getElem? (i := 888) (by decide +kernel))) rfl
theorem tw_889 : (Jvm.Cond.selects "ColdFrame" ({ cls := "ColdFrame", name := "where", desc := "(III)I" } : Jvm.MethodName) ({ cls := "ColdFrame", name := "where", desc := "(III)I" } : Jvm.MethodName)) ∈ tbG_ := tb_in (List.mem_append_right _ (List.mem_of_getElem? (i := 889) (by decide +kernel))) rfl
set_option maxRecDepth 20000 in
theorem tw_890 : (Jvm.Cond.code ({ cls := "ColdFrame", name := "where", desc := "(III)I" } : Jvm.MethodName) prog_1_method_32_code (4 : Nat) (Option.some Jvm.ClassFile.FieldType.int)) ∈ tbG_ := tb_in (List.mem_append_right _ (List.mem_of_getElem? (i := 890) (rfl))) rfl
theorem tw_892 : (Jvm.Cond.methodLink "ColdFrame" (217 : Nat) ({ cls := "ColdFrame$Query", name := "latest", desc := "()LColdFrame$Group;" } : Jvm.MethodName)) ∈ tbG_ := tb_in (List.mem_append_right _ (List.mem_of_getElem? (i := 892) (by decide +kernel))) rfl
theorem tw_893 : (Jvm.Cond.instanceMethod ({ cls := "ColdFrame$Query", name := "latest", desc := "()LColdFrame$Group;" } : Jvm.MethodName)) ∈ tbG_ := tb_in (List.mem_append_right _ (List.mem_of_getElem? (i := 893) (by decide +kernel))) rfl
theorem tw_894 : (Jvm.Cond.selects "ColdFrame$Query" ({ cls := "ColdFrame$Query", name := "latest", desc := "()LColdFrame$Group;" } : Jvm.MethodName) ({ cls := "ColdFrame$Query", name := "latest", desc := "()LColdFrame$Group;" } : Jvm.MethodName)) ∈ tbG_ := tb_in (List.mem_append_right _ (List.mem_of_getElem? (i := 894) (by decide +kernel))) rfl
set_option maxRecDepth 20000 in
theorem tw_895 : (Jvm.Cond.code ({ cls := "ColdFrame$Query", name := "latest", desc := "()LColdFrame$Group;" } : Jvm.MethodName) prog_6_method_2_code (1 : Nat) (Option.some (Jvm.ClassFile.FieldType.object "ColdFrame$Group"))) ∈ tbG_ := tb_in (List.mem_append_right _ (List.mem_of_getElem? (i := 895) (rfl))) rfl
theorem tw_897 : (Jvm.Cond.methodLink "ColdFrame" (226 : Nat) ({ cls := "ColdFrame$Group", name := "state", desc := "(III)I" } : Jvm.MethodName)) ∈ tbG_ := tb_in (List.mem_append_right _ (List.mem_of_getElem? (i := 897) (by decide +kernel))) rfl
theorem tw_898 : (Jvm.Cond.instanceMethod ({ cls := "ColdFrame$Group", name := "state", desc := "(III)I" } : Jvm.MethodName)) ∈ tbG_ := tb_in (List.mem_append_right _ (List.mem_of_getElem? (i := 898) (by decide +kernel))) rfl
theorem tw_899 : (Jvm.Cond.selects "ColdFrame$Group" ({ cls := "ColdFrame$Group", name := "state", desc := "(III)I" } : Jvm.MethodName) ({ cls := "ColdFrame$Group", name := "state", desc := "(III)I" } : Jvm.MethodName)) ∈ tbG_ := tb_in (List.mem_append_right _ (List.mem_of_getElem? (i := 899) (by decide +kernel))) rfl
set_option maxRecDepth 20000 in
theorem tw_900 : (Jvm.Cond.code ({ cls := "ColdFrame$Group", name := "state", desc := "(III)I" } : Jvm.MethodName) prog_5_method_2_code (4 : Nat) (Option.some Jvm.ClassFile.FieldType.int)) ∈ tbG_ := tb_in (List.mem_append_right _ (List.mem_of_getElem? (i := 900) (rfl))) rfl
theorem tw_901 : (Jvm.Cond.methodLink "ColdFrame$Group" (22 : Nat) ({ cls := "ColdFrame$Condition", name := "state", desc := "(III)V" } : Jvm.MethodName)) ∈ tbG_ := tb_in (List.mem_append_right _ (List.mem_of_getElem? (i := 901) (by decide +kernel))) rfl
theorem tw_902 : (Jvm.Cond.instanceMethod ({ cls := "ColdFrame$Condition", name := "state", desc := "(III)V" } : Jvm.MethodName)) ∈ tbG_ := tb_in (List.mem_append_right _ (List.mem_of_getElem? (i := 902) (by decide +kernel))) rfl
theorem tw_903 : (Jvm.Cond.selects "ColdFrame$Condition" ({ cls := "ColdFrame$Condition", name := "state", desc := "(III)V" } : Jvm.MethodName) ({ cls := "ColdFrame$Condition", name := "state", desc := "(III)V" } : Jvm.MethodName)) ∈ tbG_ := tb_in (List.mem_append_right _ (List.mem_of_getElem? (i := 903) (by decide +kernel))) rfl
set_option maxRecDepth 20000 in
theorem tw_904 : (Jvm.Cond.code ({ cls := "ColdFrame$Condition", name := "state", desc := "(III)V" } : Jvm.MethodName) prog_4_method_2_code (4 : Nat) (Option.none : Option Jvm.ClassFile.FieldType)) ∈ tbG_ := tb_in (List.mem_append_right _ (List.mem_of_getElem? (i := 904) (rfl))) rfl
theorem tw_905 : (Jvm.Cond.methodLink "ColdFrameLaw" (85 : Nat) ({ cls := "ColdFrame", name := "orElse", desc := "()I" } : Jvm.MethodName)) ∈ tbG_ := tb_in (List.mem_append_right _ (List.mem_of_getElem? (i := 905) (by decide +kernel))) rfl
theorem tw_906 : (Jvm.Cond.instanceMethod ({ cls := "ColdFrame", name := "orElse", desc := "()I" } : Jvm.MethodName)) ∈ tbG_ := tb_in (List.mem_append_right _ (List.mem_of_getElem? (i := 906) (by decide +kernel))) rfl
theorem tw_907 : (Jvm.Cond.selects "ColdFrame" ({ cls := "ColdFrame", name := "orElse", desc := "()I" } : Jvm.MethodName) ({ cls := "ColdFrame", name := "orElse", desc := "()I" } : Jvm.MethodName)) ∈ tbG_ := tb_in (List.mem_append_right _ (List.mem_of_getElem? (i := 907) (by decide +kernel))) rfl
set_option maxRecDepth 20000 in
theorem tw_908 : (Jvm.Cond.code ({ cls := "ColdFrame", name := "orElse", desc := "()I" } : Jvm.MethodName) prog_1_method_33_code (1 : Nat) (Option.some Jvm.ClassFile.FieldType.int)) ∈ tbG_ := tb_in (List.mem_append_right _ (List.mem_of_getElem? (i := 908) (rfl))) rfl
theorem tw_911 : (Jvm.Cond.methodLink "ColdFrame" (234 : Nat) ({ cls := "ColdFrame$Query", name := "begin", desc := "()I" } : Jvm.MethodName)) ∈ tbG_ := tb_in (List.mem_append_right _ (List.mem_of_getElem? (i := 911) (by decide +kernel))) rfl
theorem tw_912 : (Jvm.Cond.instanceMethod ({ cls := "ColdFrame$Query", name := "begin", desc := "()I" } : Jvm.MethodName)) ∈ tbG_ := tb_in (List.mem_append_right _ (List.mem_of_getElem? (i := 912) (by decide +kernel))) rfl
theorem tw_913 : (Jvm.Cond.selects "ColdFrame$Query" ({ cls := "ColdFrame$Query", name := "begin", desc := "()I" } : Jvm.MethodName) ({ cls := "ColdFrame$Query", name := "begin", desc := "()I" } : Jvm.MethodName)) ∈ tbG_ := tb_in (List.mem_append_right _ (List.mem_of_getElem? (i := 913) (by decide +kernel))) rfl
set_option maxRecDepth 20000 in
theorem tw_914 : (Jvm.Cond.code ({ cls := "ColdFrame$Query", name := "begin", desc := "()I" } : Jvm.MethodName) prog_6_method_3_code (1 : Nat) (Option.some Jvm.ClassFile.FieldType.int)) ∈ tbG_ := tb_in (List.mem_append_right _ (List.mem_of_getElem? (i := 914) (rfl))) rfl
theorem tw_915 : (Jvm.Cond.methodLink "ColdFrame$Query" (22 : Nat) ({ cls := "ColdFrame$Query", name := "latest", desc := "()LColdFrame$Group;" } : Jvm.MethodName)) ∈ tbG_ := tb_in (List.mem_append_right _ (List.mem_of_getElem? (i := 915) (by decide +kernel))) rfl
theorem tw_916 : (Jvm.Cond.methodLink "ColdFrameLaw" (88 : Nat) ({ cls := "ColdFrame", name := "clear", desc := "()I" } : Jvm.MethodName)) ∈ tbG_ := tb_in (List.mem_append_right _ (List.mem_of_getElem? (i := 916) (by decide +kernel))) rfl
theorem tw_917 : (Jvm.Cond.instanceMethod ({ cls := "ColdFrame", name := "clear", desc := "()I" } : Jvm.MethodName)) ∈ tbG_ := tb_in (List.mem_append_right _ (List.mem_of_getElem? (i := 917) (by decide +kernel))) rfl
theorem tw_918 : (Jvm.Cond.selects "ColdFrame" ({ cls := "ColdFrame", name := "clear", desc := "()I" } : Jvm.MethodName) ({ cls := "ColdFrame", name := "clear", desc := "()I" } : Jvm.MethodName)) ∈ tbG_ := tb_in (List.mem_append_right _ (List.mem_of_getElem? (i := 918) (by decide +kernel))) rfl
set_option maxRecDepth 20000 in
theorem tw_919 : (Jvm.Cond.code ({ cls := "ColdFrame", name := "clear", desc := "()I" } : Jvm.MethodName) prog_1_method_34_code (2 : Nat) (Option.some Jvm.ClassFile.FieldType.int)) ∈ tbG_ := tb_in (List.mem_append_right _ (List.mem_of_getElem? (i := 919) (rfl))) rfl
theorem tw_920 : (Jvm.Cond.methodLink "ColdFrame" (237 : Nat) ({ cls := "ColdFrame$Query", name := "conditionCount", desc := "()I" } : Jvm.MethodName)) ∈ tbG_ := tb_in (List.mem_append_right _ (List.mem_of_getElem? (i := 920) (by decide +kernel))) rfl
theorem tw_921 : (Jvm.Cond.methodLink "ColdFrame" (240 : Nat) ({ cls := "ColdFrame$Query", name := "reset", desc := "()V" } : Jvm.MethodName)) ∈ tbG_ := tb_in (List.mem_append_right _ (List.mem_of_getElem? (i := 921) (by decide +kernel))) rfl
theorem tw_922 : (Jvm.Cond.instanceMethod ({ cls := "ColdFrame$Query", name := "reset", desc := "()V" } : Jvm.MethodName)) ∈ tbG_ := tb_in (List.mem_append_right _ (List.mem_of_getElem? (i := 922) (by decide +kernel))) rfl
theorem tw_923 : (Jvm.Cond.selects "ColdFrame$Query" ({ cls := "ColdFrame$Query", name := "reset", desc := "()V" } : Jvm.MethodName) ({ cls := "ColdFrame$Query", name := "reset", desc := "()V" } : Jvm.MethodName)) ∈ tbG_ := tb_in (List.mem_append_right _ (List.mem_of_getElem? (i := 923) (by decide +kernel))) rfl
set_option maxRecDepth 20000 in
theorem tw_924 : (Jvm.Cond.code ({ cls := "ColdFrame$Query", name := "reset", desc := "()V" } : Jvm.MethodName) prog_6_method_4_code (1 : Nat) (Option.none : Option Jvm.ClassFile.FieldType)) ∈ tbG_ := tb_in (List.mem_append_right _ (List.mem_of_getElem? (i := 924) (rfl))) rfl
theorem tw_925 : (Jvm.Cond.methodLink "ColdFrameLaw" (91 : Nat) ({ cls := "ColdFrame", name := "give", desc := "(II)I" } : Jvm.MethodName)) ∈ tbG_ := tb_in (List.mem_append_right _ (List.mem_of_getElem? (i := 925) (by decide +kernel))) rfl
theorem tw_926 : (Jvm.Cond.instanceMethod ({ cls := "ColdFrame", name := "give", desc := "(II)I" } : Jvm.MethodName)) ∈ tbG_ := tb_in (List.mem_append_right _ (List.mem_of_getElem? (i := 926) (by decide +kernel))) rfl
theorem tw_927 : (Jvm.Cond.selects "ColdFrame" ({ cls := "ColdFrame", name := "give", desc := "(II)I" } : Jvm.MethodName) ({ cls := "ColdFrame", name := "give", desc := "(II)I" } : Jvm.MethodName)) ∈ tbG_ := tb_in (List.mem_append_right _ (List.mem_of_getElem? (i := 927) (by decide +kernel))) rfl
set_option maxRecDepth 20000 in
theorem tw_928 : (Jvm.Cond.code ({ cls := "ColdFrame", name := "give", desc := "(II)I" } : Jvm.MethodName) prog_1_method_3_code (3 : Nat) (Option.some Jvm.ClassFile.FieldType.int)) ∈ tbG_ := tb_in (List.mem_append_right _ (List.mem_of_getElem? (i := 928) (rfl))) rfl
theorem tw_929 : (Jvm.Cond.methodLink "ColdFrame" (75 : Nat) ({ cls := "ColdFrame$Column", name := "giveNext", desc := "(I)V" } : Jvm.MethodName)) ∈ tbG_ := tb_in (List.mem_append_right _ (List.mem_of_getElem? (i := 929) (by decide +kernel))) rfl
theorem tw_930 : (Jvm.Cond.instanceMethod ({ cls := "ColdFrame$Column", name := "giveNext", desc := "(I)V" } : Jvm.MethodName)) ∈ tbG_ := tb_in (List.mem_append_right _ (List.mem_of_getElem? (i := 930) (by decide +kernel))) rfl
theorem tw_931 : (Jvm.Cond.selects "ColdFrame$Column" ({ cls := "ColdFrame$Column", name := "giveNext", desc := "(I)V" } : Jvm.MethodName) ({ cls := "ColdFrame$Column", name := "giveNext", desc := "(I)V" } : Jvm.MethodName)) ∈ tbG_ := tb_in (List.mem_append_right _ (List.mem_of_getElem? (i := 931) (by decide +kernel))) rfl
set_option maxRecDepth 20000 in
theorem tw_932 : (Jvm.Cond.code ({ cls := "ColdFrame$Column", name := "giveNext", desc := "(I)V" } : Jvm.MethodName) prog_3_method_2_code (2 : Nat) (Option.none : Option Jvm.ClassFile.FieldType)) ∈ tbG_ := tb_in (List.mem_append_right _ (List.mem_of_getElem? (i := 932) (rfl))) rfl
theorem tw_933 : (Jvm.Cond.methodLink "ColdFrame" (78 : Nat) ({ cls := "ColdFrame$Table", name := "givenColumns", desc := "()I" } : Jvm.MethodName)) ∈ tbG_ := tb_in (List.mem_append_right _ (List.mem_of_getElem? (i := 933) (by decide +kernel))) rfl
theorem tw_934 : (Jvm.Cond.instanceMethod ({ cls := "ColdFrame$Table", name := "givenColumns", desc := "()I" } : Jvm.MethodName)) ∈ tbG_ := tb_in (List.mem_append_right _ (List.mem_of_getElem? (i := 934) (by decide +kernel))) rfl
theorem tw_935 : (Jvm.Cond.selects "ColdFrame$Table" ({ cls := "ColdFrame$Table", name := "givenColumns", desc := "()I" } : Jvm.MethodName) ({ cls := "ColdFrame$Table", name := "givenColumns", desc := "()I" } : Jvm.MethodName)) ∈ tbG_ := tb_in (List.mem_append_right _ (List.mem_of_getElem? (i := 935) (by decide +kernel))) rfl
set_option maxRecDepth 20000 in
theorem tw_936 : (Jvm.Cond.code ({ cls := "ColdFrame$Table", name := "givenColumns", desc := "()I" } : Jvm.MethodName) prog_10_method_2_code (3 : Nat) (Option.some Jvm.ClassFile.FieldType.int)) ∈ tbG_ := tb_in (List.mem_append_right _ (List.mem_of_getElem? (i := 936) (rfl))) rfl
theorem tw_937 : (Jvm.Cond.methodLink "ColdFrameLaw" (94 : Nat) ({ cls := "ColdFrame", name := "add", desc := "()I" } : Jvm.MethodName)) ∈ tbG_ := tb_in (List.mem_append_right _ (List.mem_of_getElem? (i := 937) (by decide +kernel))) rfl
theorem tw_938 : (Jvm.Cond.instanceMethod ({ cls := "ColdFrame", name := "add", desc := "()I" } : Jvm.MethodName)) ∈ tbG_ := tb_in (List.mem_append_right _ (List.mem_of_getElem? (i := 938) (by decide +kernel))) rfl
theorem tw_939 : (Jvm.Cond.selects "ColdFrame" ({ cls := "ColdFrame", name := "add", desc := "()I" } : Jvm.MethodName) ({ cls := "ColdFrame", name := "add", desc := "()I" } : Jvm.MethodName)) ∈ tbG_ := tb_in (List.mem_append_right _ (List.mem_of_getElem? (i := 939) (by decide +kernel))) rfl
set_option maxRecDepth 20000 in
theorem tw_940 : (Jvm.Cond.code ({ cls := "ColdFrame", name := "add", desc := "()I" } : Jvm.MethodName) prog_1_method_4_code (2 : Nat) (Option.some Jvm.ClassFile.FieldType.int)) ∈ tbG_ := tb_in (List.mem_append_right _ (List.mem_of_getElem? (i := 940) (rfl))) rfl
theorem tw_941 : (Jvm.Cond.methodLink "ColdFrame" (81 : Nat) ({ cls := "java/util/ArrayList", name := "isEmpty", desc := "()Z" } : Jvm.MethodName)) ∈ tbG_ := tb_in (List.mem_append_right _ (List.mem_of_getElem? (i := 941) (by decide +kernel))) rfl
theorem tw_942 : (Jvm.Cond.instanceMethod ({ cls := "java/util/ArrayList", name := "isEmpty", desc := "()Z" } : Jvm.MethodName)) ∈ tbG_ := tb_in (List.mem_append_right _ (List.mem_of_getElem? (i := 942) (by decide +kernel))) rfl
theorem tw_943 : (Jvm.Cond.selects "java/util/ArrayList" ({ cls := "java/util/ArrayList", name := "isEmpty", desc := "()Z" } : Jvm.MethodName) ({ cls := "java/util/ArrayList", name := "isEmpty", desc := "()Z" } : Jvm.MethodName)) ∈ tbG_ := tb_in (List.mem_append_right _ (List.mem_of_getElem? (i := 943) (by decide +kernel))) rfl
set_option maxRecDepth 20000 in
theorem tw_944 : (Jvm.Cond.code ({ cls := "java/util/ArrayList", name := "isEmpty", desc := "()Z" } : Jvm.MethodName) prog_28_method_9_code (1 : Nat) (Option.some Jvm.ClassFile.FieldType.boolean)) ∈ tbG_ := tb_in (List.mem_append_right _ (List.mem_of_getElem? (i := 944) (rfl))) rfl
theorem tw_946 : (Jvm.Cond.methodLink "ColdFrame" (90 : Nat) ({ cls := "ColdFrame$Table", name := "appendGiven", desc := "()I" } : Jvm.MethodName)) ∈ tbG_ := tb_in (List.mem_append_right _ (List.mem_of_getElem? (i := 946) (by decide +kernel))) rfl
theorem tw_947 : (Jvm.Cond.instanceMethod ({ cls := "ColdFrame$Table", name := "appendGiven", desc := "()I" } : Jvm.MethodName)) ∈ tbG_ := tb_in (List.mem_append_right _ (List.mem_of_getElem? (i := 947) (by decide +kernel))) rfl
theorem tw_948 : (Jvm.Cond.selects "ColdFrame$Table" ({ cls := "ColdFrame$Table", name := "appendGiven", desc := "()I" } : Jvm.MethodName) ({ cls := "ColdFrame$Table", name := "appendGiven", desc := "()I" } : Jvm.MethodName)) ∈ tbG_ := tb_in (List.mem_append_right _ (List.mem_of_getElem? (i := 948) (by decide +kernel))) rfl
set_option maxRecDepth 20000 in
theorem tw_949 : (Jvm.Cond.code ({ cls := "ColdFrame$Table", name := "appendGiven", desc := "()I" } : Jvm.MethodName) prog_10_method_3_code (2 : Nat) (Option.some Jvm.ClassFile.FieldType.int)) ∈ tbG_ := tb_in (List.mem_append_right _ (List.mem_of_getElem? (i := 949) (rfl))) rfl
theorem tw_950 : (Jvm.Cond.methodLink "ColdFrame$Table" (69 : Nat) ({ cls := "ColdFrame$Column", name := "takeGiven", desc := "(I)V" } : Jvm.MethodName)) ∈ tbG_ := tb_in (List.mem_append_right _ (List.mem_of_getElem? (i := 950) (by decide +kernel))) rfl
theorem tw_951 : (Jvm.Cond.instanceMethod ({ cls := "ColdFrame$Column", name := "takeGiven", desc := "(I)V" } : Jvm.MethodName)) ∈ tbG_ := tb_in (List.mem_append_right _ (List.mem_of_getElem? (i := 951) (by decide +kernel))) rfl
theorem tw_952 : (Jvm.Cond.selects "ColdFrame$Column" ({ cls := "ColdFrame$Column", name := "takeGiven", desc := "(I)V" } : Jvm.MethodName) ({ cls := "ColdFrame$Column", name := "takeGiven", desc := "(I)V" } : Jvm.MethodName)) ∈ tbG_ := tb_in (List.mem_append_right _ (List.mem_of_getElem? (i := 952) (by decide +kernel))) rfl
set_option maxRecDepth 20000 in
theorem tw_953 : (Jvm.Cond.code ({ cls := "ColdFrame$Column", name := "takeGiven", desc := "(I)V" } : Jvm.MethodName) prog_3_method_3_code (2 : Nat) (Option.none : Option Jvm.ClassFile.FieldType)) ∈ tbG_ := tb_in (List.mem_append_right _ (List.mem_of_getElem? (i := 953) (rfl))) rfl
theorem tw_954 : (Jvm.Cond.methodLink "ColdFrameLaw" (34 : Nat) ({ cls := "ColdFrameLaw", name := "isTableSound", desc := "(LColdFrame;I)Z" } : Jvm.MethodName)) ∈ tbG_ := tb_in (List.mem_append_right _ (List.mem_of_getElem? (i := 954) (by decide +kernel))) rfl
theorem tw_955 : (Jvm.Cond.static ({ cls := "ColdFrameLaw", name := "isTableSound", desc := "(LColdFrame;I)Z" } : Jvm.MethodName)) ∈ tbG_ := tb_in (List.mem_append_right _ (List.mem_of_getElem? (i := 955) (by decide +kernel))) rfl
set_option maxRecDepth 20000 in
theorem tw_956 : (Jvm.Cond.code ({ cls := "ColdFrameLaw", name := "isTableSound", desc := "(LColdFrame;I)Z" } : Jvm.MethodName) method_6_code (10 : Nat) (Option.some Jvm.ClassFile.FieldType.boolean)) ∈ tbG_ := tb_in (List.mem_append_right _ (List.mem_of_getElem? (i := 956) (rfl))) rfl
theorem tw_957 : (Jvm.Cond.methodLink "ColdFrameLaw" (101 : Nat) ({ cls := "ColdFrame", name := "frameOf", desc := "(I)I" } : Jvm.MethodName)) ∈ tbG_ := tb_in (List.mem_append_right _ (List.mem_of_getElem? (i := 957) (by decide +kernel))) rfl
theorem tw_958 : (Jvm.Cond.instanceMethod ({ cls := "ColdFrame", name := "frameOf", desc := "(I)I" } : Jvm.MethodName)) ∈ tbG_ := tb_in (List.mem_append_right _ (List.mem_of_getElem? (i := 958) (by decide +kernel))) rfl
theorem tw_959 : (Jvm.Cond.selects "ColdFrame" ({ cls := "ColdFrame", name := "frameOf", desc := "(I)I" } : Jvm.MethodName) ({ cls := "ColdFrame", name := "frameOf", desc := "(I)I" } : Jvm.MethodName)) ∈ tbG_ := tb_in (List.mem_append_right _ (List.mem_of_getElem? (i := 959) (by decide +kernel))) rfl
set_option maxRecDepth 20000 in
theorem tw_960 : (Jvm.Cond.code ({ cls := "ColdFrame", name := "frameOf", desc := "(I)I" } : Jvm.MethodName) prog_1_method_20_code (2 : Nat) (Option.some Jvm.ClassFile.FieldType.int)) ∈ tbG_ := tb_in (List.mem_append_right _ (List.mem_of_getElem? (i := 960) (rfl))) rfl
theorem tw_961 : (Jvm.Cond.methodLink "ColdFrameLaw" (104 : Nat) ({ cls := "ColdFrame", name := "isAlive", desc := "(I)Z" } : Jvm.MethodName)) ∈ tbG_ := tb_in (List.mem_append_right _ (List.mem_of_getElem? (i := 961) (by decide +kernel))) rfl
theorem tw_962 : (Jvm.Cond.instanceMethod ({ cls := "ColdFrame", name := "isAlive", desc := "(I)Z" } : Jvm.MethodName)) ∈ tbG_ := tb_in (List.mem_append_right _ (List.mem_of_getElem? (i := 962) (by decide +kernel))) rfl
theorem tw_963 : (Jvm.Cond.selects "ColdFrame" ({ cls := "ColdFrame", name := "isAlive", desc := "(I)Z" } : Jvm.MethodName) ({ cls := "ColdFrame", name := "isAlive", desc := "(I)Z" } : Jvm.MethodName)) ∈ tbG_ := tb_in (List.mem_append_right _ (List.mem_of_getElem? (i := 963) (by decide +kernel))) rfl
set_option maxRecDepth 20000 in
theorem tw_964 : (Jvm.Cond.code ({ cls := "ColdFrame", name := "isAlive", desc := "(I)Z" } : Jvm.MethodName) prog_1_method_17_code (2 : Nat) (Option.some Jvm.ClassFile.FieldType.boolean)) ∈ tbG_ := tb_in (List.mem_append_right _ (List.mem_of_getElem? (i := 964) (rfl))) rfl
theorem tw_965 : (Jvm.Cond.methodLink "ColdFrameLaw" (107 : Nat) ({ cls := "ColdFrame", name := "isNull", desc := "(II)Z" } : Jvm.MethodName)) ∈ tbG_ := tb_in (List.mem_append_right _ (List.mem_of_getElem? (i := 965) (by decide +kernel))) rfl
theorem tw_966 : (Jvm.Cond.instanceMethod ({ cls := "ColdFrame", name := "isNull", desc := "(II)Z" } : Jvm.MethodName)) ∈ tbG_ := tb_in (List.mem_append_right _ (List.mem_of_getElem? (i := 966) (by decide +kernel))) rfl
theorem tw_967 : (Jvm.Cond.selects "ColdFrame" ({ cls := "ColdFrame", name := "isNull", desc := "(II)Z" } : Jvm.MethodName) ({ cls := "ColdFrame", name := "isNull", desc := "(II)Z" } : Jvm.MethodName)) ∈ tbG_ := tb_in (List.mem_append_right _ (List.mem_of_getElem? (i := 967) (by decide +kernel))) rfl
set_option maxRecDepth 20000 in
theorem tw_968 : (Jvm.Cond.code ({ cls := "ColdFrame", name := "isNull", desc := "(II)Z" } : Jvm.MethodName) prog_1_method_18_code (3 : Nat) (Option.some Jvm.ClassFile.FieldType.boolean)) ∈ tbG_ := tb_in (List.mem_append_right _ (List.mem_of_getElem? (i := 968) (rfl))) rfl
theorem tw_969 : (Jvm.Cond.methodLink "ColdFrameLaw" (111 : Nat) ({ cls := "ColdFrame", name := "valueOf", desc := "(II)I" } : Jvm.MethodName)) ∈ tbG_ := tb_in (List.mem_append_right _ (List.mem_of_getElem? (i := 969) (by decide +kernel))) rfl
theorem tw_970 : (Jvm.Cond.instanceMethod ({ cls := "ColdFrame", name := "valueOf", desc := "(II)I" } : Jvm.MethodName)) ∈ tbG_ := tb_in (List.mem_append_right _ (List.mem_of_getElem? (i := 970) (by decide +kernel))) rfl
theorem tw_971 : (Jvm.Cond.selects "ColdFrame" ({ cls := "ColdFrame", name := "valueOf", desc := "(II)I" } : Jvm.MethodName) ({ cls := "ColdFrame", name := "valueOf", desc := "(II)I" } : Jvm.MethodName)) ∈ tbG_ := tb_in (List.mem_append_right _ (List.mem_of_getElem? (i := 971) (by decide +kernel))) rfl
set_option maxRecDepth 20000 in
theorem tw_972 : (Jvm.Cond.code ({ cls := "ColdFrame", name := "valueOf", desc := "(II)I" } : Jvm.MethodName) prog_1_method_19_code (3 : Nat) (Option.some Jvm.ClassFile.FieldType.int)) ∈ tbG_ := tb_in (List.mem_append_right _ (List.mem_of_getElem? (i := 972) (rfl))) rfl
theorem tw_973 : (Jvm.Cond.methodLink "ColdFrameLaw" (114 : Nat) ({ cls := "ColdFrame", name := "least", desc := "(II)I" } : Jvm.MethodName)) ∈ tbG_ := tb_in (List.mem_append_right _ (List.mem_of_getElem? (i := 973) (by decide +kernel))) rfl
theorem tw_974 : (Jvm.Cond.instanceMethod ({ cls := "ColdFrame", name := "least", desc := "(II)I" } : Jvm.MethodName)) ∈ tbG_ := tb_in (List.mem_append_right _ (List.mem_of_getElem? (i := 974) (by decide +kernel))) rfl
theorem tw_975 : (Jvm.Cond.selects "ColdFrame" ({ cls := "ColdFrame", name := "least", desc := "(II)I" } : Jvm.MethodName) ({ cls := "ColdFrame", name := "least", desc := "(II)I" } : Jvm.MethodName)) ∈ tbG_ := tb_in (List.mem_append_right _ (List.mem_of_getElem? (i := 975) (by decide +kernel))) rfl
set_option maxRecDepth 20000 in
theorem tw_976 : (Jvm.Cond.code ({ cls := "ColdFrame", name := "least", desc := "(II)I" } : Jvm.MethodName) prog_1_method_30_code (3 : Nat) (Option.some Jvm.ClassFile.FieldType.int)) ∈ tbG_ := tb_in (List.mem_append_right _ (List.mem_of_getElem? (i := 976) (rfl))) rfl
theorem tw_977 : (Jvm.Cond.methodLink "ColdFrame" (180 : Nat) ({ cls := "ColdFrame", name := "zoneOf", desc := "(II)LColdFrame$Zone;" } : Jvm.MethodName)) ∈ tbG_ := tb_in (List.mem_append_right _ (List.mem_of_getElem? (i := 977) (by decide +kernel))) rfl
theorem tw_979 : (Jvm.Cond.instanceMethod ({ cls := "ColdFrame", name := "zoneOf", desc := "(II)LColdFrame$Zone;" } : Jvm.MethodName)) ∈ tbG_ := tb_in (List.mem_append_right _ (List.mem_of_getElem? (i := 979) (by decide +kernel))) rfl
set_option maxRecDepth 20000 in
theorem tw_980 : (Jvm.Cond.code ({ cls := "ColdFrame", name := "zoneOf", desc := "(II)LColdFrame$Zone;" } : Jvm.MethodName) prog_1_method_58_code (3 : Nat) (Option.some (Jvm.ClassFile.FieldType.object "ColdFrame$Zone"))) ∈ tbG_ := tb_in (List.mem_append_right _ (List.mem_of_getElem? (i := 980) (rfl))) rfl
theorem tw_981 : (Jvm.Cond.methodLink "ColdFrameLaw" (117 : Nat) ({ cls := "ColdFrame", name := "greatest", desc := "(II)I" } : Jvm.MethodName)) ∈ tbG_ := tb_in (List.mem_append_right _ (List.mem_of_getElem? (i := 981) (by decide +kernel))) rfl
theorem tw_982 : (Jvm.Cond.instanceMethod ({ cls := "ColdFrame", name := "greatest", desc := "(II)I" } : Jvm.MethodName)) ∈ tbG_ := tb_in (List.mem_append_right _ (List.mem_of_getElem? (i := 982) (by decide +kernel))) rfl
theorem tw_983 : (Jvm.Cond.selects "ColdFrame" ({ cls := "ColdFrame", name := "greatest", desc := "(II)I" } : Jvm.MethodName) ({ cls := "ColdFrame", name := "greatest", desc := "(II)I" } : Jvm.MethodName)) ∈ tbG_ := tb_in (List.mem_append_right _ (List.mem_of_getElem? (i := 983) (by decide +kernel))) rfl
set_option maxRecDepth 20000 in
theorem tw_984 : (Jvm.Cond.code ({ cls := "ColdFrame", name := "greatest", desc := "(II)I" } : Jvm.MethodName) prog_1_method_31_code (3 : Nat) (Option.some Jvm.ClassFile.FieldType.int)) ∈ tbG_ := tb_in (List.mem_append_right _ (List.mem_of_getElem? (i := 984) (rfl))) rfl
theorem tw_985 : (Jvm.Cond.methodLink "ColdFrameLaw" (120 : Nat) ({ cls := "ColdFrame", name := "rowsIn", desc := "(I)I" } : Jvm.MethodName)) ∈ tbG_ := tb_in (List.mem_append_right _ (List.mem_of_getElem? (i := 985) (by decide +kernel))) rfl
theorem tw_986 : (Jvm.Cond.instanceMethod ({ cls := "ColdFrame", name := "rowsIn", desc := "(I)I" } : Jvm.MethodName)) ∈ tbG_ := tb_in (List.mem_append_right _ (List.mem_of_getElem? (i := 986) (by decide +kernel))) rfl
theorem tw_987 : (Jvm.Cond.selects "ColdFrame" ({ cls := "ColdFrame", name := "rowsIn", desc := "(I)I" } : Jvm.MethodName) ({ cls := "ColdFrame", name := "rowsIn", desc := "(I)I" } : Jvm.MethodName)) ∈ tbG_ := tb_in (List.mem_append_right _ (List.mem_of_getElem? (i := 987) (by decide +kernel))) rfl
set_option maxRecDepth 20000 in
theorem tw_988 : (Jvm.Cond.code ({ cls := "ColdFrame", name := "rowsIn", desc := "(I)I" } : Jvm.MethodName) prog_1_method_21_code (2 : Nat) (Option.some Jvm.ClassFile.FieldType.int)) ∈ tbG_ := tb_in (List.mem_append_right _ (List.mem_of_getElem? (i := 988) (rfl))) rfl
theorem tw_989 : (Jvm.Cond.methodLink "ColdFrameLaw" (123 : Nat) ({ cls := "ColdFrame", name := "rowAt", desc := "(II)I" } : Jvm.MethodName)) ∈ tbG_ := tb_in (List.mem_append_right _ (List.mem_of_getElem? (i := 989) (by decide +kernel))) rfl
theorem tw_990 : (Jvm.Cond.instanceMethod ({ cls := "ColdFrame", name := "rowAt", desc := "(II)I" } : Jvm.MethodName)) ∈ tbG_ := tb_in (List.mem_append_right _ (List.mem_of_getElem? (i := 990) (by decide +kernel))) rfl
theorem tw_991 : (Jvm.Cond.selects "ColdFrame" ({ cls := "ColdFrame", name := "rowAt", desc := "(II)I" } : Jvm.MethodName) ({ cls := "ColdFrame", name := "rowAt", desc := "(II)I" } : Jvm.MethodName)) ∈ tbG_ := tb_in (List.mem_append_right _ (List.mem_of_getElem? (i := 991) (by decide +kernel))) rfl
set_option maxRecDepth 20000 in
theorem tw_992 : (Jvm.Cond.code ({ cls := "ColdFrame", name := "rowAt", desc := "(II)I" } : Jvm.MethodName) prog_1_method_22_code (4 : Nat) (Option.some Jvm.ClassFile.FieldType.int)) ∈ tbG_ := tb_in (List.mem_append_right _ (List.mem_of_getElem? (i := 992) (rfl))) rfl
theorem tw_994 : (Jvm.Cond.methodLink "ColdFrameLaw" (126 : Nat) ({ cls := "ColdFrame", name := "formOf", desc := "(II)I" } : Jvm.MethodName)) ∈ tbG_ := tb_in (List.mem_append_right _ (List.mem_of_getElem? (i := 994) (by decide +kernel))) rfl
theorem tw_995 : (Jvm.Cond.instanceMethod ({ cls := "ColdFrame", name := "formOf", desc := "(II)I" } : Jvm.MethodName)) ∈ tbG_ := tb_in (List.mem_append_right _ (List.mem_of_getElem? (i := 995) (by decide +kernel))) rfl
theorem tw_996 : (Jvm.Cond.selects "ColdFrame" ({ cls := "ColdFrame", name := "formOf", desc := "(II)I" } : Jvm.MethodName) ({ cls := "ColdFrame", name := "formOf", desc := "(II)I" } : Jvm.MethodName)) ∈ tbG_ := tb_in (List.mem_append_right _ (List.mem_of_getElem? (i := 996) (by decide +kernel))) rfl
set_option maxRecDepth 20000 in
theorem tw_997 : (Jvm.Cond.code ({ cls := "ColdFrame", name := "formOf", desc := "(II)I" } : Jvm.MethodName) prog_1_method_23_code (3 : Nat) (Option.some Jvm.ClassFile.FieldType.int)) ∈ tbG_ := tb_in (List.mem_append_right _ (List.mem_of_getElem? (i := 997) (rfl))) rfl
theorem tw_998 : (Jvm.Cond.methodLink "ColdFrameLaw" (129 : Nat) ({ cls := "ColdFrame", name := "bytesAs", desc := "(III)I" } : Jvm.MethodName)) ∈ tbG_ := tb_in (List.mem_append_right _ (List.mem_of_getElem? (i := 998) (by decide +kernel))) rfl
theorem tw_999 : (Jvm.Cond.instanceMethod ({ cls := "ColdFrame", name := "bytesAs", desc := "(III)I" } : Jvm.MethodName)) ∈ tbG_ := tb_in (List.mem_append_right _ (List.mem_of_getElem? (i := 999) (by decide +kernel))) rfl
theorem tw_1000 : (Jvm.Cond.selects "ColdFrame" ({ cls := "ColdFrame", name := "bytesAs", desc := "(III)I" } : Jvm.MethodName) ({ cls := "ColdFrame", name := "bytesAs", desc := "(III)I" } : Jvm.MethodName)) ∈ tbG_ := tb_in (List.mem_append_right _ (List.mem_of_getElem? (i := 1000) (by decide +kernel))) rfl
set_option maxRecDepth 20000 in
theorem tw_1001 : (Jvm.Cond.code ({ cls := "ColdFrame", name := "bytesAs", desc := "(III)I" } : Jvm.MethodName) prog_1_method_24_code (5 : Nat) (Option.some Jvm.ClassFile.FieldType.int)) ∈ tbG_ := tb_in (List.mem_append_right _ (List.mem_of_getElem? (i := 1001) (rfl))) rfl
theorem tw_1003 : (Jvm.Cond.methodLink "ColdFrame" (191 : Nat) ({ cls := "ColdFrame$Zone", name := "bytesIn", desc := "(I)I" } : Jvm.MethodName)) ∈ tbG_ := tb_in (List.mem_append_right _ (List.mem_of_getElem? (i := 1003) (by decide +kernel))) rfl
theorem tw_1004 : (Jvm.Cond.methodLink "ColdFrameLaw" (132 : Nat) ({ cls := "ColdFrame", name := "nulls", desc := "(II)I" } : Jvm.MethodName)) ∈ tbG_ := tb_in (List.mem_append_right _ (List.mem_of_getElem? (i := 1004) (by decide +kernel))) rfl
theorem tw_1005 : (Jvm.Cond.instanceMethod ({ cls := "ColdFrame", name := "nulls", desc := "(II)I" } : Jvm.MethodName)) ∈ tbG_ := tb_in (List.mem_append_right _ (List.mem_of_getElem? (i := 1005) (by decide +kernel))) rfl
theorem tw_1006 : (Jvm.Cond.selects "ColdFrame" ({ cls := "ColdFrame", name := "nulls", desc := "(II)I" } : Jvm.MethodName) ({ cls := "ColdFrame", name := "nulls", desc := "(II)I" } : Jvm.MethodName)) ∈ tbG_ := tb_in (List.mem_append_right _ (List.mem_of_getElem? (i := 1006) (by decide +kernel))) rfl
set_option maxRecDepth 20000 in
theorem tw_1007 : (Jvm.Cond.code ({ cls := "ColdFrame", name := "nulls", desc := "(II)I" } : Jvm.MethodName) prog_1_method_27_code (3 : Nat) (Option.some Jvm.ClassFile.FieldType.int)) ∈ tbG_ := tb_in (List.mem_append_right _ (List.mem_of_getElem? (i := 1007) (rfl))) rfl
theorem tw_1008 : (Jvm.Cond.methodLink "ColdFrameLaw" (135 : Nat) ({ cls := "ColdFrame", name := "distinct", desc := "(II)I" } : Jvm.MethodName)) ∈ tbG_ := tb_in (List.mem_append_right _ (List.mem_of_getElem? (i := 1008) (by decide +kernel))) rfl
theorem tw_1009 : (Jvm.Cond.instanceMethod ({ cls := "ColdFrame", name := "distinct", desc := "(II)I" } : Jvm.MethodName)) ∈ tbG_ := tb_in (List.mem_append_right _ (List.mem_of_getElem? (i := 1009) (by decide +kernel))) rfl
theorem tw_1010 : (Jvm.Cond.selects "ColdFrame" ({ cls := "ColdFrame", name := "distinct", desc := "(II)I" } : Jvm.MethodName) ({ cls := "ColdFrame", name := "distinct", desc := "(II)I" } : Jvm.MethodName)) ∈ tbG_ := tb_in (List.mem_append_right _ (List.mem_of_getElem? (i := 1010) (by decide +kernel))) rfl
set_option maxRecDepth 20000 in
theorem tw_1011 : (Jvm.Cond.code ({ cls := "ColdFrame", name := "distinct", desc := "(II)I" } : Jvm.MethodName) prog_1_method_28_code (3 : Nat) (Option.some Jvm.ClassFile.FieldType.int)) ∈ tbG_ := tb_in (List.mem_append_right _ (List.mem_of_getElem? (i := 1011) (rfl))) rfl
theorem tw_1012 : (Jvm.Cond.methodLink "ColdFrameLaw" (138 : Nat) ({ cls := "ColdFrame", name := "runs", desc := "(II)I" } : Jvm.MethodName)) ∈ tbG_ := tb_in (List.mem_append_right _ (List.mem_of_getElem? (i := 1012) (by decide +kernel))) rfl
theorem tw_1013 : (Jvm.Cond.instanceMethod ({ cls := "ColdFrame", name := "runs", desc := "(II)I" } : Jvm.MethodName)) ∈ tbG_ := tb_in (List.mem_append_right _ (List.mem_of_getElem? (i := 1013) (by decide +kernel))) rfl
theorem tw_1014 : (Jvm.Cond.selects "ColdFrame" ({ cls := "ColdFrame", name := "runs", desc := "(II)I" } : Jvm.MethodName) ({ cls := "ColdFrame", name := "runs", desc := "(II)I" } : Jvm.MethodName)) ∈ tbG_ := tb_in (List.mem_append_right _ (List.mem_of_getElem? (i := 1014) (by decide +kernel))) rfl
set_option maxRecDepth 20000 in
theorem tw_1015 : (Jvm.Cond.code ({ cls := "ColdFrame", name := "runs", desc := "(II)I" } : Jvm.MethodName) prog_1_method_29_code (3 : Nat) (Option.some Jvm.ClassFile.FieldType.int)) ∈ tbG_ := tb_in (List.mem_append_right _ (List.mem_of_getElem? (i := 1015) (rfl))) rfl
theorem tw_1016 : (Jvm.Cond.methodLink "ColdFrameLaw" (141 : Nat) ({ cls := "ColdFrame", name := "bytes", desc := "(I)I" } : Jvm.MethodName)) ∈ tbG_ := tb_in (List.mem_append_right _ (List.mem_of_getElem? (i := 1016) (by decide +kernel))) rfl
theorem tw_1017 : (Jvm.Cond.instanceMethod ({ cls := "ColdFrame", name := "bytes", desc := "(I)I" } : Jvm.MethodName)) ∈ tbG_ := tb_in (List.mem_append_right _ (List.mem_of_getElem? (i := 1017) (by decide +kernel))) rfl
theorem tw_1018 : (Jvm.Cond.selects "ColdFrame" ({ cls := "ColdFrame", name := "bytes", desc := "(I)I" } : Jvm.MethodName) ({ cls := "ColdFrame", name := "bytes", desc := "(I)I" } : Jvm.MethodName)) ∈ tbG_ := tb_in (List.mem_append_right _ (List.mem_of_getElem? (i := 1018) (by decide +kernel))) rfl
set_option maxRecDepth 20000 in
theorem tw_1019 : (Jvm.Cond.code ({ cls := "ColdFrame", name := "bytes", desc := "(I)I" } : Jvm.MethodName) prog_1_method_25_code (2 : Nat) (Option.some Jvm.ClassFile.FieldType.int)) ∈ tbG_ := tb_in (List.mem_append_right _ (List.mem_of_getElem? (i := 1019) (rfl))) rfl
theorem tw_1020 : (Jvm.Cond.methodLink "ColdFrameLaw" (144 : Nat) ({ cls := "ColdFrame", name := "alive", desc := "()I" } : Jvm.MethodName)) ∈ tbG_ := tb_in (List.mem_append_right _ (List.mem_of_getElem? (i := 1020) (by decide +kernel))) rfl
theorem tw_1021 : (Jvm.Cond.instanceMethod ({ cls := "ColdFrame", name := "alive", desc := "()I" } : Jvm.MethodName)) ∈ tbG_ := tb_in (List.mem_append_right _ (List.mem_of_getElem? (i := 1021) (by decide +kernel))) rfl
theorem tw_1022 : (Jvm.Cond.selects "ColdFrame" ({ cls := "ColdFrame", name := "alive", desc := "()I" } : Jvm.MethodName) ({ cls := "ColdFrame", name := "alive", desc := "()I" } : Jvm.MethodName)) ∈ tbG_ := tb_in (List.mem_append_right _ (List.mem_of_getElem? (i := 1022) (by decide +kernel))) rfl
set_option maxRecDepth 20000 in
theorem tw_1023 : (Jvm.Cond.code ({ cls := "ColdFrame", name := "alive", desc := "()I" } : Jvm.MethodName) prog_1_method_14_code (1 : Nat) (Option.some Jvm.ClassFile.FieldType.int)) ∈ tbG_ := tb_in (List.mem_append_right _ (List.mem_of_getElem? (i := 1023) (rfl))) rfl
theorem tw_1024 : (Jvm.Cond.methodLink "ColdFrameLaw" (147 : Nat) ({ cls := "ColdFrame", name := "bitmapBytes", desc := "()I" } : Jvm.MethodName)) ∈ tbG_ := tb_in (List.mem_append_right _ (List.mem_of_getElem? (i := 1024) (by decide +kernel))) rfl
theorem tw_1025 : (Jvm.Cond.instanceMethod ({ cls := "ColdFrame", name := "bitmapBytes", desc := "()I" } : Jvm.MethodName)) ∈ tbG_ := tb_in (List.mem_append_right _ (List.mem_of_getElem? (i := 1025) (by decide +kernel))) rfl
theorem tw_1026 : (Jvm.Cond.selects "ColdFrame" ({ cls := "ColdFrame", name := "bitmapBytes", desc := "()I" } : Jvm.MethodName) ({ cls := "ColdFrame", name := "bitmapBytes", desc := "()I" } : Jvm.MethodName)) ∈ tbG_ := tb_in (List.mem_append_right _ (List.mem_of_getElem? (i := 1026) (by decide +kernel))) rfl
set_option maxRecDepth 20000 in
theorem tw_1027 : (Jvm.Cond.code ({ cls := "ColdFrame", name := "bitmapBytes", desc := "()I" } : Jvm.MethodName) prog_1_method_26_code (1 : Nat) (Option.some Jvm.ClassFile.FieldType.int)) ∈ tbG_ := tb_in (List.mem_append_right _ (List.mem_of_getElem? (i := 1027) (rfl))) rfl
theorem tw_1028 : (Jvm.Cond.methodLink "ColdFrameLaw" (44 : Nat) ({ cls := "ColdFrameLaw", name := "isSearchSound", desc := "(LColdFrame;I)Z" } : Jvm.MethodName)) ∈ tbG_ := tb_in (List.mem_append_right _ (List.mem_of_getElem? (i := 1028) (by decide +kernel))) rfl
theorem tw_1029 : (Jvm.Cond.static ({ cls := "ColdFrameLaw", name := "isSearchSound", desc := "(LColdFrame;I)Z" } : Jvm.MethodName)) ∈ tbG_ := tb_in (List.mem_append_right _ (List.mem_of_getElem? (i := 1029) (by decide +kernel))) rfl
set_option maxRecDepth 20000 in
theorem tw_1030 : (Jvm.Cond.code ({ cls := "ColdFrameLaw", name := "isSearchSound", desc := "(LColdFrame;I)Z" } : Jvm.MethodName) method_7_code (12 : Nat) (Option.some Jvm.ClassFile.FieldType.boolean)) ∈ tbG_ := tb_in (List.mem_append_right _ (List.mem_of_getElem? (i := 1030) (rfl))) rfl
theorem tw_1031 : (Jvm.Cond.methodLink "ColdFrameLaw" (150 : Nat) ({ cls := "ColdFrame", name := "find", desc := "()I" } : Jvm.MethodName)) ∈ tbG_ := tb_in (List.mem_append_right _ (List.mem_of_getElem? (i := 1031) (by decide +kernel))) rfl
theorem tw_1032 : (Jvm.Cond.instanceMethod ({ cls := "ColdFrame", name := "find", desc := "()I" } : Jvm.MethodName)) ∈ tbG_ := tb_in (List.mem_append_right _ (List.mem_of_getElem? (i := 1032) (by decide +kernel))) rfl
theorem tw_1033 : (Jvm.Cond.selects "ColdFrame" ({ cls := "ColdFrame", name := "find", desc := "()I" } : Jvm.MethodName) ({ cls := "ColdFrame", name := "find", desc := "()I" } : Jvm.MethodName)) ∈ tbG_ := tb_in (List.mem_append_right _ (List.mem_of_getElem? (i := 1033) (by decide +kernel))) rfl
set_option maxRecDepth 20000 in
theorem tw_1034 : (Jvm.Cond.code ({ cls := "ColdFrame", name := "find", desc := "()I" } : Jvm.MethodName) prog_1_method_35_code (1 : Nat) (Option.some Jvm.ClassFile.FieldType.int)) ∈ tbG_ := tb_in (List.mem_append_right _ (List.mem_of_getElem? (i := 1034) (rfl))) rfl
theorem tw_1035 : (Jvm.Cond.methodLink "ColdFrame" (261 : Nat) ({ cls := "ColdFrame$Result", name := "take", desc := "([II)V" } : Jvm.MethodName)) ∈ tbG_ := tb_in (List.mem_append_right _ (List.mem_of_getElem? (i := 1035) (by decide +kernel))) rfl
theorem tw_1036 : (Jvm.Cond.instanceMethod ({ cls := "ColdFrame$Result", name := "take", desc := "([II)V" } : Jvm.MethodName)) ∈ tbG_ := tb_in (List.mem_append_right _ (List.mem_of_getElem? (i := 1036) (by decide +kernel))) rfl
theorem tw_1037 : (Jvm.Cond.selects "ColdFrame$Result" ({ cls := "ColdFrame$Result", name := "take", desc := "([II)V" } : Jvm.MethodName) ({ cls := "ColdFrame$Result", name := "take", desc := "([II)V" } : Jvm.MethodName)) ∈ tbG_ := tb_in (List.mem_append_right _ (List.mem_of_getElem? (i := 1037) (by decide +kernel))) rfl
set_option maxRecDepth 20000 in
theorem tw_1038 : (Jvm.Cond.code ({ cls := "ColdFrame$Result", name := "take", desc := "([II)V" } : Jvm.MethodName) prog_7_method_2_code (3 : Nat) (Option.none : Option Jvm.ClassFile.FieldType)) ∈ tbG_ := tb_in (List.mem_append_right _ (List.mem_of_getElem? (i := 1038) (rfl))) rfl
theorem tw_1039 : (Jvm.Cond.methodLink "ColdFrame$Result" (24 : Nat) ({ cls := "java/lang/System", name := "arraycopy", desc := "(Ljava/lang/Object;ILjava/lang/Object;II)V" } : Jvm.MethodName)) ∈ tbG_ := tb_in (List.mem_append_right _ (List.mem_of_getElem? (i := 1039) (by decide +kernel))) rfl
theorem tw_1040 : (Jvm.Cond.methodLink "ColdFrameLaw" (153 : Nat) ({ cls := "ColdFrame", name := "passed", desc := "()I" } : Jvm.MethodName)) ∈ tbG_ := tb_in (List.mem_append_right _ (List.mem_of_getElem? (i := 1040) (by decide +kernel))) rfl
theorem tw_1041 : (Jvm.Cond.instanceMethod ({ cls := "ColdFrame", name := "passed", desc := "()I" } : Jvm.MethodName)) ∈ tbG_ := tb_in (List.mem_append_right _ (List.mem_of_getElem? (i := 1041) (by decide +kernel))) rfl
theorem tw_1042 : (Jvm.Cond.selects "ColdFrame" ({ cls := "ColdFrame", name := "passed", desc := "()I" } : Jvm.MethodName) ({ cls := "ColdFrame", name := "passed", desc := "()I" } : Jvm.MethodName)) ∈ tbG_ := tb_in (List.mem_append_right _ (List.mem_of_getElem? (i := 1042) (by decide +kernel))) rfl
set_option maxRecDepth 20000 in
theorem tw_1043 : (Jvm.Cond.code ({ cls := "ColdFrame", name := "passed", desc := "()I" } : Jvm.MethodName) prog_1_method_37_code (1 : Nat) (Option.some Jvm.ClassFile.FieldType.int)) ∈ tbG_ := tb_in (List.mem_append_right _ (List.mem_of_getElem? (i := 1043) (rfl))) rfl
theorem tw_1044 : (Jvm.Cond.methodLink "ColdFrameLaw" (156 : Nat) ({ cls := "ColdFrame", name := "foundAt", desc := "(I)I" } : Jvm.MethodName)) ∈ tbG_ := tb_in (List.mem_append_right _ (List.mem_of_getElem? (i := 1044) (by decide +kernel))) rfl
theorem tw_1045 : (Jvm.Cond.instanceMethod ({ cls := "ColdFrame", name := "foundAt", desc := "(I)I" } : Jvm.MethodName)) ∈ tbG_ := tb_in (List.mem_append_right _ (List.mem_of_getElem? (i := 1045) (by decide +kernel))) rfl
theorem tw_1046 : (Jvm.Cond.selects "ColdFrame" ({ cls := "ColdFrame", name := "foundAt", desc := "(I)I" } : Jvm.MethodName) ({ cls := "ColdFrame", name := "foundAt", desc := "(I)I" } : Jvm.MethodName)) ∈ tbG_ := tb_in (List.mem_append_right _ (List.mem_of_getElem? (i := 1046) (by decide +kernel))) rfl
set_option maxRecDepth 20000 in
theorem tw_1047 : (Jvm.Cond.code ({ cls := "ColdFrame", name := "foundAt", desc := "(I)I" } : Jvm.MethodName) prog_1_method_41_code (2 : Nat) (Option.some Jvm.ClassFile.FieldType.int)) ∈ tbG_ := tb_in (List.mem_append_right _ (List.mem_of_getElem? (i := 1047) (rfl))) rfl
theorem tw_1049 : (Jvm.Cond.methodLink "ColdFrameLaw" (159 : Nat) ({ cls := "ColdFrame", name := "groups", desc := "(I)I" } : Jvm.MethodName)) ∈ tbG_ := tb_in (List.mem_append_right _ (List.mem_of_getElem? (i := 1049) (by decide +kernel))) rfl
theorem tw_1050 : (Jvm.Cond.instanceMethod ({ cls := "ColdFrame", name := "groups", desc := "(I)I" } : Jvm.MethodName)) ∈ tbG_ := tb_in (List.mem_append_right _ (List.mem_of_getElem? (i := 1050) (by decide +kernel))) rfl
theorem tw_1051 : (Jvm.Cond.selects "ColdFrame" ({ cls := "ColdFrame", name := "groups", desc := "(I)I" } : Jvm.MethodName) ({ cls := "ColdFrame", name := "groups", desc := "(I)I" } : Jvm.MethodName)) ∈ tbG_ := tb_in (List.mem_append_right _ (List.mem_of_getElem? (i := 1051) (by decide +kernel))) rfl
set_option maxRecDepth 20000 in
theorem tw_1052 : (Jvm.Cond.code ({ cls := "ColdFrame", name := "groups", desc := "(I)I" } : Jvm.MethodName) prog_1_method_46_code (2 : Nat) (Option.some Jvm.ClassFile.FieldType.int)) ∈ tbG_ := tb_in (List.mem_append_right _ (List.mem_of_getElem? (i := 1052) (rfl))) rfl
theorem tw_1053 : (Jvm.Cond.methodLink "ColdFrame" (311 : Nat) ({ cls := "ColdFrame$Result", name := "arrangeGroups", desc := "(LColdFrame$Column;LColdFrame$Sorter;)V" } : Jvm.MethodName)) ∈ tbG_ := tb_in (List.mem_append_right _ (List.mem_of_getElem? (i := 1053) (by decide +kernel))) rfl
theorem tw_1054 : (Jvm.Cond.instanceMethod ({ cls := "ColdFrame$Result", name := "arrangeGroups", desc := "(LColdFrame$Column;LColdFrame$Sorter;)V" } : Jvm.MethodName)) ∈ tbG_ := tb_in (List.mem_append_right _ (List.mem_of_getElem? (i := 1054) (by decide +kernel))) rfl
theorem tw_1055 : (Jvm.Cond.selects "ColdFrame$Result" ({ cls := "ColdFrame$Result", name := "arrangeGroups", desc := "(LColdFrame$Column;LColdFrame$Sorter;)V" } : Jvm.MethodName) ({ cls := "ColdFrame$Result", name := "arrangeGroups", desc := "(LColdFrame$Column;LColdFrame$Sorter;)V" } : Jvm.MethodName)) ∈ tbG_ := tb_in (List.mem_append_right _ (List.mem_of_getElem? (i := 1055) (by decide +kernel))) rfl
set_option maxRecDepth 20000 in
theorem tw_1056 : (Jvm.Cond.code ({ cls := "ColdFrame$Result", name := "arrangeGroups", desc := "(LColdFrame$Column;LColdFrame$Sorter;)V" } : Jvm.MethodName) prog_7_method_6_code (4 : Nat) (Option.none : Option Jvm.ClassFile.FieldType)) ∈ tbG_ := tb_in (List.mem_append_right _ (List.mem_of_getElem? (i := 1056) (rfl))) rfl
theorem tw_1057 : (Jvm.Cond.methodLink "ColdFrame$Result" (50 : Nat) ({ cls := "ColdFrame$Sorter", name := "arrange", desc := "([IILColdFrame$Column;ZZ)V" } : Jvm.MethodName)) ∈ tbG_ := tb_in (List.mem_append_right _ (List.mem_of_getElem? (i := 1057) (by decide +kernel))) rfl
theorem tw_1058 : (Jvm.Cond.methodLink "ColdFrame$Result" (59 : Nat) ({ cls := "ColdFrame$Column", name := "isSame", desc := "(II)Z" } : Jvm.MethodName)) ∈ tbG_ := tb_in (List.mem_append_right _ (List.mem_of_getElem? (i := 1058) (by decide +kernel))) rfl
theorem tw_1059 : (Jvm.Cond.methodLink "ColdFrameLaw" (162 : Nat) ({ cls := "ColdFrame", name := "ofGroup", desc := "(IIII)I" } : Jvm.MethodName)) ∈ tbG_ := tb_in (List.mem_append_right _ (List.mem_of_getElem? (i := 1059) (by decide +kernel))) rfl
theorem tw_1060 : (Jvm.Cond.instanceMethod ({ cls := "ColdFrame", name := "ofGroup", desc := "(IIII)I" } : Jvm.MethodName)) ∈ tbG_ := tb_in (List.mem_append_right _ (List.mem_of_getElem? (i := 1060) (by decide +kernel))) rfl
theorem tw_1061 : (Jvm.Cond.selects "ColdFrame" ({ cls := "ColdFrame", name := "ofGroup", desc := "(IIII)I" } : Jvm.MethodName) ({ cls := "ColdFrame", name := "ofGroup", desc := "(IIII)I" } : Jvm.MethodName)) ∈ tbG_ := tb_in (List.mem_append_right _ (List.mem_of_getElem? (i := 1061) (by decide +kernel))) rfl
set_option maxRecDepth 20000 in
theorem tw_1062 : (Jvm.Cond.code ({ cls := "ColdFrame", name := "ofGroup", desc := "(IIII)I" } : Jvm.MethodName) prog_1_method_47_code (6 : Nat) (Option.some Jvm.ClassFile.FieldType.int)) ∈ tbG_ := tb_in (List.mem_append_right _ (List.mem_of_getElem? (i := 1062) (rfl))) rfl
theorem tw_1065 : (Jvm.Cond.methodLink "ColdFrame" (322 : Nat) ({ cls := "ColdFrame$Result", name := "accountOf", desc := "(ILColdFrame$Column;LColdFrame$Column;I)I" } : Jvm.MethodName)) ∈ tbG_ := tb_in (List.mem_append_right _ (List.mem_of_getElem? (i := 1065) (by decide +kernel))) rfl
theorem tw_1066 : (Jvm.Cond.instanceMethod ({ cls := "ColdFrame$Result", name := "accountOf", desc := "(ILColdFrame$Column;LColdFrame$Column;I)I" } : Jvm.MethodName)) ∈ tbG_ := tb_in (List.mem_append_right _ (List.mem_of_getElem? (i := 1066) (by decide +kernel))) rfl
theorem tw_1067 : (Jvm.Cond.selects "ColdFrame$Result" ({ cls := "ColdFrame$Result", name := "accountOf", desc := "(ILColdFrame$Column;LColdFrame$Column;I)I" } : Jvm.MethodName) ({ cls := "ColdFrame$Result", name := "accountOf", desc := "(ILColdFrame$Column;LColdFrame$Column;I)I" } : Jvm.MethodName)) ∈ tbG_ := tb_in (List.mem_append_right _ (List.mem_of_getElem? (i := 1067) (by decide +kernel))) rfl
set_option maxRecDepth 20000 in
theorem tw_1068 : (Jvm.Cond.code ({ cls := "ColdFrame$Result", name := "accountOf", desc := "(ILColdFrame$Column;LColdFrame$Column;I)I" } : Jvm.MethodName) prog_7_method_7_code (7 : Nat) (Option.some Jvm.ClassFile.FieldType.int)) ∈ tbG_ := tb_in (List.mem_append_right _ (List.mem_of_getElem? (i := 1068) (rfl))) rfl
theorem tw_1069 : (Jvm.Cond.methodLink "ColdFrame$Result" (63 : Nat) ({ cls := "ColdFrame$Result", name := "sumOf", desc := "(LColdFrame$Column;II)I" } : Jvm.MethodName)) ∈ tbG_ := tb_in (List.mem_append_right _ (List.mem_of_getElem? (i := 1069) (by decide +kernel))) rfl
theorem tw_1071 : (Jvm.Cond.instanceMethod ({ cls := "ColdFrame$Result", name := "sumOf", desc := "(LColdFrame$Column;II)I" } : Jvm.MethodName)) ∈ tbG_ := tb_in (List.mem_append_right _ (List.mem_of_getElem? (i := 1071) (by decide +kernel))) rfl
set_option maxRecDepth 20000 in
theorem tw_1072 : (Jvm.Cond.code ({ cls := "ColdFrame$Result", name := "sumOf", desc := "(LColdFrame$Column;II)I" } : Jvm.MethodName) prog_7_method_8_code (6 : Nat) (Option.some Jvm.ClassFile.FieldType.int)) ∈ tbG_ := tb_in (List.mem_append_right _ (List.mem_of_getElem? (i := 1072) (rfl))) rfl
theorem tw_1073 : (Jvm.Cond.methodLink "ColdFrame$Result" (67 : Nat) ({ cls := "ColdFrame$Result", name := "endOf", desc := "(LColdFrame$Column;IIZ)I" } : Jvm.MethodName)) ∈ tbG_ := tb_in (List.mem_append_right _ (List.mem_of_getElem? (i := 1073) (by decide +kernel))) rfl
theorem tw_1075 : (Jvm.Cond.instanceMethod ({ cls := "ColdFrame$Result", name := "endOf", desc := "(LColdFrame$Column;IIZ)I" } : Jvm.MethodName)) ∈ tbG_ := tb_in (List.mem_append_right _ (List.mem_of_getElem? (i := 1075) (by decide +kernel))) rfl
set_option maxRecDepth 20000 in
theorem tw_1076 : (Jvm.Cond.code ({ cls := "ColdFrame$Result", name := "endOf", desc := "(LColdFrame$Column;IIZ)I" } : Jvm.MethodName) prog_7_method_9_code (11 : Nat) (Option.some Jvm.ClassFile.FieldType.int)) ∈ tbG_ := tb_in (List.mem_append_right _ (List.mem_of_getElem? (i := 1076) (rfl))) rfl
theorem tw_1077 : (Jvm.Cond.methodLink "ColdFrameLaw" (166 : Nat) ({ cls := "ColdFrame", name := "sum", desc := "(I)I" } : Jvm.MethodName)) ∈ tbG_ := tb_in (List.mem_append_right _ (List.mem_of_getElem? (i := 1077) (by decide +kernel))) rfl
theorem tw_1078 : (Jvm.Cond.instanceMethod ({ cls := "ColdFrame", name := "sum", desc := "(I)I" } : Jvm.MethodName)) ∈ tbG_ := tb_in (List.mem_append_right _ (List.mem_of_getElem? (i := 1078) (by decide +kernel))) rfl
theorem tw_1079 : (Jvm.Cond.selects "ColdFrame" ({ cls := "ColdFrame", name := "sum", desc := "(I)I" } : Jvm.MethodName) ({ cls := "ColdFrame", name := "sum", desc := "(I)I" } : Jvm.MethodName)) ∈ tbG_ := tb_in (List.mem_append_right _ (List.mem_of_getElem? (i := 1079) (by decide +kernel))) rfl
set_option maxRecDepth 20000 in
theorem tw_1080 : (Jvm.Cond.code ({ cls := "ColdFrame", name := "sum", desc := "(I)I" } : Jvm.MethodName) prog_1_method_44_code (2 : Nat) (Option.some Jvm.ClassFile.FieldType.int)) ∈ tbG_ := tb_in (List.mem_append_right _ (List.mem_of_getElem? (i := 1080) (rfl))) rfl
theorem tw_1081 : (Jvm.Cond.methodLink "ColdFrame" (303 : Nat) ({ cls := "ColdFrame$Result", name := "total", desc := "(LColdFrame$Column;)J" } : Jvm.MethodName)) ∈ tbG_ := tb_in (List.mem_append_right _ (List.mem_of_getElem? (i := 1081) (by decide +kernel))) rfl
theorem tw_1082 : (Jvm.Cond.instanceMethod ({ cls := "ColdFrame$Result", name := "total", desc := "(LColdFrame$Column;)J" } : Jvm.MethodName)) ∈ tbG_ := tb_in (List.mem_append_right _ (List.mem_of_getElem? (i := 1082) (by decide +kernel))) rfl
theorem tw_1083 : (Jvm.Cond.selects "ColdFrame$Result" ({ cls := "ColdFrame$Result", name := "total", desc := "(LColdFrame$Column;)J" } : Jvm.MethodName) ({ cls := "ColdFrame$Result", name := "total", desc := "(LColdFrame$Column;)J" } : Jvm.MethodName)) ∈ tbG_ := tb_in (List.mem_append_right _ (List.mem_of_getElem? (i := 1083) (by decide +kernel))) rfl
set_option maxRecDepth 20000 in
theorem tw_1084 : (Jvm.Cond.code ({ cls := "ColdFrame$Result", name := "total", desc := "(LColdFrame$Column;)J" } : Jvm.MethodName) prog_7_method_4_code (5 : Nat) (Option.some Jvm.ClassFile.FieldType.long)) ∈ tbG_ := tb_in (List.mem_append_right _ (List.mem_of_getElem? (i := 1084) (rfl))) rfl
theorem tw_1085 : (Jvm.Cond.methodLink "ColdFrameLaw" (169 : Nat) ({ cls := "ColdFrame", name := "sort", desc := "(IZ)I" } : Jvm.MethodName)) ∈ tbG_ := tb_in (List.mem_append_right _ (List.mem_of_getElem? (i := 1085) (by decide +kernel))) rfl
theorem tw_1086 : (Jvm.Cond.instanceMethod ({ cls := "ColdFrame", name := "sort", desc := "(IZ)I" } : Jvm.MethodName)) ∈ tbG_ := tb_in (List.mem_append_right _ (List.mem_of_getElem? (i := 1086) (by decide +kernel))) rfl
theorem tw_1087 : (Jvm.Cond.selects "ColdFrame" ({ cls := "ColdFrame", name := "sort", desc := "(IZ)I" } : Jvm.MethodName) ({ cls := "ColdFrame", name := "sort", desc := "(IZ)I" } : Jvm.MethodName)) ∈ tbG_ := tb_in (List.mem_append_right _ (List.mem_of_getElem? (i := 1087) (by decide +kernel))) rfl
set_option maxRecDepth 20000 in
theorem tw_1088 : (Jvm.Cond.code ({ cls := "ColdFrame", name := "sort", desc := "(IZ)I" } : Jvm.MethodName) prog_1_method_42_code (3 : Nat) (Option.some Jvm.ClassFile.FieldType.int)) ∈ tbG_ := tb_in (List.mem_append_right _ (List.mem_of_getElem? (i := 1088) (rfl))) rfl
theorem tw_1089 : (Jvm.Cond.methodLink "ColdFrame" (290 : Nat) ({ cls := "ColdFrame$Sorter", name := "arrange", desc := "([IILColdFrame$Column;ZZ)V" } : Jvm.MethodName)) ∈ tbG_ := tb_in (List.mem_append_right _ (List.mem_of_getElem? (i := 1089) (by decide +kernel))) rfl
theorem tw_1090 : (Jvm.Cond.methodLink "ColdFrameLaw" (173 : Nat) ({ cls := "ColdFrame", name := "keep", desc := "()I" } : Jvm.MethodName)) ∈ tbG_ := tb_in (List.mem_append_right _ (List.mem_of_getElem? (i := 1090) (by decide +kernel))) rfl
theorem tw_1091 : (Jvm.Cond.instanceMethod ({ cls := "ColdFrame", name := "keep", desc := "()I" } : Jvm.MethodName)) ∈ tbG_ := tb_in (List.mem_append_right _ (List.mem_of_getElem? (i := 1091) (by decide +kernel))) rfl
theorem tw_1092 : (Jvm.Cond.selects "ColdFrame" ({ cls := "ColdFrame", name := "keep", desc := "()I" } : Jvm.MethodName) ({ cls := "ColdFrame", name := "keep", desc := "()I" } : Jvm.MethodName)) ∈ tbG_ := tb_in (List.mem_append_right _ (List.mem_of_getElem? (i := 1092) (by decide +kernel))) rfl
set_option maxRecDepth 20000 in
theorem tw_1093 : (Jvm.Cond.code ({ cls := "ColdFrame", name := "keep", desc := "()I" } : Jvm.MethodName) prog_1_method_48_code (1 : Nat) (Option.some Jvm.ClassFile.FieldType.int)) ∈ tbG_ := tb_in (List.mem_append_right _ (List.mem_of_getElem? (i := 1093) (rfl))) rfl
theorem tw_1094 : (Jvm.Cond.methodLink "ColdFrame" (326 : Nat) ({ cls := "ColdFrame$Result", name := "keepRows", desc := "()I" } : Jvm.MethodName)) ∈ tbG_ := tb_in (List.mem_append_right _ (List.mem_of_getElem? (i := 1094) (by decide +kernel))) rfl
theorem tw_1095 : (Jvm.Cond.instanceMethod ({ cls := "ColdFrame$Result", name := "keepRows", desc := "()I" } : Jvm.MethodName)) ∈ tbG_ := tb_in (List.mem_append_right _ (List.mem_of_getElem? (i := 1095) (by decide +kernel))) rfl
theorem tw_1096 : (Jvm.Cond.selects "ColdFrame$Result" ({ cls := "ColdFrame$Result", name := "keepRows", desc := "()I" } : Jvm.MethodName) ({ cls := "ColdFrame$Result", name := "keepRows", desc := "()I" } : Jvm.MethodName)) ∈ tbG_ := tb_in (List.mem_append_right _ (List.mem_of_getElem? (i := 1096) (by decide +kernel))) rfl
set_option maxRecDepth 20000 in
theorem tw_1097 : (Jvm.Cond.code ({ cls := "ColdFrame$Result", name := "keepRows", desc := "()I" } : Jvm.MethodName) prog_7_method_3_code (1 : Nat) (Option.some Jvm.ClassFile.FieldType.int)) ∈ tbG_ := tb_in (List.mem_append_right _ (List.mem_of_getElem? (i := 1097) (rfl))) rfl
theorem tw_1098 : (Jvm.Cond.methodLink "ColdFrameLaw" (176 : Nat) ({ cls := "ColdFrame", name := "pairs", desc := "(II)I" } : Jvm.MethodName)) ∈ tbG_ := tb_in (List.mem_append_right _ (List.mem_of_getElem? (i := 1098) (by decide +kernel))) rfl
theorem tw_1099 : (Jvm.Cond.instanceMethod ({ cls := "ColdFrame", name := "pairs", desc := "(II)I" } : Jvm.MethodName)) ∈ tbG_ := tb_in (List.mem_append_right _ (List.mem_of_getElem? (i := 1099) (by decide +kernel))) rfl
theorem tw_1100 : (Jvm.Cond.selects "ColdFrame" ({ cls := "ColdFrame", name := "pairs", desc := "(II)I" } : Jvm.MethodName) ({ cls := "ColdFrame", name := "pairs", desc := "(II)I" } : Jvm.MethodName)) ∈ tbG_ := tb_in (List.mem_append_right _ (List.mem_of_getElem? (i := 1100) (by decide +kernel))) rfl
set_option maxRecDepth 20000 in
theorem tw_1101 : (Jvm.Cond.code ({ cls := "ColdFrame", name := "pairs", desc := "(II)I" } : Jvm.MethodName) prog_1_method_49_code (3 : Nat) (Option.some Jvm.ClassFile.FieldType.int)) ∈ tbG_ := tb_in (List.mem_append_right _ (List.mem_of_getElem? (i := 1101) (rfl))) rfl
theorem tw_1102 : (Jvm.Cond.methodLink "ColdFrame" (329 : Nat) ({ cls := "ColdFrame$Result", name := "pairCount", desc := "(LColdFrame$Column;LColdFrame$Column;)I" } : Jvm.MethodName)) ∈ tbG_ := tb_in (List.mem_append_right _ (List.mem_of_getElem? (i := 1102) (by decide +kernel))) rfl
theorem tw_1103 : (Jvm.Cond.instanceMethod ({ cls := "ColdFrame$Result", name := "pairCount", desc := "(LColdFrame$Column;LColdFrame$Column;)I" } : Jvm.MethodName)) ∈ tbG_ := tb_in (List.mem_append_right _ (List.mem_of_getElem? (i := 1103) (by decide +kernel))) rfl
theorem tw_1104 : (Jvm.Cond.selects "ColdFrame$Result" ({ cls := "ColdFrame$Result", name := "pairCount", desc := "(LColdFrame$Column;LColdFrame$Column;)I" } : Jvm.MethodName) ({ cls := "ColdFrame$Result", name := "pairCount", desc := "(LColdFrame$Column;LColdFrame$Column;)I" } : Jvm.MethodName)) ∈ tbG_ := tb_in (List.mem_append_right _ (List.mem_of_getElem? (i := 1104) (by decide +kernel))) rfl
set_option maxRecDepth 20000 in
theorem tw_1105 : (Jvm.Cond.code ({ cls := "ColdFrame$Result", name := "pairCount", desc := "(LColdFrame$Column;LColdFrame$Column;)I" } : Jvm.MethodName) prog_7_method_10_code (8 : Nat) (Option.some Jvm.ClassFile.FieldType.int)) ∈ tbG_ := tb_in (List.mem_append_right _ (List.mem_of_getElem? (i := 1105) (rfl))) rfl
theorem tw_1106 : (Jvm.Cond.methodLink "ColdFrameLaw" (179 : Nat) ({ cls := "ColdFrame", name := "limit", desc := "(I)I" } : Jvm.MethodName)) ∈ tbG_ := tb_in (List.mem_append_right _ (List.mem_of_getElem? (i := 1106) (by decide +kernel))) rfl
theorem tw_1107 : (Jvm.Cond.instanceMethod ({ cls := "ColdFrame", name := "limit", desc := "(I)I" } : Jvm.MethodName)) ∈ tbG_ := tb_in (List.mem_append_right _ (List.mem_of_getElem? (i := 1107) (by decide +kernel))) rfl
theorem tw_1108 : (Jvm.Cond.selects "ColdFrame" ({ cls := "ColdFrame", name := "limit", desc := "(I)I" } : Jvm.MethodName) ({ cls := "ColdFrame", name := "limit", desc := "(I)I" } : Jvm.MethodName)) ∈ tbG_ := tb_in (List.mem_append_right _ (List.mem_of_getElem? (i := 1108) (by decide +kernel))) rfl
set_option maxRecDepth 20000 in
theorem tw_1109 : (Jvm.Cond.code ({ cls := "ColdFrame", name := "limit", desc := "(I)I" } : Jvm.MethodName) prog_1_method_43_code (2 : Nat) (Option.some Jvm.ClassFile.FieldType.int)) ∈ tbG_ := tb_in (List.mem_append_right _ (List.mem_of_getElem? (i := 1109) (rfl))) rfl
theorem tw_1111 : (Jvm.Cond.methodLink "ColdFrame" (298 : Nat) ({ cls := "java/lang/Math", name := "min", desc := "(II)I" } : Jvm.MethodName)) ∈ tbG_ := tb_in (List.mem_append_right _ (List.mem_of_getElem? (i := 1111) (by decide +kernel))) rfl
theorem tx_1113 : (Jvm.Cond.castable "ColdFrame$Zone" "java/lang/Object") ∈ xw_ := List.mem_filter.mpr ⟨List.mem_append_right _ (List.mem_of_getElem? (i := 1113) (by decide +kernel)), rfl⟩
theorem tx_1114 : (Jvm.Cond.castable "ColdFrame$Group" "java/lang/Object") ∈ xw_ := List.mem_filter.mpr ⟨List.mem_append_right _ (List.mem_of_getElem? (i := 1114) (by decide +kernel)), rfl⟩
theorem tx_1115 : (Jvm.Cond.castable "ColdFrame$Condition" "java/lang/Object") ∈ xw_ := List.mem_filter.mpr ⟨List.mem_append_right _ (List.mem_of_getElem? (i := 1115) (by decide +kernel)), rfl⟩
theorem tx_1116 : (Jvm.Cond.castable "ColdFrame" "java/lang/Object") ∈ xw_ := List.mem_filter.mpr ⟨List.mem_append_right _ (List.mem_of_getElem? (i := 1116) (by decide +kernel)), rfl⟩
theorem tx_1117 : (Jvm.Cond.castable "ColdFrame$Table" "java/lang/Object") ∈ xw_ := List.mem_filter.mpr ⟨List.mem_append_right _ (List.mem_of_getElem? (i := 1117) (by decide +kernel)), rfl⟩
theorem tx_1118 : (Jvm.Cond.castable "java/util/ArrayList" "java/lang/Object") ∈ xw_ := List.mem_filter.mpr ⟨List.mem_append_right _ (List.mem_of_getElem? (i := 1118) (by decide +kernel)), rfl⟩
theorem tx_1119 : (Jvm.Cond.castable "ColdFrame$Sorter" "java/lang/Object") ∈ xw_ := List.mem_filter.mpr ⟨List.mem_append_right _ (List.mem_of_getElem? (i := 1119) (by decide +kernel)), rfl⟩
theorem tx_1120 : (Jvm.Cond.castable "ColdFrame$Block" "java/lang/Object") ∈ xw_ := List.mem_filter.mpr ⟨List.mem_append_right _ (List.mem_of_getElem? (i := 1120) (by decide +kernel)), rfl⟩
theorem tx_1121 : (Jvm.Cond.castable "ColdFrame$Query" "java/lang/Object") ∈ xw_ := List.mem_filter.mpr ⟨List.mem_append_right _ (List.mem_of_getElem? (i := 1121) (by decide +kernel)), rfl⟩
theorem tx_1122 : (Jvm.Cond.castable "ColdFrame$Search" "java/lang/Object") ∈ xw_ := List.mem_filter.mpr ⟨List.mem_append_right _ (List.mem_of_getElem? (i := 1122) (by decide +kernel)), rfl⟩
theorem tx_1123 : (Jvm.Cond.castable "ColdFrame$Result" "java/lang/Object") ∈ xw_ := List.mem_filter.mpr ⟨List.mem_append_right _ (List.mem_of_getElem? (i := 1123) (by decide +kernel)), rfl⟩
theorem tx_1124 : (Jvm.Cond.castable "java/lang/IllegalStateException" "java/lang/Object") ∈ xw_ := List.mem_filter.mpr ⟨List.mem_append_right _ (List.mem_of_getElem? (i := 1124) (by decide +kernel)), rfl⟩
theorem tx_1125 : (Jvm.Cond.castable "ColdFrame$Column" "java/lang/Object") ∈ xw_ := List.mem_filter.mpr ⟨List.mem_append_right _ (List.mem_of_getElem? (i := 1125) (by decide +kernel)), rfl⟩
theorem tx_1126 : (Jvm.Cond.castable "java/lang/IndexOutOfBoundsException" "java/lang/Object") ∈ xw_ := List.mem_filter.mpr ⟨List.mem_append_right _ (List.mem_of_getElem? (i := 1126) (by decide +kernel)), rfl⟩
theorem tx_1127 : (Jvm.Cond.castable "java/lang/IllegalArgumentException" "java/lang/Object") ∈ xw_ := List.mem_filter.mpr ⟨List.mem_append_right _ (List.mem_of_getElem? (i := 1127) (by decide +kernel)), rfl⟩
theorem tx_1128 : (Jvm.Cond.castable "java/lang/Throwable" "java/lang/Object") ∈ xw_ := List.mem_filter.mpr ⟨List.mem_append_right _ (List.mem_of_getElem? (i := 1128) (by decide +kernel)), rfl⟩
theorem tx_1129 : (Jvm.Cond.castable "java/lang/String" "java/lang/Object") ∈ xw_ := List.mem_filter.mpr ⟨List.mem_append_right _ (List.mem_of_getElem? (i := 1129) (by decide +kernel)), rfl⟩
theorem tw_1131 : (Jvm.Cond.selects "[Ljava/lang/Object;" ({ cls := "java/lang/Object", name := "getClass", desc := "()Ljava/lang/Class;" } : Jvm.MethodName) ({ cls := "java/lang/Object", name := "getClass", desc := "()Ljava/lang/Class;" } : Jvm.MethodName)) ∈ tbG_ := tb_in (List.mem_append_right _ (List.mem_of_getElem? (i := 1131) (by decide +kernel))) rfl
theorem tx_1133 : (Jvm.Cond.castable "[Z" "java/lang/Object") ∈ xw_ := List.mem_filter.mpr ⟨List.mem_append_right _ (List.mem_of_getElem? (i := 1133) (by decide +kernel)), rfl⟩
theorem tx_1134 : (Jvm.Cond.castable "[I" "java/lang/Object") ∈ xw_ := List.mem_filter.mpr ⟨List.mem_append_right _ (List.mem_of_getElem? (i := 1134) (by decide +kernel)), rfl⟩
theorem tx_1135 : (Jvm.Cond.castable "[J" "java/lang/Object") ∈ xw_ := List.mem_filter.mpr ⟨List.mem_append_right _ (List.mem_of_getElem? (i := 1135) (by decide +kernel)), rfl⟩
theorem tx_1136 : (Jvm.Cond.castable "[LColdFrame$Zone;" "java/lang/Object") ∈ xw_ := List.mem_filter.mpr ⟨List.mem_append_right _ (List.mem_of_getElem? (i := 1136) (by decide +kernel)), rfl⟩
theorem tx_1137 : (Jvm.Cond.castable "[LColdFrame$Group;" "java/lang/Object") ∈ xw_ := List.mem_filter.mpr ⟨List.mem_append_right _ (List.mem_of_getElem? (i := 1137) (by decide +kernel)), rfl⟩
theorem tx_1138 : (Jvm.Cond.castable "[LColdFrame$Condition;" "java/lang/Object") ∈ xw_ := List.mem_filter.mpr ⟨List.mem_append_right _ (List.mem_of_getElem? (i := 1138) (by decide +kernel)), rfl⟩
theorem tx_1139 : (Jvm.Cond.castable "[B" "java/lang/Object") ∈ xw_ := List.mem_filter.mpr ⟨List.mem_append_right _ (List.mem_of_getElem? (i := 1139) (by decide +kernel)), rfl⟩
theorem tx_1140 : (Jvm.Cond.castable "[Ljava/lang/Object;" "java/lang/Object") ∈ xw_ := List.mem_filter.mpr ⟨List.mem_append_right _ (List.mem_of_getElem? (i := 1140) (by decide +kernel)), rfl⟩
theorem tp_0 : Cond.selects "java/lang/Throwable" (⟨"java/lang/Throwable", "fillInStackTrace", "(I)Ljava/lang/Throwable;"⟩ : MethodName) (⟨"java/lang/Throwable", "fillInStackTrace", "(I)Ljava/lang/Throwable;"⟩ : MethodName) ∈ tbG_ := tb_in (List.mem_append_left _ (List.mem_of_getElem? (i := 0) (by decide +kernel))) rfl
theorem tp_1 : Cond.selects "java/util/ArrayList" (⟨"java/util/ArrayList", "add", "(Ljava/lang/Object;[Ljava/lang/Object;I)V"⟩ : MethodName) (⟨"java/util/ArrayList", "add", "(Ljava/lang/Object;[Ljava/lang/Object;I)V"⟩ : MethodName) ∈ tbG_ := tb_in (List.mem_append_left _ (List.mem_of_getElem? (i := 1) (by decide +kernel))) rfl
theorem tp_2 : Cond.selects "java/util/ArrayList" (⟨"java/util/ArrayList", "grow", "()[Ljava/lang/Object;"⟩ : MethodName) (⟨"java/util/ArrayList", "grow", "()[Ljava/lang/Object;"⟩ : MethodName) ∈ tbG_ := tb_in (List.mem_append_left _ (List.mem_of_getElem? (i := 2) (by decide +kernel))) rfl
theorem tp_3 : Cond.selects "java/util/ArrayList" (⟨"java/util/ArrayList", "grow", "(I)[Ljava/lang/Object;"⟩ : MethodName) (⟨"java/util/ArrayList", "grow", "(I)[Ljava/lang/Object;"⟩ : MethodName) ∈ tbG_ := tb_in (List.mem_append_left _ (List.mem_of_getElem? (i := 3) (by decide +kernel))) rfl
theorem tp_4 : Cond.selects "ColdFrame$Search" (⟨"ColdFrame$Search", "lookThrough", "(LColdFrame$Table;LColdFrame$Query;LColdFrame$Block;Z)Z"⟩ : MethodName) (⟨"ColdFrame$Search", "lookThrough", "(LColdFrame$Table;LColdFrame$Query;LColdFrame$Block;Z)Z"⟩ : MethodName) ∈ tbG_ := tb_in (List.mem_append_left _ (List.mem_of_getElem? (i := 4) (by decide +kernel))) rfl
theorem tp_5 : Cond.selects "ColdFrame$Search" (⟨"ColdFrame$Search", "select", "(LColdFrame$Table;LColdFrame$Group;LColdFrame$Block;Z)V"⟩ : MethodName) (⟨"ColdFrame$Search", "select", "(LColdFrame$Table;LColdFrame$Group;LColdFrame$Block;Z)V"⟩ : MethodName) ∈ tbG_ := tb_in (List.mem_append_left _ (List.mem_of_getElem? (i := 5) (by decide +kernel))) rfl
theorem tp_6 : Cond.selects "ColdFrame$Search" (⟨"ColdFrame$Search", "orderConditions", "(LColdFrame$Group;LColdFrame$Block;Z)V"⟩ : MethodName) (⟨"ColdFrame$Search", "orderConditions", "(LColdFrame$Group;LColdFrame$Block;Z)V"⟩ : MethodName) ∈ tbG_ := tb_in (List.mem_append_left _ (List.mem_of_getElem? (i := 6) (by decide +kernel))) rfl
theorem tp_7 : Cond.selects "ColdFrame$Condition" (⟨"ColdFrame$Condition", "isMetByNone", "(LColdFrame$Zone;)Z"⟩ : MethodName) (⟨"ColdFrame$Condition", "isMetByNone", "(LColdFrame$Zone;)Z"⟩ : MethodName) ∈ tbG_ := tb_in (List.mem_append_left _ (List.mem_of_getElem? (i := 7) (by decide +kernel))) rfl
theorem tp_8 : Cond.selects "ColdFrame$Condition" (⟨"ColdFrame$Condition", "isMetByAll", "(LColdFrame$Zone;)Z"⟩ : MethodName) (⟨"ColdFrame$Condition", "isMetByAll", "(LColdFrame$Zone;)Z"⟩ : MethodName) ∈ tbG_ := tb_in (List.mem_append_left _ (List.mem_of_getElem? (i := 8) (by decide +kernel))) rfl
theorem tp_9 : Cond.selects "ColdFrame$Search" (⟨"ColdFrame$Search", "costIn", "(LColdFrame$Zone;LColdFrame$Condition;LColdFrame$Column;)I"⟩ : MethodName) (⟨"ColdFrame$Search", "costIn", "(LColdFrame$Zone;LColdFrame$Condition;LColdFrame$Column;)I"⟩ : MethodName) ∈ tbG_ := tb_in (List.mem_append_left _ (List.mem_of_getElem? (i := 9) (by decide +kernel))) rfl
theorem tp_10 : Cond.selects "ColdFrame$Search" (⟨"ColdFrame$Search", "narrow", "(LColdFrame$Block;LColdFrame$Condition;LColdFrame$Column;)V"⟩ : MethodName) (⟨"ColdFrame$Search", "narrow", "(LColdFrame$Block;LColdFrame$Condition;LColdFrame$Column;)V"⟩ : MethodName) ∈ tbG_ := tb_in (List.mem_append_left _ (List.mem_of_getElem? (i := 10) (by decide +kernel))) rfl
theorem tp_11 : Cond.selects "ColdFrame$Search" (⟨"ColdFrame$Search", "collect", "(LColdFrame$Table;LColdFrame$Block;Z)V"⟩ : MethodName) (⟨"ColdFrame$Search", "collect", "(LColdFrame$Table;LColdFrame$Block;Z)V"⟩ : MethodName) ∈ tbG_ := tb_in (List.mem_append_left _ (List.mem_of_getElem? (i := 11) (by decide +kernel))) rfl
theorem tp_12 : Cond.selects "ColdFrame" (⟨"ColdFrame", "digestOfCounts", "(J)J"⟩ : MethodName) (⟨"ColdFrame", "digestOfCounts", "(J)J"⟩ : MethodName) ∈ tbG_ := tb_in (List.mem_append_left _ (List.mem_of_getElem? (i := 12) (by decide +kernel))) rfl
theorem tp_13 : Cond.selects "ColdFrame" (⟨"ColdFrame", "digestOfRows", "(J)J"⟩ : MethodName) (⟨"ColdFrame", "digestOfRows", "(J)J"⟩ : MethodName) ∈ tbG_ := tb_in (List.mem_append_left _ (List.mem_of_getElem? (i := 13) (by decide +kernel))) rfl
theorem tp_14 : Cond.selects "ColdFrame" (⟨"ColdFrame", "digestOfFrames", "(J)J"⟩ : MethodName) (⟨"ColdFrame", "digestOfFrames", "(J)J"⟩ : MethodName) ∈ tbG_ := tb_in (List.mem_append_left _ (List.mem_of_getElem? (i := 14) (by decide +kernel))) rfl
theorem tp_15 : Cond.selects "ColdFrame" (⟨"ColdFrame", "needRow", "(I)V"⟩ : MethodName) (⟨"ColdFrame", "needRow", "(I)V"⟩ : MethodName) ∈ tbG_ := tb_in (List.mem_append_left _ (List.mem_of_getElem? (i := 15) (by decide +kernel))) rfl
theorem tp_16 : Cond.selects "ColdFrame" (⟨"ColdFrame", "needColumn", "(I)V"⟩ : MethodName) (⟨"ColdFrame", "needColumn", "(I)V"⟩ : MethodName) ∈ tbG_ := tb_in (List.mem_append_left _ (List.mem_of_getElem? (i := 16) (by decide +kernel))) rfl
theorem tp_17 : Cond.selects "ColdFrame" (⟨"ColdFrame", "needRoom", "()V"⟩ : MethodName) (⟨"ColdFrame", "needRoom", "()V"⟩ : MethodName) ∈ tbG_ := tb_in (List.mem_append_left _ (List.mem_of_getElem? (i := 17) (by decide +kernel))) rfl
theorem tp_18 : Cond.selects "ColdFrame$Table" (⟨"ColdFrame$Table", "appendFilled", "()I"⟩ : MethodName) (⟨"ColdFrame$Table", "appendFilled", "()I"⟩ : MethodName) ∈ tbG_ := tb_in (List.mem_append_left _ (List.mem_of_getElem? (i := 18) (by decide +kernel))) rfl
theorem tp_19 : Cond.selects "ColdFrame$Table" (⟨"ColdFrame$Table", "dropDead", "(LColdFrame$Block;)V"⟩ : MethodName) (⟨"ColdFrame$Table", "dropDead", "(LColdFrame$Block;)V"⟩ : MethodName) ∈ tbG_ := tb_in (List.mem_append_left _ (List.mem_of_getElem? (i := 19) (by decide +kernel))) rfl
theorem tp_20 : Cond.selects "ColdFrame$Sorter" (⟨"ColdFrame$Sorter", "join", "([IIII)V"⟩ : MethodName) (⟨"ColdFrame$Sorter", "join", "([IIII)V"⟩ : MethodName) ∈ tbG_ := tb_in (List.mem_append_left _ (List.mem_of_getElem? (i := 20) (by decide +kernel))) rfl
theorem tp_21 : Cond.selects "ColdFrame$Zone" (⟨"ColdFrame$Zone", "countValues", "(LColdFrame$Column;[I)V"⟩ : MethodName) (⟨"ColdFrame$Zone", "countValues", "(LColdFrame$Column;[I)V"⟩ : MethodName) ∈ tbG_ := tb_in (List.mem_append_left _ (List.mem_of_getElem? (i := 21) (by decide +kernel))) rfl
theorem tp_22 : Cond.selects "ColdFrame$Zone" (⟨"ColdFrame$Zone", "countRuns", "(LColdFrame$Column;[I)V"⟩ : MethodName) (⟨"ColdFrame$Zone", "countRuns", "(LColdFrame$Column;[I)V"⟩ : MethodName) ∈ tbG_ := tb_in (List.mem_append_left _ (List.mem_of_getElem? (i := 22) (by decide +kernel))) rfl
theorem tp_23 : Cond.selects "ColdFrame$Zone" (⟨"ColdFrame$Zone", "widthFor", "(J)I"⟩ : MethodName) (⟨"ColdFrame$Zone", "widthFor", "(J)I"⟩ : MethodName) ∈ tbG_ := tb_in (List.mem_append_left _ (List.mem_of_getElem? (i := 23) (by decide +kernel))) rfl
theorem tp_24 : Cond.selects "ColdFrame$Table" (⟨"ColdFrame$Table", "numberFrom", "(I)V"⟩ : MethodName) (⟨"ColdFrame$Table", "numberFrom", "(I)V"⟩ : MethodName) ∈ tbG_ := tb_in (List.mem_append_left _ (List.mem_of_getElem? (i := 24) (by decide +kernel))) rfl
theorem tp_25 : Cond.selects "ColdFrame" (⟨"ColdFrame", "needFrame", "(I)V"⟩ : MethodName) (⟨"ColdFrame", "needFrame", "(I)V"⟩ : MethodName) ∈ tbG_ := tb_in (List.mem_append_left _ (List.mem_of_getElem? (i := 25) (by decide +kernel))) rfl
theorem tp_26 : Cond.selects "ColdFrame$Table" (⟨"ColdFrame$Table", "removeFrame", "(I)V"⟩ : MethodName) (⟨"ColdFrame$Table", "removeFrame", "(I)V"⟩ : MethodName) ∈ tbG_ := tb_in (List.mem_append_left _ (List.mem_of_getElem? (i := 26) (by decide +kernel))) rfl
theorem tp_27 : Cond.selects "java/util/ArrayList" (⟨"java/util/ArrayList", "fastRemove", "([Ljava/lang/Object;I)V"⟩ : MethodName) (⟨"java/util/ArrayList", "fastRemove", "([Ljava/lang/Object;I)V"⟩ : MethodName) ∈ tbG_ := tb_in (List.mem_append_left _ (List.mem_of_getElem? (i := 27) (by decide +kernel))) rfl
theorem tp_28 : Cond.selects "ColdFrame" (⟨"ColdFrame", "zoneOf", "(II)LColdFrame$Zone;"⟩ : MethodName) (⟨"ColdFrame", "zoneOf", "(II)LColdFrame$Zone;"⟩ : MethodName) ∈ tbG_ := tb_in (List.mem_append_left _ (List.mem_of_getElem? (i := 28) (by decide +kernel))) rfl
theorem tp_29 : Cond.selects "ColdFrame$Result" (⟨"ColdFrame$Result", "sumOf", "(LColdFrame$Column;II)I"⟩ : MethodName) (⟨"ColdFrame$Result", "sumOf", "(LColdFrame$Column;II)I"⟩ : MethodName) ∈ tbG_ := tb_in (List.mem_append_left _ (List.mem_of_getElem? (i := 29) (by decide +kernel))) rfl
theorem tp_30 : Cond.selects "ColdFrame$Result" (⟨"ColdFrame$Result", "endOf", "(LColdFrame$Column;IIZ)I"⟩ : MethodName) (⟨"ColdFrame$Result", "endOf", "(LColdFrame$Column;IIZ)I"⟩ : MethodName) ∈ tbG_ := tb_in (List.mem_append_left _ (List.mem_of_getElem? (i := 30) (by decide +kernel))) rfl
set_option maxRecDepth 20000 in
theorem tc_Jx4a65c : ∀ w ∈ u_ws RJx4a65c TJx4a65c 3, w ∈ tbG_ := fun w h => tb_in (List.mem_append_right _ ((show ∀ w ∈ u_ws RJx4a65c TJx4a65c 3, w ∈ tables_1 by decide +kernel) w h)) ((show ∀ w ∈ u_ws RJx4a65c TJx4a65c 3, goodWord w = true by decide +kernel) w h)
theorem td_Jx4a65c : ∀ j, j < 3 → defaultValue (tyJx4a65c j) = dv_ 0 j := by decide +kernel
set_option maxRecDepth 20000 in
theorem tc_X0 : ∀ w ∈ u_ws RX0 TX0 4, w ∈ tbG_ := fun w h => tb_in (List.mem_append_right _ ((show ∀ w ∈ u_ws RX0 TX0 4, w ∈ tables_1 by decide +kernel) w h)) ((show ∀ w ∈ u_ws RX0 TX0 4, goodWord w = true by decide +kernel) w h)
theorem td_X0 : ∀ j, j < 4 → defaultValue (tyX0 j) = dv_ 1 j := by decide +kernel
set_option maxRecDepth 20000 in
theorem tc_X1 : ∀ w ∈ u_ws RX1 TX1 5, w ∈ tbG_ := fun w h => tb_in (List.mem_append_right _ ((show ∀ w ∈ u_ws RX1 TX1 5, w ∈ tables_1 by decide +kernel) w h)) ((show ∀ w ∈ u_ws RX1 TX1 5, goodWord w = true by decide +kernel) w h)
theorem td_X1 : ∀ j, j < 5 → defaultValue (tyX1 j) = dv_ 2 j := by decide +kernel
set_option maxRecDepth 20000 in
theorem tc_X2 : ∀ w ∈ u_ws RX2 TX2 3, w ∈ tbG_ := fun w h => tb_in (List.mem_append_right _ ((show ∀ w ∈ u_ws RX2 TX2 3, w ∈ tables_1 by decide +kernel) w h)) ((show ∀ w ∈ u_ws RX2 TX2 3, goodWord w = true by decide +kernel) w h)
theorem td_X2 : ∀ j, j < 3 → defaultValue (tyX2 j) = dv_ 3 j := by decide +kernel
set_option maxRecDepth 20000 in
theorem tc_X3 : ∀ w ∈ u_ws RX3 TX3 2, w ∈ tbG_ := fun w h => tb_in (List.mem_append_right _ ((show ∀ w ∈ u_ws RX3 TX3 2, w ∈ tables_1 by decide +kernel) w h)) ((show ∀ w ∈ u_ws RX3 TX3 2, goodWord w = true by decide +kernel) w h)
theorem td_X3 : ∀ j, j < 2 → defaultValue (tyX3 j) = dv_ 4 j := by decide +kernel
set_option maxRecDepth 20000 in
theorem tc_X4 : ∀ w ∈ u_ws RX4 TX4 2, w ∈ tbG_ := fun w h => tb_in (List.mem_append_right _ ((show ∀ w ∈ u_ws RX4 TX4 2, w ∈ tables_1 by decide +kernel) w h)) ((show ∀ w ∈ u_ws RX4 TX4 2, goodWord w = true by decide +kernel) w h)
theorem td_X4 : ∀ j, j < 2 → defaultValue (tyX4 j) = dv_ 5 j := by decide +kernel
set_option maxRecDepth 20000 in
theorem tc_X5 : ∀ w ∈ u_ws RX5 TX5 7, w ∈ tbG_ := fun w h => tb_in (List.mem_append_right _ ((show ∀ w ∈ u_ws RX5 TX5 7, w ∈ tables_1 by decide +kernel) w h)) ((show ∀ w ∈ u_ws RX5 TX5 7, goodWord w = true by decide +kernel) w h)
theorem td_X5 : ∀ j, j < 7 → defaultValue (tyX5 j) = dv_ 6 j := by decide +kernel
set_option maxRecDepth 20000 in
theorem tc_X6 : ∀ w ∈ u_ws RX6 TX6 10, w ∈ tbG_ := fun w h => tb_in (List.mem_append_right _ ((show ∀ w ∈ u_ws RX6 TX6 10, w ∈ tables_1 by decide +kernel) w h)) ((show ∀ w ∈ u_ws RX6 TX6 10, goodWord w = true by decide +kernel) w h)
theorem td_X6 : ∀ j, j < 10 → defaultValue (tyX6 j) = dv_ 7 j := by decide +kernel
set_option maxRecDepth 20000 in
theorem tc_X7 : ∀ w ∈ u_ws RX7 TX7 2, w ∈ tbG_ := fun w h => tb_in (List.mem_append_right _ ((show ∀ w ∈ u_ws RX7 TX7 2, w ∈ tables_1 by decide +kernel) w h)) ((show ∀ w ∈ u_ws RX7 TX7 2, goodWord w = true by decide +kernel) w h)
theorem td_X7 : ∀ j, j < 2 → defaultValue (tyX7 j) = dv_ 8 j := by decide +kernel
set_option maxRecDepth 20000 in
theorem tc_X8 : ∀ w ∈ u_ws RX8 TX8 11, w ∈ tbG_ := fun w h => tb_in (List.mem_append_right _ ((show ∀ w ∈ u_ws RX8 TX8 11, w ∈ tables_1 by decide +kernel) w h)) ((show ∀ w ∈ u_ws RX8 TX8 11, goodWord w = true by decide +kernel) w h)
theorem td_X8 : ∀ j, j < 11 → defaultValue (tyX8 j) = dv_ 9 j := by decide +kernel
set_option maxRecDepth 20000 in
theorem tc_X9 : ∀ w ∈ u_ws RX9 TX9 9, w ∈ tbG_ := fun w h => tb_in (List.mem_append_right _ ((show ∀ w ∈ u_ws RX9 TX9 9, w ∈ tables_1 by decide +kernel) w h)) ((show ∀ w ∈ u_ws RX9 TX9 9, goodWord w = true by decide +kernel) w h)
theorem td_X9 : ∀ j, j < 9 → defaultValue (tyX9 j) = dv_ 10 j := by decide +kernel
set_option maxRecDepth 20000 in
theorem tc_X10 : ∀ w ∈ u_ws RX10 TX10 6, w ∈ tbG_ := fun w h => tb_in (List.mem_append_right _ ((show ∀ w ∈ u_ws RX10 TX10 6, w ∈ tables_1 by decide +kernel) w h)) ((show ∀ w ∈ u_ws RX10 TX10 6, goodWord w = true by decide +kernel) w h)
theorem td_X10 : ∀ j, j < 6 → defaultValue (tyX10 j) = dv_ 11 j := by decide +kernel
end
section
theorem k_ne {a c : Nat} (h : a = c) (h0 : c ≠ 0) : a ≠ 0 := fun z => h0 (h.symm.trans z)
/-! more rows: a method's start, switches, fields by kind -/
theorem bz_n {x : Int32} (h : bz_ x) : narrow .boolean (.int x) = .int x := by rcases h with rfl | rfl <;> rfl
theorem bz_f {x : Int32} (h : bz_ x) : fits .boolean (.int x) = true := by rcases h with rfl | rfl <;> rfl
theorem ofV {l : Launch} {y : MethodName} {cc : ByteArray} {maxL : Nat} {ret : Option FieldType} {rm : Room} {D : Dd_} {M : Mm} {sz : Nat} {As : List Value} {Qc : Array Value → State → Outcome → State → Prop} {mc ms : Nat} (hy : plainName y.cls = true) (hn : (lg_sl As).length ≤ maxL)
    (body : ∀ (p : Program) (e : Env) (s : State) (m : MethodId) (below : List Frame) (meth : Method) (c : Code), G_ p s m As.toArray meth c cc maxL y.cls D M → meth.sig.returnType = ret → (y.name = "<init>" → meth.name = "<init>") → s.heap.size = sz → V_ p l e rm s m As.toArray below meth c maxL D M (MQ below Qc As.toArray s mc ms (Aw_ M sz)) 0 (lv_args 0 As) [] M 0 0) :
    Met l y (Cond.code y cc maxL ret :: tbG_) rm (cPc_ D M sz As) Qc mc ms (Aw_ M sz) := by
  refine Met.ofW (cc := cc) (maxL := maxL) (ret := ret) hy rfl ?_
  intro p e s m args below meth c s₁ B hml hv
  obtain ⟨rfl, hsz, hR0, hKn⟩ := hv
  have hts := atoms_spec (ws := Cond.code y cc maxL ret :: tbG_) B.pre
  have g : G_ p s m As.toArray meth c cc maxL y.cls D M := ⟨B.exec, B.bytes, hml, findClass_of_methodNamed B.named, fun w h => hts w (List.mem_cons_of_mem _ h), hKn, hR0, B.notSynchronized⟩
  have hl := lv_entry As (n := maxL) hn
  rw [lg_entry_eq]
  generalize (lg_sl As ++ List.replicate (maxL - (lg_sl As).length) Slot.unset).toArray = ls at hl ⊢
  exact body p e s m below meth c g B.returns (fun h => (name_of_methodNamed B.named B.method).1.trans h) hsz s.heap [] ls hR0 (Nw_.rf _ _) hl va_S.rf

theorem sw_out4_0 {x : Int32} (h0 : ¬ x = 0) (h1 : ¬ x = 1) (h2 : ¬ x = 2) (h3 : ¬ x = 3) : x.toInt < 0 ∨ 3 < x.toInt := by
  have g0 := lv_neT (a := 0) h0 (by decide)
  have g1 := lv_neT (a := 1) h1 (by decide)
  have g2 := lv_neT (a := 2) h2 (by decide)
  have g3 := lv_neT (a := 3) h3 (by decide)
  omega
theorem sw_out5_0 {x : Int32} (h0 : ¬ x = 0) (h1 : ¬ x = 1) (h2 : ¬ x = 2) (h3 : ¬ x = 3) (h4 : ¬ x = 4) : x.toInt < 0 ∨ 4 < x.toInt := by
  have g0 := lv_neT (a := 0) h0 (by decide)
  have g1 := lv_neT (a := 1) h1 (by decide)
  have g2 := lv_neT (a := 2) h2 (by decide)
  have g3 := lv_neT (a := 3) h3 (by decide)
  have g4 := lv_neT (a := 4) h4 (by decide)
  omega
theorem sw_out6_0 {x : Int32} (h0 : ¬ x = 0) (h1 : ¬ x = 1) (h2 : ¬ x = 2) (h3 : ¬ x = 3) (h4 : ¬ x = 4) (h5 : ¬ x = 5) : x.toInt < 0 ∨ 5 < x.toInt := by
  have g0 := lv_neT (a := 0) h0 (by decide)
  have g1 := lv_neT (a := 1) h1 (by decide)
  have g2 := lv_neT (a := 2) h2 (by decide)
  have g3 := lv_neT (a := 3) h3 (by decide)
  have g4 := lv_neT (a := 4) h4 (by decide)
  have g5 := lv_neT (a := 5) h5 (by decide)
  omega
theorem sw_out7_0 {x : Int32} (h0 : ¬ x = 0) (h1 : ¬ x = 1) (h2 : ¬ x = 2) (h3 : ¬ x = 3) (h4 : ¬ x = 4) (h5 : ¬ x = 5) (h6 : ¬ x = 6) : x.toInt < 0 ∨ 6 < x.toInt := by
  have g0 := lv_neT (a := 0) h0 (by decide)
  have g1 := lv_neT (a := 1) h1 (by decide)
  have g2 := lv_neT (a := 2) h2 (by decide)
  have g3 := lv_neT (a := 3) h3 (by decide)
  have g4 := lv_neT (a := 4) h4 (by decide)
  have g5 := lv_neT (a := 5) h5 (by decide)
  have g6 := lv_neT (a := 6) h6 (by decide)
  omega
theorem sw_out8_0 {x : Int32} (h0 : ¬ x = 0) (h1 : ¬ x = 1) (h2 : ¬ x = 2) (h3 : ¬ x = 3) (h4 : ¬ x = 4) (h5 : ¬ x = 5) (h6 : ¬ x = 6) (h7 : ¬ x = 7) : x.toInt < 0 ∨ 7 < x.toInt := by
  have g0 := lv_neT (a := 0) h0 (by decide)
  have g1 := lv_neT (a := 1) h1 (by decide)
  have g2 := lv_neT (a := 2) h2 (by decide)
  have g3 := lv_neT (a := 3) h3 (by decide)
  have g4 := lv_neT (a := 4) h4 (by decide)
  have g5 := lv_neT (a := 5) h5 (by decide)
  have g6 := lv_neT (a := 6) h6 (by decide)
  have g7 := lv_neT (a := 7) h7 (by decide)
  omega
theorem sw_out9_0 {x : Int32} (h0 : ¬ x = 0) (h1 : ¬ x = 1) (h2 : ¬ x = 2) (h3 : ¬ x = 3) (h4 : ¬ x = 4) (h5 : ¬ x = 5) (h6 : ¬ x = 6) (h7 : ¬ x = 7) (h8 : ¬ x = 8) : x.toInt < 0 ∨ 8 < x.toInt := by
  have g0 := lv_neT (a := 0) h0 (by decide)
  have g1 := lv_neT (a := 1) h1 (by decide)
  have g2 := lv_neT (a := 2) h2 (by decide)
  have g3 := lv_neT (a := 3) h3 (by decide)
  have g4 := lv_neT (a := 4) h4 (by decide)
  have g5 := lv_neT (a := 5) h5 (by decide)
  have g6 := lv_neT (a := 6) h6 (by decide)
  have g7 := lv_neT (a := 7) h7 (by decide)
  have g8 := lv_neT (a := 8) h8 (by decide)
  omega
theorem sw_out3_0 {x : Int32} (h0 : ¬ x = 0) (h1 : ¬ x = 1) (h2 : ¬ x = 2) : x.toInt < 0 ∨ 2 < x.toInt := by
  have g0 := lv_neT (a := 0) h0 (by decide)
  have g1 := lv_neT (a := 1) h1 (by decide)
  have g2 := lv_neT (a := 2) h2 (by decide)
  omega
section ROWS
variable {p : Program} {l : Launch} {e : Env} {R : Room} {s : State} {m : MethodId} {args : Array Value} {below : List Frame} {meth : Method} {c : Code} {cc : ByteArray} {nL : Nat} {own : String} {D : Dd_} {M0 : Mm} {Q : State → Prop}
variable {pc : Nat} {L L' : List (Nat × Value)} {S : List Value} {M : Mm} {n k : Nat}

theorem r_tsi (g : G_ p s m args meth c cc nL own D M0) {x v : Int32} {dflt lo hi : Int} {offs : Array Int} {len j tgt : Nat} (hd : decode cc pc = .ok (.tableswitch dflt lo hi offs, len)) (hx : x = v) (h1 : ¬ v.toInt < lo) (h2 : ¬ hi < v.toInt) (hj : (v.toInt - lo).toNat = j) (ho : (offs[j]?).map (fun o => (pc : Int) + o) = some (tgt : Int)) (kk : V_ p l e R s m args below meth c nL D M0 Q tgt L S M n k) : V_ p l e R s m args below meth c nL D M0 Q pc L (.int x :: S) M n k := fun H locs ls hR hN hl hS => by
  subst hx
  cases ho2 : offs[j]? with
  | none => rw [ho2] at ho; cases ho
  | some off =>
    rw [ho2] at ho
    exact lv_tableIn g.1 g.2.1 hd h1 h2 (by rw [hj]; exact ho2) (Option.some.inj ho) (kk H locs ls hR hN hl hS)
theorem r_tsd (g : G_ p s m args meth c cc nL own D M0) {x : Int32} {dflt lo hi : Int} {offs : Array Int} {len tgt : Nat} (hd : decode cc pc = .ok (.tableswitch dflt lo hi offs, len)) (hx : x.toInt < lo ∨ hi < x.toInt) (ht : (pc : Int) + dflt = (tgt : Int)) (kk : V_ p l e R s m args below meth c nL D M0 Q tgt L S M n k) : V_ p l e R s m args below meth c nL D M0 Q pc L (.int x :: S) M n k := fun H locs ls hR hN hl hS => lv_tableOut g.1 g.2.1 hd hx ht (kk H locs ls hR hN hl hS)
theorem r_gtZ (g : G_ p s m args meth c cc nL own D M0) {C ref : String} {T : u_T} {N ci a i : Nat} (hc : vwCl[ci]? = some (C, T, N)) (hin : ∀ w ∈ u_ws C T N, w ∈ tbG_) (hk : kd_ M a = ci + 1) (j : Nat) (hj : j < N) (hlink : Cond.fieldLink own i ref (T j).2.1 (T j).2.2.1 ∈ tbG_) (hsame : ∀ x, s.fieldFound? (T j).1 (T j).2.1 (T j).2.2.1 = some x → s.fieldFound? ref (T j).2.1 (T j).2.2.1 = some x) (hft : ft_ ci j = 3) (hd : decode cc pc = .ok (.getfield i, 3)) (kk : bz_ (it_ M a j) → V_ p l e R s m args below meth c nL D M0 Q (pc + 3) L (.int (it_ M a j) :: S) M n k) : V_ p l e R s m args below meth c nL D M0 Q pc L (.ref a :: S) M n k := fun H locs ls hR hN hl hS => by
  have hci : ci < 12 := (List.getElem?_eq_some_iff.mp hc).1
  have hb := (((hR.2.2.2.2 a).1.1) ci hci hk).2 j hft
  exact r_gt g hc hin hk j hj hlink hsame (v := .int (it_ M a j)) (by unfold fv_; rw [hft]; rfl) hd (kk hb) H locs ls hR hN hl hS
theorem r_gtR (g : G_ p s m args meth c cc nL own D M0) {C ref : String} {T : u_T} {N ci a i : Nat} (hc : vwCl[ci]? = some (C, T, N)) (hin : ∀ w ∈ u_ws C T N, w ∈ tbG_) (hk : kd_ M a = ci + 1) (j : Nat) (hj : j < N) (hlink : Cond.fieldLink own i ref (T j).2.1 (T j).2.2.1 ∈ tbG_) (hsame : ∀ x, s.fieldFound? (T j).1 (T j).2.1 (T j).2.2.1 = some x → s.fieldFound? ref (T j).2.1 (T j).2.2.1 = some x) (hft : ft_ ci j = 2) (hx : kd_ M (rf_ M a j) ≠ 0) (hd : decode cc pc = .ok (.getfield i, 3)) (kk : V_ p l e R s m args below meth c nL D M0 Q (pc + 3) L (.ref (rf_ M a j) :: S) M n k) : V_ p l e R s m args below meth c nL D M0 Q pc L (.ref a :: S) M n k := fun H locs ls hR hN hl hS =>
  r_gt g hc hin hk j hj hlink hsame (v := .ref (rf_ M a j)) (by unfold fv_; rw [hft, if_pos rfl]; exact rv_pos (hR.ne0 hx)) hd kk H locs ls hR hN hl hS
theorem r_ptRx (g : G_ p s m args meth c cc nL own D M0) {C ref : String} {T : u_T} {N ci a i x : Nat} (hc : vwCl[ci]? = some (C, T, N)) (hin : ∀ w ∈ u_ws C T N, w ∈ tbG_) (ty0 : Nat → FieldType) (hty : ∀ k, k < N → parseFieldDescriptor (T k).2.2.1 = some (ty0 k)) (hnm : ∀ a, a < N → ∀ b, b < N → a ≠ b → (T a).2.1 ≠ (T b).2.1) (hk : kd_ M a = ci + 1) (j : Nat) (hj : j < N) (hlink : Cond.fieldLink own i ref (T j).2.1 (T j).2.2.1 ∈ tbG_) (hsame : ∀ x, s.fieldFound? (T j).1 (T j).2.1 (T j).2.2.1 = some x → s.fieldFound? ref (T j).2.1 (T j).2.2.1 = some x) (hfin : (T j).2.2.2 = false) (hft : ft_ ci j = 2) (hx : kd_ M x ≠ 0) (hn : narrow (ty0 j) (.ref x) = .ref x) (hf : fits (ty0 j) (.ref x) = true) (hd : decode cc pc = .ok (.putfield i, 3)) (kk : V_ p l e R s m args below meth c nL D M0 Q (pc + 3) L S (sR_ M a j x) n k) : V_ p l e R s m args below meth c nL D M0 Q pc L (.ref x :: .ref a :: S) M n k := fun H locs ls hR hN hl hS =>
  r_ptR g hc hin ty0 hty hnm hk j hj hlink hsame hfin hft (hR.ne0 hx) hn hf hd kk H locs ls hR hN hl hS
theorem r_ptFx (g : G_ p s m args meth c cc nL own D M0) {C ref : String} {T : u_T} {N ci a i x : Nat} (hc : vwCl[ci]? = some (C, T, N)) (hin : ∀ w ∈ u_ws C T N, w ∈ tbG_) (ty0 : Nat → FieldType) (hty : ∀ k, k < N → parseFieldDescriptor (T k).2.2.1 = some (ty0 k)) (hnm : ∀ a, a < N → ∀ b, b < N → a ≠ b → (T a).2.1 ≠ (T b).2.1) (hk : kd_ M a = ci + 1) (j : Nat) (hj : j < N) (hlink : Cond.fieldLink own i ref (T j).2.1 (T j).2.2.1 ∈ tbG_) (hsame : ∀ x, s.fieldFound? (T j).1 (T j).2.1 (T j).2.2.1 = some x → s.fieldFound? ref (T j).2.1 (T j).2.2.1 = some x) (hfin : (T j).2.2.2 = true) (hin2 : meth.name = "<init>") (hdecl : (T j).1 = own) (hft : ft_ ci j = 2) (hx : kd_ M x ≠ 0) (hn : narrow (ty0 j) (.ref x) = .ref x) (hf : fits (ty0 j) (.ref x) = true) (hd : decode cc pc = .ok (.putfield i, 3)) (kk : V_ p l e R s m args below meth c nL D M0 Q (pc + 3) L S (sR_ M a j x) n k) : V_ p l e R s m args below meth c nL D M0 Q pc L (.ref x :: .ref a :: S) M n k := fun H locs ls hR hN hl hS =>
  r_ptF g hc hin ty0 hty hnm hk j hj hlink hsame hfin hin2 hdecl hft (hR.ne0 hx) hn hf hd kk H locs ls hR hN hl hS
end ROWS
end
section
/-! a row of objects takes a block or a column -/
section ROWS
variable {p : Program} {l : Launch} {e : Env} {R : Room} {s : State} {m : MethodId} {args : Array Value} {below : List Frame} {meth : Method} {c : Code} {cc : ByteArray} {nL : Nat} {own : String} {D : Dd_} {M0 : Mm} {Q : State → Prop}
variable {pc : Nat} {L L' : List (Nat × Value)} {S : List Value} {M : Mm} {n k : Nat}

theorem r_aastA (g : G_ p s m args meth c cc nL own D M0) {a v : Nat} {i : Int32} (hkv : kd_ M v = 2 ∨ kd_ M v = 3) (hk : kd_ M a = 26) (hin : vp_in i (ln_ M a)) (hd : decode cc pc = .ok (.aastore, 1))
    (kk : V_ p l e R s m args below meth c nL D M0 Q (pc + 1) L S (sR_ M a (ix_ i) v) n k) : V_ p l e R s m args below meth c nL D M0 Q pc L (rv_ v :: .int i :: .ref a :: S) M n k := by
  rcases hkv with hkv | hkv
  · exact r_rv (k_ne hkv (by decide)) (r_aastO (ci := 1) (C := RX0) (T := TX0) (N := 4) g rfl tx_1120 hk hkv hin hd kk)
  · exact r_rv (k_ne hkv (by decide)) (r_aastO (ci := 2) (C := RX1) (T := TX1) (N := 5) g rfl tx_1125 hk hkv hin hd kk)
end ROWS
end
section
/-! walks by program: 10.column -/
def rmX1_init : Room := { frames := 1, cells := 2, slots := 1200, locals := 12 }
theorem hy_X1_init : yX1_init.cls ≠ "java/lang/invoke/MethodHandle" ∧ yX1_init.cls ≠ "java/lang/invoke/VarHandle" ∧ (parseMethodDescriptor yX1_init.desc).map (fun d => d.parameters.length) = some 0 := by decide +kernel
def wp_X1_init (a0 : Nat) (M : Mm) (K : Mm → Prop) : Prop := kd_ M a0 = 3 ∧ ((∀ q1, q1 ≠ 0 → kd_ M q1 = 0 → ∀ M4, M4 = nw_ M q1 20 (ix_ (600 : Int32)) → (∀ M8, M8 = sR_ M4 a0 0 q1 → ((∀ q9, q9 ≠ 0 → kd_ M8 q9 = 0 → ∀ M12, M12 = nw_ M8 q9 21 (ix_ (600 : Int32)) → (∀ M16, M16 = sR_ M12 a0 1 q9 → K M16))))))
set_option maxHeartbeats 4000000 in
set_option maxRecDepth 100000 in
theorem mt_X1_init {l : Launch} {D : Dd_} {M : Mm} {a0 : Nat} {K : Mm → Prop} (hw : wp_X1_init a0 M K) (sz : Nat) : Met l yX1_init (Cond.code yX1_init cX1_init 1 none :: tbG_) rmX1_init (cPc_ D M sz [.ref a0]) (va_Qv (fun M' => K M') (cB_ D M sz) (Aw_ M sz)) 2 1200 (Aw_ M sz) := by
  refine ofV (by decide) (Nat.le_of_ble_eq_true rfl) ?_
  intro p e s m below meth c g hr hin hsz
  subst hsz
  have hin := hin rfl
  obtain ⟨hk0, hw⟩ := hw
  refine r_aload_n g dX1_init_0 rfl 0 rfl ?_
  refine r_oinit g tw_435 tw_33 tw_34 dX1_init_1 (Nat.le_of_ble_eq_true rfl) (Nat.le_of_ble_eq_true rfl) ?_
  refine r_aload_n g dX1_init_4 rfl 0 rfl ?_
  refine r_sipush (v := 600) g dX1_init_5 (by decide) ?_
  refine r_newI g tw_81 (by decide) (Nat.le_of_ble_eq_true rfl) (Nat.le_of_ble_eq_true rfl) (Nat.le_of_ble_eq_true rfl) dX1_init_8 (fun q1 h2 hq3 => ?_)
  have hw := hw q1 h2 hq3 _ rfl
  have hk5 := kd_nw_ (c := 20) (n := ix_ (600 : Int32)) hq3 hk0 (by decide)
  have hT6 := Nk_.tr (Nk_.rf _) (Nk_nw_ (c := 20) (n := ix_ (600 : Int32)) hq3)
  have hk7 := kd_nq_ M q1 20 (ix_ (600 : Int32))
  refine r_ptFx (C := RX1) (T := TX1) (N := 5) g (ci := 2) rfl tc_X1 tyX1 tyX1_ok nmX1 hk5 0 (by decide) tw_436 (fun _ h => h) rfl hin rfl rfl (k_ne hk7 (by decide)) rfl rfl dX1_init_10 ?_
  have hw := hw _ rfl
  refine r_aload_n g dX1_init_13 rfl 0 rfl ?_
  refine r_sipush (v := 600) g dX1_init_14 (by decide) ?_
  refine r_newZ g tw_80 (by decide) (Nat.le_of_ble_eq_true rfl) (Nat.le_of_ble_eq_true rfl) (Nat.le_of_ble_eq_true rfl) dX1_init_17 (fun q9 h10 hq11 => ?_)
  have hw := hw q9 h10 hq11 _ rfl
  have hk13 := kd_nw_ (c := 21) (n := ix_ (600 : Int32)) hq11 hk5 (by decide)
  have hT14 := Nk_.tr hT6 (Nk_nw_ (c := 21) (n := ix_ (600 : Int32)) hq11)
  have hk15 := kd_nq_ (sR_ (nw_ M q1 20 (ix_ (600 : Int32))) a0 0 q1) q9 21 (ix_ (600 : Int32))
  refine r_ptFx (C := RX1) (T := TX1) (N := 5) g (ci := 2) rfl tc_X1 tyX1 tyX1_ok nmX1 hk13 1 (by decide) tw_442 (fun _ h => h) rfl hin rfl rfl (k_ne hk15 (by decide)) rfl rfl dX1_init_19 ?_
  have hw := hw _ rfl
  exact r_vret g hr (Nat.le_of_ble_eq_true rfl) (Nat.le_of_ble_eq_true rfl) rfl dX1_init_22 hw
def rmX1_giveNext : Room := { frames := 0, cells := 0, slots := 0, locals := 0 }
theorem hy_X1_giveNext : yX1_giveNext.cls ≠ "java/lang/invoke/MethodHandle" ∧ yX1_giveNext.cls ≠ "java/lang/invoke/VarHandle" ∧ (parseMethodDescriptor yX1_giveNext.desc).map (fun d => d.parameters.length) = some 1 := by decide +kernel
def wp_X1_giveNext (a0 : Nat) (x1 : Int32) (M : Mm) (K : Mm → Prop) : Prop := kd_ M a0 = 3 ∧ (∀ M1, M1 = sI_ M a0 4 x1 → (∀ M2, M2 = sI_ M1 a0 3 (1 : Int32) → K M2))
set_option maxHeartbeats 4000000 in
set_option maxRecDepth 100000 in
theorem mt_X1_giveNext {l : Launch} {D : Dd_} {M : Mm} {a0 : Nat} {x1 : Int32} {K : Mm → Prop} (hw : wp_X1_giveNext a0 x1 M K) (sz : Nat) : Met l yX1_giveNext (Cond.code yX1_giveNext cX1_giveNext 2 none :: tbG_) rmX1_giveNext (cPc_ D M sz [.ref a0, .int x1]) (va_Qv (fun M' => K M') (cB_ D M sz) (Aw_ M sz)) 0 0 (Aw_ M sz) := by
  refine ofV (by decide) (Nat.le_of_ble_eq_true rfl) ?_
  intro p e s m below meth c g hr hin hsz
  subst hsz
  obtain ⟨hk0, hw⟩ := hw
  refine r_aload_n g dX1_giveNext_0 rfl 0 rfl ?_
  refine r_iload_n g dX1_giveNext_1 rfl 1 rfl ?_
  refine r_ptI (C := RX1) (T := TX1) (N := 5) g (ci := 2) rfl tc_X1 tyX1 tyX1_ok nmX1 hk0 4 (by decide) tw_453 (fun _ h => h) rfl rfl rfl rfl dX1_giveNext_2 ?_
  have hw := hw _ rfl
  refine r_aload_n g dX1_giveNext_5 rfl 0 rfl ?_
  refine r_iconst (v := 1) g dX1_giveNext_6 (by decide) ?_
  refine r_ptZ (C := RX1) (T := TX1) (N := 5) g (ci := 2) rfl tc_X1 tyX1 tyX1_ok nmX1 hk0 3 (by decide) tw_451 (fun _ h => h) rfl rfl (Or.inr rfl) (bz_n (Or.inr rfl)) (bz_f (Or.inr rfl)) dX1_giveNext_7 ?_
  have hw := hw _ rfl
  exact r_vret g hr (Nat.le_of_ble_eq_true rfl) (Nat.le_of_ble_eq_true rfl) rfl dX1_giveNext_10 hw
def rmX1_takeGiven : Room := { frames := 0, cells := 0, slots := 0, locals := 0 }
theorem hy_X1_takeGiven : yX1_takeGiven.cls ≠ "java/lang/invoke/MethodHandle" ∧ yX1_takeGiven.cls ≠ "java/lang/invoke/VarHandle" ∧ (parseMethodDescriptor yX1_takeGiven.desc).map (fun d => d.parameters.length) = some 1 := by decide +kernel
def wp_X1_takeGiven (a0 : Nat) (x1 : Int32) (M : Mm) (K : Mm → Prop) : Prop := kd_ M a0 = 3 ∧ (kd_ M (rf_ M a0 0) = 20 ∧ (bz_ (it_ M a0 3) → (((it_ M a0 3) = 0 → (vp_in x1 (ln_ M (rf_ M a0 0)) ∧ (∀ M5, M5 = sI_ M (rf_ M a0 0) (ix_ x1) (0 : Int32) → (kd_ M (rf_ M a0 1) = 21 ∧ (bz_ (it_ M5 a0 3) → (((it_ M5 a0 3) = 0 → (vp_in x1 (ln_ M (rf_ M a0 1)) ∧ (∀ M10, M10 = sI_ M5 (rf_ M a0 1) (ix_ x1) (1 : Int32) → (∀ M11, M11 = sI_ M10 a0 3 (0 : Int32) → K M11)))) ∧ (¬ (it_ M5 a0 3) = 0 → (vp_in x1 (ln_ M (rf_ M a0 1)) ∧ (∀ M13, M13 = sI_ M5 (rf_ M a0 1) (ix_ x1) (0 : Int32) → (∀ M14, M14 = sI_ M13 a0 3 (0 : Int32) → K M14)))))))))) ∧ (¬ (it_ M a0 3) = 0 → (vp_in x1 (ln_ M (rf_ M a0 0)) ∧ (∀ M16, M16 = sI_ M (rf_ M a0 0) (ix_ x1) (it_ M a0 4) → (kd_ M (rf_ M a0 1) = 21 ∧ (bz_ (it_ M16 a0 3) → (((it_ M16 a0 3) = 0 → (vp_in x1 (ln_ M (rf_ M a0 1)) ∧ (∀ M21, M21 = sI_ M16 (rf_ M a0 1) (ix_ x1) (1 : Int32) → (∀ M22, M22 = sI_ M21 a0 3 (0 : Int32) → K M22)))) ∧ (¬ (it_ M16 a0 3) = 0 → (vp_in x1 (ln_ M (rf_ M a0 1)) ∧ (∀ M24, M24 = sI_ M16 (rf_ M a0 1) (ix_ x1) (0 : Int32) → (∀ M25, M25 = sI_ M24 a0 3 (0 : Int32) → K M25)))))))))))))
set_option maxHeartbeats 4000000 in
set_option maxRecDepth 100000 in
theorem mt_X1_takeGiven {l : Launch} {D : Dd_} {M : Mm} {a0 : Nat} {x1 : Int32} {K : Mm → Prop} (hw : wp_X1_takeGiven a0 x1 M K) (sz : Nat) : Met l yX1_takeGiven (Cond.code yX1_takeGiven cX1_takeGiven 2 none :: tbG_) rmX1_takeGiven (cPc_ D M sz [.ref a0, .int x1]) (va_Qv (fun M' => K M') (cB_ D M sz) (Aw_ M sz)) 0 0 (Aw_ M sz) := by
  refine ofV (by decide) (Nat.le_of_ble_eq_true rfl) ?_
  intro p e s m below meth c g hr hin hsz
  subst hsz
  obtain ⟨hk0, hw⟩ := hw
  refine r_aload_n g dX1_takeGiven_0 rfl 0 rfl ?_
  obtain ⟨hk1, hw⟩ := hw
  refine r_gtR (C := RX1) (T := TX1) (N := 5) g (ci := 2) rfl tc_X1 hk0 0 (by decide) tw_436 (fun _ h => h) rfl (k_ne hk1 (by decide)) dX1_takeGiven_1 ?_
  refine r_iload_n g dX1_takeGiven_4 rfl 1 rfl ?_
  refine r_aload_n g dX1_takeGiven_5 rfl 0 rfl ?_
  refine r_gtZ (C := RX1) (T := TX1) (N := 5) g (ci := 2) rfl tc_X1 hk0 3 (by decide) tw_451 (fun _ h => h) rfl dX1_takeGiven_6 (fun hb2 => ?_)
  have hw := hw hb2
  refine r_if_eq (tgt := 19) g dX1_takeGiven_9 (by decide) (fun hc3 => ?_) (fun hc3 => ?_)
  · have hw := hw.1 hc3
    refine r_iconst (v := 0) g dX1_takeGiven_19 (by decide) ?_
    obtain ⟨hi4, hw⟩ := hw
    refine r_iast g hk1 hi4 dX1_takeGiven_20 ?_
    have hw := hw _ rfl
    refine r_aload_n g dX1_takeGiven_21 rfl 0 rfl ?_
    obtain ⟨hk6, hw⟩ := hw
    refine r_gtR (C := RX1) (T := TX1) (N := 5) g (ci := 2) rfl tc_X1 hk0 1 (by decide) tw_442 (fun _ h => h) rfl (k_ne hk6 (by decide)) dX1_takeGiven_22 ?_
    refine r_iload_n g dX1_takeGiven_25 rfl 1 rfl ?_
    refine r_aload_n g dX1_takeGiven_26 rfl 0 rfl ?_
    refine r_gtZ (C := RX1) (T := TX1) (N := 5) g (ci := 2) rfl tc_X1 hk0 3 (by decide) tw_451 (fun _ h => h) rfl dX1_takeGiven_27 (fun hb7 => ?_)
    have hw := hw hb7
    refine r_if_ne (tgt := 37) g dX1_takeGiven_30 (by decide) (fun hc8 => ?_) (fun hc8 => ?_)
    · have hw := hw.2 hc8
      refine r_iconst (v := 0) g dX1_takeGiven_37 (by decide) ?_
      obtain ⟨hi12, hw⟩ := hw
      refine r_zast g hk6 hi12 (Or.inl rfl) dX1_takeGiven_38 ?_
      have hw := hw _ rfl
      refine r_aload_n g dX1_takeGiven_39 rfl 0 rfl ?_
      refine r_iconst (v := 0) g dX1_takeGiven_40 (by decide) ?_
      refine r_ptZ (C := RX1) (T := TX1) (N := 5) g (ci := 2) rfl tc_X1 tyX1 tyX1_ok nmX1 hk0 3 (by decide) tw_451 (fun _ h => h) rfl rfl (Or.inl rfl) (bz_n (Or.inl rfl)) (bz_f (Or.inl rfl)) dX1_takeGiven_41 ?_
      have hw := hw _ rfl
      exact r_vret g hr (Nat.le_of_ble_eq_true rfl) (Nat.le_of_ble_eq_true rfl) rfl dX1_takeGiven_44 hw
    · have hw := hw.1 hc8
      refine r_iconst (v := 1) g dX1_takeGiven_33 (by decide) ?_
      refine r_goto (tgt := 38) g dX1_takeGiven_34 (by decide) ?_
      obtain ⟨hi9, hw⟩ := hw
      refine r_zast g hk6 hi9 (Or.inr rfl) dX1_takeGiven_38 ?_
      have hw := hw _ rfl
      refine r_aload_n g dX1_takeGiven_39 rfl 0 rfl ?_
      refine r_iconst (v := 0) g dX1_takeGiven_40 (by decide) ?_
      refine r_ptZ (C := RX1) (T := TX1) (N := 5) g (ci := 2) rfl tc_X1 tyX1 tyX1_ok nmX1 hk0 3 (by decide) tw_451 (fun _ h => h) rfl rfl (Or.inl rfl) (bz_n (Or.inl rfl)) (bz_f (Or.inl rfl)) dX1_takeGiven_41 ?_
      have hw := hw _ rfl
      exact r_vret g hr (Nat.le_of_ble_eq_true rfl) (Nat.le_of_ble_eq_true rfl) rfl dX1_takeGiven_44 hw
  · have hw := hw.2 hc3
    refine r_aload_n g dX1_takeGiven_12 rfl 0 rfl ?_
    refine r_gt (C := RX1) (T := TX1) (N := 5) g (ci := 2) rfl tc_X1 hk0 4 (by decide) tw_453 (fun _ h => h) rfl dX1_takeGiven_13 ?_
    refine r_goto (tgt := 20) g dX1_takeGiven_16 (by decide) ?_
    obtain ⟨hi15, hw⟩ := hw
    refine r_iast g hk1 hi15 dX1_takeGiven_20 ?_
    have hw := hw _ rfl
    refine r_aload_n g dX1_takeGiven_21 rfl 0 rfl ?_
    obtain ⟨hk17, hw⟩ := hw
    refine r_gtR (C := RX1) (T := TX1) (N := 5) g (ci := 2) rfl tc_X1 hk0 1 (by decide) tw_442 (fun _ h => h) rfl (k_ne hk17 (by decide)) dX1_takeGiven_22 ?_
    refine r_iload_n g dX1_takeGiven_25 rfl 1 rfl ?_
    refine r_aload_n g dX1_takeGiven_26 rfl 0 rfl ?_
    refine r_gtZ (C := RX1) (T := TX1) (N := 5) g (ci := 2) rfl tc_X1 hk0 3 (by decide) tw_451 (fun _ h => h) rfl dX1_takeGiven_27 (fun hb18 => ?_)
    have hw := hw hb18
    refine r_if_ne (tgt := 37) g dX1_takeGiven_30 (by decide) (fun hc19 => ?_) (fun hc19 => ?_)
    · have hw := hw.2 hc19
      refine r_iconst (v := 0) g dX1_takeGiven_37 (by decide) ?_
      obtain ⟨hi23, hw⟩ := hw
      refine r_zast g hk17 hi23 (Or.inl rfl) dX1_takeGiven_38 ?_
      have hw := hw _ rfl
      refine r_aload_n g dX1_takeGiven_39 rfl 0 rfl ?_
      refine r_iconst (v := 0) g dX1_takeGiven_40 (by decide) ?_
      refine r_ptZ (C := RX1) (T := TX1) (N := 5) g (ci := 2) rfl tc_X1 tyX1 tyX1_ok nmX1 hk0 3 (by decide) tw_451 (fun _ h => h) rfl rfl (Or.inl rfl) (bz_n (Or.inl rfl)) (bz_f (Or.inl rfl)) dX1_takeGiven_41 ?_
      have hw := hw _ rfl
      exact r_vret g hr (Nat.le_of_ble_eq_true rfl) (Nat.le_of_ble_eq_true rfl) rfl dX1_takeGiven_44 hw
    · have hw := hw.1 hc19
      refine r_iconst (v := 1) g dX1_takeGiven_33 (by decide) ?_
      refine r_goto (tgt := 38) g dX1_takeGiven_34 (by decide) ?_
      obtain ⟨hi20, hw⟩ := hw
      refine r_zast g hk17 hi20 (Or.inr rfl) dX1_takeGiven_38 ?_
      have hw := hw _ rfl
      refine r_aload_n g dX1_takeGiven_39 rfl 0 rfl ?_
      refine r_iconst (v := 0) g dX1_takeGiven_40 (by decide) ?_
      refine r_ptZ (C := RX1) (T := TX1) (N := 5) g (ci := 2) rfl tc_X1 tyX1 tyX1_ok nmX1 hk0 3 (by decide) tw_451 (fun _ h => h) rfl rfl (Or.inl rfl) (bz_n (Or.inl rfl)) (bz_f (Or.inl rfl)) dX1_takeGiven_41 ?_
      have hw := hw _ rfl
      exact r_vret g hr (Nat.le_of_ble_eq_true rfl) (Nat.le_of_ble_eq_true rfl) rfl dX1_takeGiven_44 hw
def rmX1_put : Room := { frames := 0, cells := 0, slots := 0, locals := 0 }
theorem hy_X1_put : yX1_put.cls ≠ "java/lang/invoke/MethodHandle" ∧ yX1_put.cls ≠ "java/lang/invoke/VarHandle" ∧ (parseMethodDescriptor yX1_put.desc).map (fun d => d.parameters.length) = some 2 := by decide +kernel
def wp_X1_put (a0 : Nat) (x1 : Int32) (x2 : Int32) (M : Mm) (K : Mm → Prop) : Prop := kd_ M a0 = 3 ∧ (kd_ M (rf_ M a0 0) = 20 ∧ (vp_in x1 (ln_ M (rf_ M a0 0)) ∧ (∀ M3, M3 = sI_ M (rf_ M a0 0) (ix_ x1) x2 → (kd_ M (rf_ M a0 1) = 21 ∧ (vp_in x1 (ln_ M (rf_ M a0 1)) ∧ (∀ M6, M6 = sI_ M3 (rf_ M a0 1) (ix_ x1) (0 : Int32) → K M6))))))
set_option maxHeartbeats 4000000 in
set_option maxRecDepth 100000 in
theorem mt_X1_put {l : Launch} {D : Dd_} {M : Mm} {a0 : Nat} {x1 : Int32} {x2 : Int32} {K : Mm → Prop} (hw : wp_X1_put a0 x1 x2 M K) (sz : Nat) : Met l yX1_put (Cond.code yX1_put cX1_put 3 none :: tbG_) rmX1_put (cPc_ D M sz [.ref a0, .int x1, .int x2]) (va_Qv (fun M' => K M') (cB_ D M sz) (Aw_ M sz)) 0 0 (Aw_ M sz) := by
  refine ofV (by decide) (Nat.le_of_ble_eq_true rfl) ?_
  intro p e s m below meth c g hr hin hsz
  subst hsz
  obtain ⟨hk0, hw⟩ := hw
  refine r_aload_n g dX1_put_0 rfl 0 rfl ?_
  obtain ⟨hk1, hw⟩ := hw
  refine r_gtR (C := RX1) (T := TX1) (N := 5) g (ci := 2) rfl tc_X1 hk0 0 (by decide) tw_436 (fun _ h => h) rfl (k_ne hk1 (by decide)) dX1_put_1 ?_
  refine r_iload_n g dX1_put_4 rfl 1 rfl ?_
  refine r_iload_n g dX1_put_5 rfl 2 rfl ?_
  obtain ⟨hi2, hw⟩ := hw
  refine r_iast g hk1 hi2 dX1_put_6 ?_
  have hw := hw _ rfl
  refine r_aload_n g dX1_put_7 rfl 0 rfl ?_
  obtain ⟨hk4, hw⟩ := hw
  refine r_gtR (C := RX1) (T := TX1) (N := 5) g (ci := 2) rfl tc_X1 hk0 1 (by decide) tw_442 (fun _ h => h) rfl (k_ne hk4 (by decide)) dX1_put_8 ?_
  refine r_iload_n g dX1_put_11 rfl 1 rfl ?_
  refine r_iconst (v := 0) g dX1_put_12 (by decide) ?_
  obtain ⟨hi5, hw⟩ := hw
  refine r_zast g hk4 hi5 (Or.inl rfl) dX1_put_13 ?_
  have hw := hw _ rfl
  exact r_vret g hr (Nat.le_of_ble_eq_true rfl) (Nat.le_of_ble_eq_true rfl) rfl dX1_put_14 hw
def rmX1_copy : Room := { frames := 0, cells := 0, slots := 0, locals := 0 }
theorem hy_X1_copy : yX1_copy.cls ≠ "java/lang/invoke/MethodHandle" ∧ yX1_copy.cls ≠ "java/lang/invoke/VarHandle" ∧ (parseMethodDescriptor yX1_copy.desc).map (fun d => d.parameters.length) = some 2 := by decide +kernel
def wp_X1_copy (a0 : Nat) (x1 : Int32) (x2 : Int32) (M : Mm) (K : Mm → Prop) : Prop := kd_ M a0 = 3 ∧ (kd_ M (rf_ M a0 0) = 20 ∧ (vp_in x1 (ln_ M (rf_ M a0 0)) ∧ (vp_in x2 (ln_ M (rf_ M a0 0)) ∧ (∀ M4, M4 = sI_ M (rf_ M a0 0) (ix_ x2) (it_ M (rf_ M a0 0) (ix_ x1)) → (kd_ M (rf_ M a0 1) = 21 ∧ (vp_in x1 (ln_ M (rf_ M a0 1)) ∧ (bz_ (it_ M4 (rf_ M a0 1) (ix_ x1)) → (vp_in x2 (ln_ M (rf_ M a0 1)) ∧ (∀ M9, M9 = sI_ M4 (rf_ M a0 1) (ix_ x2) (it_ M4 (rf_ M a0 1) (ix_ x1)) → K M9)))))))))
set_option maxHeartbeats 4000000 in
set_option maxRecDepth 100000 in
theorem mt_X1_copy {l : Launch} {D : Dd_} {M : Mm} {a0 : Nat} {x1 : Int32} {x2 : Int32} {K : Mm → Prop} (hw : wp_X1_copy a0 x1 x2 M K) (sz : Nat) : Met l yX1_copy (Cond.code yX1_copy cX1_copy 3 none :: tbG_) rmX1_copy (cPc_ D M sz [.ref a0, .int x1, .int x2]) (va_Qv (fun M' => K M') (cB_ D M sz) (Aw_ M sz)) 0 0 (Aw_ M sz) := by
  refine ofV (by decide) (Nat.le_of_ble_eq_true rfl) ?_
  intro p e s m below meth c g hr hin hsz
  subst hsz
  obtain ⟨hk0, hw⟩ := hw
  refine r_aload_n g dX1_copy_0 rfl 0 rfl ?_
  obtain ⟨hk1, hw⟩ := hw
  refine r_gtR (C := RX1) (T := TX1) (N := 5) g (ci := 2) rfl tc_X1 hk0 0 (by decide) tw_436 (fun _ h => h) rfl (k_ne hk1 (by decide)) dX1_copy_1 ?_
  refine r_iload_n g dX1_copy_4 rfl 2 rfl ?_
  refine r_aload_n g dX1_copy_5 rfl 0 rfl ?_
  refine r_gtR (C := RX1) (T := TX1) (N := 5) g (ci := 2) rfl tc_X1 hk0 0 (by decide) tw_436 (fun _ h => h) rfl (k_ne hk1 (by decide)) dX1_copy_6 ?_
  refine r_iload_n g dX1_copy_9 rfl 1 rfl ?_
  obtain ⟨hi2, hw⟩ := hw
  refine r_iald g (Or.inl hk1) hi2 dX1_copy_10 ?_
  obtain ⟨hi3, hw⟩ := hw
  refine r_iast g hk1 hi3 dX1_copy_11 ?_
  have hw := hw _ rfl
  refine r_aload_n g dX1_copy_12 rfl 0 rfl ?_
  obtain ⟨hk5, hw⟩ := hw
  refine r_gtR (C := RX1) (T := TX1) (N := 5) g (ci := 2) rfl tc_X1 hk0 1 (by decide) tw_442 (fun _ h => h) rfl (k_ne hk5 (by decide)) dX1_copy_13 ?_
  refine r_iload_n g dX1_copy_16 rfl 2 rfl ?_
  refine r_aload_n g dX1_copy_17 rfl 0 rfl ?_
  refine r_gtR (C := RX1) (T := TX1) (N := 5) g (ci := 2) rfl tc_X1 hk0 1 (by decide) tw_442 (fun _ h => h) rfl (k_ne hk5 (by decide)) dX1_copy_18 ?_
  refine r_iload_n g dX1_copy_21 rfl 1 rfl ?_
  obtain ⟨hi6, hw⟩ := hw
  refine r_zald g hk5 hi6 dX1_copy_22 (fun hb7 => ?_)
  have hw := hw hb7
  obtain ⟨hi8, hw⟩ := hw
  refine r_zast g hk5 hi8 hb7 dX1_copy_23 ?_
  have hw := hw _ rfl
  exact r_vret g hr (Nat.le_of_ble_eq_true rfl) (Nat.le_of_ble_eq_true rfl) rfl dX1_copy_24 hw
def rmX1_isSame : Room := { frames := 0, cells := 0, slots := 0, locals := 0 }
theorem hy_X1_isSame : yX1_isSame.cls ≠ "java/lang/invoke/MethodHandle" ∧ yX1_isSame.cls ≠ "java/lang/invoke/VarHandle" ∧ (parseMethodDescriptor yX1_isSame.desc).map (fun d => d.parameters.length) = some 2 := by decide +kernel
def wp_X1_isSame (a0 : Nat) (x1 : Int32) (x2 : Int32) (M : Mm) (K : Mm → Int32 → Prop) : Prop := kd_ M a0 = 3 ∧ (kd_ M (rf_ M a0 1) = 21 ∧ (vp_in x1 (ln_ M (rf_ M a0 1)) ∧ (bz_ (it_ M (rf_ M a0 1) (ix_ x1)) → (vp_in x2 (ln_ M (rf_ M a0 1)) ∧ (bz_ (it_ M (rf_ M a0 1) (ix_ x2)) → (((it_ M (rf_ M a0 1) (ix_ x1)) = (it_ M (rf_ M a0 1) (ix_ x2)) → (kd_ M (rf_ M a0 0) = 20 ∧ (vp_in x1 (ln_ M (rf_ M a0 0)) ∧ (vp_in x2 (ln_ M (rf_ M a0 0)) ∧ (((it_ M (rf_ M a0 0) (ix_ x1)) = (it_ M (rf_ M a0 0) (ix_ x2)) → (K M (1 : Int32))) ∧ (¬ (it_ M (rf_ M a0 0) (ix_ x1)) = (it_ M (rf_ M a0 0) (ix_ x2)) → (K M (0 : Int32)))))))) ∧ (¬ (it_ M (rf_ M a0 1) (ix_ x1)) = (it_ M (rf_ M a0 1) (ix_ x2)) → (K M (0 : Int32)))))))))
set_option maxHeartbeats 4000000 in
set_option maxRecDepth 100000 in
theorem mt_X1_isSame {l : Launch} {D : Dd_} {M : Mm} {a0 : Nat} {x1 : Int32} {x2 : Int32} {K : Mm → Int32 → Prop} (hw : wp_X1_isSame a0 x1 x2 M K) (sz : Nat) : Met l yX1_isSame (Cond.code yX1_isSame cX1_isSame 3 (some .boolean) :: tbG_) rmX1_isSame (cPc_ D M sz [.ref a0, .int x1, .int x2]) (va_Qi (fun r M' => K M' r ∧ bz_ r) (cB_ D M sz) (Aw_ M sz)) 0 0 (Aw_ M sz) := by
  refine ofV (by decide) (Nat.le_of_ble_eq_true rfl) ?_
  intro p e s m below meth c g hr hin hsz
  subst hsz
  obtain ⟨hk0, hw⟩ := hw
  refine r_aload_n g dX1_isSame_0 rfl 0 rfl ?_
  obtain ⟨hk1, hw⟩ := hw
  refine r_gtR (C := RX1) (T := TX1) (N := 5) g (ci := 2) rfl tc_X1 hk0 1 (by decide) tw_442 (fun _ h => h) rfl (k_ne hk1 (by decide)) dX1_isSame_1 ?_
  refine r_iload_n g dX1_isSame_4 rfl 1 rfl ?_
  obtain ⟨hi2, hw⟩ := hw
  refine r_zald g hk1 hi2 dX1_isSame_5 (fun hb3 => ?_)
  have hw := hw hb3
  refine r_aload_n g dX1_isSame_6 rfl 0 rfl ?_
  refine r_gtR (C := RX1) (T := TX1) (N := 5) g (ci := 2) rfl tc_X1 hk0 1 (by decide) tw_442 (fun _ h => h) rfl (k_ne hk1 (by decide)) dX1_isSame_7 ?_
  refine r_iload_n g dX1_isSame_10 rfl 2 rfl ?_
  obtain ⟨hi4, hw⟩ := hw
  refine r_zald g hk1 hi4 dX1_isSame_11 (fun hb5 => ?_)
  have hw := hw hb5
  refine r_icmp_ne (tgt := 34) g dX1_isSame_12 (by decide) (fun hc6 => ?_) (fun hc6 => ?_)
  · have hw := hw.2 hc6
    refine r_iconst (v := 0) g dX1_isSame_34 (by decide) ?_
    exact r_zret g hr (Nat.le_of_ble_eq_true rfl) (Nat.le_of_ble_eq_true rfl) rfl (Or.inl rfl) dX1_isSame_35 hw
  · have hw := hw.1 hc6
    refine r_aload_n g dX1_isSame_15 rfl 0 rfl ?_
    obtain ⟨hk7, hw⟩ := hw
    refine r_gtR (C := RX1) (T := TX1) (N := 5) g (ci := 2) rfl tc_X1 hk0 0 (by decide) tw_436 (fun _ h => h) rfl (k_ne hk7 (by decide)) dX1_isSame_16 ?_
    refine r_iload_n g dX1_isSame_19 rfl 1 rfl ?_
    obtain ⟨hi8, hw⟩ := hw
    refine r_iald g (Or.inl hk7) hi8 dX1_isSame_20 ?_
    refine r_aload_n g dX1_isSame_21 rfl 0 rfl ?_
    refine r_gtR (C := RX1) (T := TX1) (N := 5) g (ci := 2) rfl tc_X1 hk0 0 (by decide) tw_436 (fun _ h => h) rfl (k_ne hk7 (by decide)) dX1_isSame_22 ?_
    refine r_iload_n g dX1_isSame_25 rfl 2 rfl ?_
    obtain ⟨hi9, hw⟩ := hw
    refine r_iald g (Or.inl hk7) hi9 dX1_isSame_26 ?_
    refine r_icmp_ne (tgt := 34) g dX1_isSame_27 (by decide) (fun hc10 => ?_) (fun hc10 => ?_)
    · have hw := hw.2 hc10
      refine r_iconst (v := 0) g dX1_isSame_34 (by decide) ?_
      exact r_zret g hr (Nat.le_of_ble_eq_true rfl) (Nat.le_of_ble_eq_true rfl) rfl (Or.inl rfl) dX1_isSame_35 hw
    · have hw := hw.1 hc10
      refine r_iconst (v := 1) g dX1_isSame_30 (by decide) ?_
      refine r_goto (tgt := 35) g dX1_isSame_31 (by decide) ?_
      exact r_zret g hr (Nat.le_of_ble_eq_true rfl) (Nat.le_of_ble_eq_true rfl) rfl (Or.inr rfl) dX1_isSame_35 hw
end
