theorem k_ne {a c : Nat} (h : a = c) (h0 : c ≠ 0) : a ≠ 0 := fun z => h0 (h.symm.trans z)
/-! more rows: a method's start, switches, fields by kind -/
theorem bz_n {x : Int32} (h : bz_ x) : narrow .boolean (.int x) = .int x := by rcases h with rfl | rfl <;> rfl
theorem bz_f {x : Int32} (h : bz_ x) : fits .boolean (.int x) = true := by rcases h with rfl | rfl <;> rfl
theorem ofV {l : Launch} {y : MethodName} {cc : ByteArray} {maxL : Nat} {ret : Option FieldType} {rm : Room} {D : Dd_} {M : Mm} {sz : Nat} {As : List Value} {Qc : Array Value → State → Outcome → State → Prop} {mc ms : Nat} (hy : plainName y.cls = true) (hn : (lg_sl As).length ≤ maxL)
    (body : ∀ (p : Program) (e : Env) (s : State) (m : MethodId) (below : List Frame) (meth : Method) (c : Code), G_ p s m As.toArray meth c cc maxL y.cls D M → meth.sig.returnType = ret → (y.name = "<init>" → meth.name = "<init>") → s.heap.size = sz → V_ p l e rm s m As.toArray below meth c maxL D M (MQ below Qc As.toArray s mc ms (Aw_ M sz)) 0 (lv_args 0 As) [] M 0 0) :
    Met l y (Cond.code y cc maxL ret :: tbG_) rm (cPc_ D M sz As) Qc mc ms (Aw_ M sz) := by
  refine Met.ofW (cc := cc) (maxL := maxL) (ret := ret) hy rfl ?_
  intro p e s m args below meth c s₁ B hml hv
  obtain ⟨rfl, hsz, hR0, hKn⟩ := hv
  have hts := atoms_spec (ws := Cond.code y cc maxL ret :: tbG_) B.pre
  have g : G_ p s m As.toArray meth c cc maxL y.cls D M := ⟨B.exec, B.bytes, hml, findClass_of_methodNamed B.named, fun w h => hts w (List.mem_cons_of_mem _ h), hKn, hR0, B.notSynchronized⟩
  have hl := lv_entry As (n := maxL) hn
  rw [lg_entry_eq]
  generalize (lg_sl As ++ List.replicate (maxL - (lg_sl As).length) Slot.unset).toArray = ls at hl ⊢
  exact body p e s m below meth c g B.returns (fun h => (name_of_methodNamed B.named B.method).1.trans h) hsz s.heap [] ls hR0 (Nw_.rf _ _) hl va_S.rf

theorem sw_out4_0 {x : Int32} (h0 : ¬ x = 0) (h1 : ¬ x = 1) (h2 : ¬ x = 2) (h3 : ¬ x = 3) : x.toInt < 0 ∨ 3 < x.toInt := by
  have g0 := lv_neT (a := 0) h0 (by decide)
  have g1 := lv_neT (a := 1) h1 (by decide)
  have g2 := lv_neT (a := 2) h2 (by decide)
  have g3 := lv_neT (a := 3) h3 (by decide)
  omega
theorem sw_out5_0 {x : Int32} (h0 : ¬ x = 0) (h1 : ¬ x = 1) (h2 : ¬ x = 2) (h3 : ¬ x = 3) (h4 : ¬ x = 4) : x.toInt < 0 ∨ 4 < x.toInt := by
  have g0 := lv_neT (a := 0) h0 (by decide)
  have g1 := lv_neT (a := 1) h1 (by decide)
  have g2 := lv_neT (a := 2) h2 (by decide)
  have g3 := lv_neT (a := 3) h3 (by decide)
  have g4 := lv_neT (a := 4) h4 (by decide)
  omega
theorem sw_out6_0 {x : Int32} (h0 : ¬ x = 0) (h1 : ¬ x = 1) (h2 : ¬ x = 2) (h3 : ¬ x = 3) (h4 : ¬ x = 4) (h5 : ¬ x = 5) : x.toInt < 0 ∨ 5 < x.toInt := by
  have g0 := lv_neT (a := 0) h0 (by decide)
  have g1 := lv_neT (a := 1) h1 (by decide)
  have g2 := lv_neT (a := 2) h2 (by decide)
  have g3 := lv_neT (a := 3) h3 (by decide)
  have g4 := lv_neT (a := 4) h4 (by decide)
  have g5 := lv_neT (a := 5) h5 (by decide)
  omega
theorem sw_out7_0 {x : Int32} (h0 : ¬ x = 0) (h1 : ¬ x = 1) (h2 : ¬ x = 2) (h3 : ¬ x = 3) (h4 : ¬ x = 4) (h5 : ¬ x = 5) (h6 : ¬ x = 6) : x.toInt < 0 ∨ 6 < x.toInt := by
  have g0 := lv_neT (a := 0) h0 (by decide)
  have g1 := lv_neT (a := 1) h1 (by decide)
  have g2 := lv_neT (a := 2) h2 (by decide)
  have g3 := lv_neT (a := 3) h3 (by decide)
  have g4 := lv_neT (a := 4) h4 (by decide)
  have g5 := lv_neT (a := 5) h5 (by decide)
  have g6 := lv_neT (a := 6) h6 (by decide)
  omega
theorem sw_out8_0 {x : Int32} (h0 : ¬ x = 0) (h1 : ¬ x = 1) (h2 : ¬ x = 2) (h3 : ¬ x = 3) (h4 : ¬ x = 4) (h5 : ¬ x = 5) (h6 : ¬ x = 6) (h7 : ¬ x = 7) : x.toInt < 0 ∨ 7 < x.toInt := by
  have g0 := lv_neT (a := 0) h0 (by decide)
  have g1 := lv_neT (a := 1) h1 (by decide)
  have g2 := lv_neT (a := 2) h2 (by decide)
  have g3 := lv_neT (a := 3) h3 (by decide)
  have g4 := lv_neT (a := 4) h4 (by decide)
  have g5 := lv_neT (a := 5) h5 (by decide)
  have g6 := lv_neT (a := 6) h6 (by decide)
  have g7 := lv_neT (a := 7) h7 (by decide)
  omega
theorem sw_out9_0 {x : Int32} (h0 : ¬ x = 0) (h1 : ¬ x = 1) (h2 : ¬ x = 2) (h3 : ¬ x = 3) (h4 : ¬ x = 4) (h5 : ¬ x = 5) (h6 : ¬ x = 6) (h7 : ¬ x = 7) (h8 : ¬ x = 8) : x.toInt < 0 ∨ 8 < x.toInt := by
  have g0 := lv_neT (a := 0) h0 (by decide)
  have g1 := lv_neT (a := 1) h1 (by decide)
  have g2 := lv_neT (a := 2) h2 (by decide)
  have g3 := lv_neT (a := 3) h3 (by decide)
  have g4 := lv_neT (a := 4) h4 (by decide)
  have g5 := lv_neT (a := 5) h5 (by decide)
  have g6 := lv_neT (a := 6) h6 (by decide)
  have g7 := lv_neT (a := 7) h7 (by decide)
  have g8 := lv_neT (a := 8) h8 (by decide)
  omega
theorem sw_out3_0 {x : Int32} (h0 : ¬ x = 0) (h1 : ¬ x = 1) (h2 : ¬ x = 2) : x.toInt < 0 ∨ 2 < x.toInt := by
  have g0 := lv_neT (a := 0) h0 (by decide)
  have g1 := lv_neT (a := 1) h1 (by decide)
  have g2 := lv_neT (a := 2) h2 (by decide)
  omega
section ROWS
variable {p : Program} {l : Launch} {e : Env} {R : Room} {s : State} {m : MethodId} {args : Array Value} {below : List Frame} {meth : Method} {c : Code} {cc : ByteArray} {nL : Nat} {own : String} {D : Dd_} {M0 : Mm} {Q : State → Prop}
variable {pc : Nat} {L L' : List (Nat × Value)} {S : List Value} {M : Mm} {n k : Nat}

theorem r_tsi (g : G_ p s m args meth c cc nL own D M0) {x v : Int32} {dflt lo hi : Int} {offs : Array Int} {len j tgt : Nat} (hd : decode cc pc = .ok (.tableswitch dflt lo hi offs, len)) (hx : x = v) (h1 : ¬ v.toInt < lo) (h2 : ¬ hi < v.toInt) (hj : (v.toInt - lo).toNat = j) (ho : (offs[j]?).map (fun o => (pc : Int) + o) = some (tgt : Int)) (kk : V_ p l e R s m args below meth c nL D M0 Q tgt L S M n k) : V_ p l e R s m args below meth c nL D M0 Q pc L (.int x :: S) M n k := fun H locs ls hR hN hl hS => by
  subst hx
  cases ho2 : offs[j]? with
  | none => rw [ho2] at ho; cases ho
  | some off =>
    rw [ho2] at ho
    exact lv_tableIn g.1 g.2.1 hd h1 h2 (by rw [hj]; exact ho2) (Option.some.inj ho) (kk H locs ls hR hN hl hS)
theorem r_tsd (g : G_ p s m args meth c cc nL own D M0) {x : Int32} {dflt lo hi : Int} {offs : Array Int} {len tgt : Nat} (hd : decode cc pc = .ok (.tableswitch dflt lo hi offs, len)) (hx : x.toInt < lo ∨ hi < x.toInt) (ht : (pc : Int) + dflt = (tgt : Int)) (kk : V_ p l e R s m args below meth c nL D M0 Q tgt L S M n k) : V_ p l e R s m args below meth c nL D M0 Q pc L (.int x :: S) M n k := fun H locs ls hR hN hl hS => lv_tableOut g.1 g.2.1 hd hx ht (kk H locs ls hR hN hl hS)
theorem r_gtZ (g : G_ p s m args meth c cc nL own D M0) {C ref : String} {T : u_T} {N ci a i : Nat} (hc : vwCl[ci]? = some (C, T, N)) (hin : ∀ w ∈ u_ws C T N, w ∈ tbG_) (hk : kd_ M a = ci + 1) (j : Nat) (hj : j < N) (hlink : Cond.fieldLink own i ref (T j).2.1 (T j).2.2.1 ∈ tbG_) (hsame : ∀ x, s.fieldFound? (T j).1 (T j).2.1 (T j).2.2.1 = some x → s.fieldFound? ref (T j).2.1 (T j).2.2.1 = some x) (hft : ft_ ci j = 3) (hd : decode cc pc = .ok (.getfield i, 3)) (kk : bz_ (it_ M a j) → V_ p l e R s m args below meth c nL D M0 Q (pc + 3) L (.int (it_ M a j) :: S) M n k) : V_ p l e R s m args below meth c nL D M0 Q pc L (.ref a :: S) M n k := fun H locs ls hR hN hl hS => by
  have hci : ci < 12 := (List.getElem?_eq_some_iff.mp hc).1
  have hb := (((hR.2.2.2.2 a).1.1) ci hci hk).2 j hft
  exact r_gt g hc hin hk j hj hlink hsame (v := .int (it_ M a j)) (by unfold fv_; rw [hft]; rfl) hd (kk hb) H locs ls hR hN hl hS
theorem r_gtR (g : G_ p s m args meth c cc nL own D M0) {C ref : String} {T : u_T} {N ci a i : Nat} (hc : vwCl[ci]? = some (C, T, N)) (hin : ∀ w ∈ u_ws C T N, w ∈ tbG_) (hk : kd_ M a = ci + 1) (j : Nat) (hj : j < N) (hlink : Cond.fieldLink own i ref (T j).2.1 (T j).2.2.1 ∈ tbG_) (hsame : ∀ x, s.fieldFound? (T j).1 (T j).2.1 (T j).2.2.1 = some x → s.fieldFound? ref (T j).2.1 (T j).2.2.1 = some x) (hft : ft_ ci j = 2) (hx : kd_ M (rf_ M a j) ≠ 0) (hd : decode cc pc = .ok (.getfield i, 3)) (kk : V_ p l e R s m args below meth c nL D M0 Q (pc + 3) L (.ref (rf_ M a j) :: S) M n k) : V_ p l e R s m args below meth c nL D M0 Q pc L (.ref a :: S) M n k := fun H locs ls hR hN hl hS =>
  r_gt g hc hin hk j hj hlink hsame (v := .ref (rf_ M a j)) (by unfold fv_; rw [hft, if_pos rfl]; exact rv_pos (hR.ne0 hx)) hd kk H locs ls hR hN hl hS
theorem r_ptRx (g : G_ p s m args meth c cc nL own D M0) {C ref : String} {T : u_T} {N ci a i x : Nat} (hc : vwCl[ci]? = some (C, T, N)) (hin : ∀ w ∈ u_ws C T N, w ∈ tbG_) (ty0 : Nat → FieldType) (hty : ∀ k, k < N → parseFieldDescriptor (T k).2.2.1 = some (ty0 k)) (hnm : ∀ a, a < N → ∀ b, b < N → a ≠ b → (T a).2.1 ≠ (T b).2.1) (hk : kd_ M a = ci + 1) (j : Nat) (hj : j < N) (hlink : Cond.fieldLink own i ref (T j).2.1 (T j).2.2.1 ∈ tbG_) (hsame : ∀ x, s.fieldFound? (T j).1 (T j).2.1 (T j).2.2.1 = some x → s.fieldFound? ref (T j).2.1 (T j).2.2.1 = some x) (hfin : (T j).2.2.2 = false) (hft : ft_ ci j = 2) (hx : kd_ M x ≠ 0) (hn : narrow (ty0 j) (.ref x) = .ref x) (hf : fits (ty0 j) (.ref x) = true) (hd : decode cc pc = .ok (.putfield i, 3)) (kk : V_ p l e R s m args below meth c nL D M0 Q (pc + 3) L S (sR_ M a j x) n k) : V_ p l e R s m args below meth c nL D M0 Q pc L (.ref x :: .ref a :: S) M n k := fun H locs ls hR hN hl hS =>
  r_ptR g hc hin ty0 hty hnm hk j hj hlink hsame hfin hft (hR.ne0 hx) hn hf hd kk H locs ls hR hN hl hS
theorem r_ptFx (g : G_ p s m args meth c cc nL own D M0) {C ref : String} {T : u_T} {N ci a i x : Nat} (hc : vwCl[ci]? = some (C, T, N)) (hin : ∀ w ∈ u_ws C T N, w ∈ tbG_) (ty0 : Nat → FieldType) (hty : ∀ k, k < N → parseFieldDescriptor (T k).2.2.1 = some (ty0 k)) (hnm : ∀ a, a < N → ∀ b, b < N → a ≠ b → (T a).2.1 ≠ (T b).2.1) (hk : kd_ M a = ci + 1) (j : Nat) (hj : j < N) (hlink : Cond.fieldLink own i ref (T j).2.1 (T j).2.2.1 ∈ tbG_) (hsame : ∀ x, s.fieldFound? (T j).1 (T j).2.1 (T j).2.2.1 = some x → s.fieldFound? ref (T j).2.1 (T j).2.2.1 = some x) (hfin : (T j).2.2.2 = true) (hin2 : meth.name = "<init>") (hdecl : (T j).1 = own) (hft : ft_ ci j = 2) (hx : kd_ M x ≠ 0) (hn : narrow (ty0 j) (.ref x) = .ref x) (hf : fits (ty0 j) (.ref x) = true) (hd : decode cc pc = .ok (.putfield i, 3)) (kk : V_ p l e R s m args below meth c nL D M0 Q (pc + 3) L S (sR_ M a j x) n k) : V_ p l e R s m args below meth c nL D M0 Q pc L (.ref x :: .ref a :: S) M n k := fun H locs ls hR hN hl hS =>
  r_ptF g hc hin ty0 hty hnm hk j hj hlink hsame hfin hin2 hdecl hft (hR.ne0 hx) hn hf hd kk H locs ls hR hN hl hS
end ROWS
