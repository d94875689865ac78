/-! throws: 'new E("text")' of the class ColdFrame, leaving the method -/
theorem Rp_.stat {s : State} {D : Dd_} {M : Mm} {H : Heap} {a : Nat} {cell : Cell} (h : Rp_ s D M H) (hc : H[a]? = some cell) (hs : cell.vm.isStatics = true) : ¬ Aw_ M H.size a := by
  intro hA
  rcases hA with ⟨z1, z2⟩ | z1
  · obtain ⟨⟨b1, b2, b3⟩, b4⟩ := h.2.2.2.2 a
    rcases (b4 z1).1 with ⟨y1, y2⟩ | ⟨y1, y2⟩ | ⟨y1, y2⟩
    · obtain ⟨cell2, c1, c2, c3, -⟩ := (b1 (kd_ M a - 1) (by omega) (by omega)).1
      rw [hc] at c1
      cases c1
      rw [c3] at hs
      cases hs
    · have c1 := (b2 (kd_ M a - 20) (by omega) (by omega)).1
      rw [hc] at c1
      cases c1
      cases hs
    · omega
  · have := (Array.getElem?_eq_some_iff.mp hc).1
    omega
theorem Rp_.zq {s : State} {D : Dd_} {M : Mm} {H : Heap} {C n d : String} (hR : Rp_ s D M H) (h : vx_Zq C n d (fun _ => False) s H) : vx_Zq C n d (Aw_ M H.size) s H := by
  have hz : ∀ v : Value, va_Z C n d v (fun _ => False) s H → va_Z C n d v (Aw_ M H.size) s H := by
    intro v h
    obtain ⟨cf, kf, fi, f, a, cell, g1, g2, g3, g4, g5, g6, g7, g8⟩ := h
    exact ⟨cf, kf, fi, f, a, cell, g1, g2, g3, g4, g5, g6, g7, hR.stat g5 g6⟩
  refine ⟨?_, ?_⟩
  · rcases h.1 with h1 | ⟨t, h1⟩
    · exact Or.inl (hz _ h1)
    · exact Or.inr ⟨t, hz _ h1⟩
  · obtain ⟨c, k, i, f, a, cell, g1, g2, g3, g4, g5, g6, g7, g8, g9, g10⟩ := h.2
    exact ⟨c, k, i, f, a, cell, g1, g2, g3, g4, g5, g6, g7, g8, g9, hR.stat g5 g6⟩
theorem Rp_.grow {s : State} {D : Dd_} {M : Mm} {H H' : Heap} (h : Rp_ s D M H) (hz : H.size ≤ H'.size) (oq : ∀ q : Nat, q < H.size → H'[q]? = H[q]?) : Rp_ s D M H' := by
  obtain ⟨h1, h2, h3, h4, h5⟩ := id h
  refine ⟨by omega, h2, h3, h4.kept (fun q cell hc _ => oq q (Array.getElem?_eq_some_iff.mp hc).1), fun b => ⟨?_, (h5 b).2⟩⟩
  obtain ⟨⟨g1, g2, g3⟩, -⟩ := h5 b
  refine ⟨fun ci hci hk => ?_, fun t ht hk => ?_, fun t ht hk => ?_⟩
  · have hlt := h.lt (a := b) (by omega)
    obtain ⟨q1, q2⟩ := g1 ci hci hk
    exact ⟨q1.kept (oq b hlt), q2⟩
  · have hlt := h.lt (a := b) (by omega)
    obtain ⟨q1, q2⟩ := g2 t ht hk
    exact ⟨by rw [oq b hlt]; exact q1, q2⟩
  · have hlt := h.lt (a := b) (by omega)
    obtain ⟨cell, q1, q2⟩ := g3 t ht hk
    exact ⟨cell, by rw [oq b hlt]; exact q1, q2⟩
set_option maxRecDepth 100000 in
theorem thr0_in : ∀ w ∈ (vx_atS "ColdFrame" 148 "java/lang/IndexOutOfBoundsException" ["java/lang/RuntimeException", "java/lang/Exception"]).filter goodWord, w ∈ tbG_ := fun w h => tb_in ((show ∀ w ∈ (vx_atS "ColdFrame" 148 "java/lang/IndexOutOfBoundsException" ["java/lang/RuntimeException", "java/lang/Exception"]).filter goodWord, w ∈ lw_tbl by decide +kernel) w h) (List.mem_filter.mp h).2
theorem thr0_bad : ∀ w ∈ (vx_atS "ColdFrame" 148 "java/lang/IndexOutOfBoundsException" ["java/lang/RuntimeException", "java/lang/Exception"]).filter (fun w => !goodWord w), w ∈ Cond.castable "java/lang/IndexOutOfBoundsException" "java/lang/IndexOutOfBoundsException" :: dd_.map Cond.declares := by decide +kernel
theorem thr0_gd : ∀ w ∈ Cond.classLink "ColdFrame" 144 "java/lang/IndexOutOfBoundsException" :: Cond.initialized "java/lang/IndexOutOfBoundsException" :: vx_atS "ColdFrame" 148 "java/lang/IndexOutOfBoundsException" ["java/lang/RuntimeException", "java/lang/Exception"], vx_ot w = true := by decide +kernel
set_option maxRecDepth 100000 in
theorem thr1_in : ∀ w ∈ (vx_atS "ColdFrame" 51 "java/lang/IllegalStateException" ["java/lang/RuntimeException", "java/lang/Exception"]).filter goodWord, w ∈ tbG_ := fun w h => tb_in ((show ∀ w ∈ (vx_atS "ColdFrame" 51 "java/lang/IllegalStateException" ["java/lang/RuntimeException", "java/lang/Exception"]).filter goodWord, w ∈ lw_tbl by decide +kernel) w h) (List.mem_filter.mp h).2
theorem thr1_bad : ∀ w ∈ (vx_atS "ColdFrame" 51 "java/lang/IllegalStateException" ["java/lang/RuntimeException", "java/lang/Exception"]).filter (fun w => !goodWord w), w ∈ Cond.castable "java/lang/IllegalStateException" "java/lang/IllegalStateException" :: dd_.map Cond.declares := by decide +kernel
theorem thr1_gd : ∀ w ∈ Cond.classLink "ColdFrame" 47 "java/lang/IllegalStateException" :: Cond.initialized "java/lang/IllegalStateException" :: vx_atS "ColdFrame" 51 "java/lang/IllegalStateException" ["java/lang/RuntimeException", "java/lang/Exception"], vx_ot w = true := by decide +kernel
theorem r_throw0 {p : Program} {l : Launch} {e : Env} {R : Room} {s : State} {m : MethodId} {args : Array Value} {below : List Frame} {meth : Method} {c : Code} {cc : ByteArray} {nL : Nat} {own : String} {D : Dd_} {M0 : Mm} {Q : State → Prop} {pc : Nat} {L : List (Nat × Value)} {S : List Value} {M : Mm} {n k : Nat} (hfl : l.stackTraces = false) (g : G_ p s m args meth c cc nL own D M0) (hown : own = "ColdFrame") {is : Nat} {text : String} (hstr : ("ColdFrame", is, text) ∈ ss_) {mc ms : Nat} {Qc : Array Value → State → Outcome → State → Prop} {X : Nat → Mm → Prop} (wk : Cond.classLink "ColdFrame" 144 "java/lang/IndexOutOfBoundsException" ∈ tbG_) (wi : Cond.initialized "java/lang/IndexOutOfBoundsException" ∈ tbG_)
    (d0 : decode cc pc = .ok (.new 144, 3)) (d3 : decode cc (pc + 3) = .ok (.dup, 1)) (d4 : decode cc (pc + 4) = .ok (.ldc is, 2)) (d6 : decode cc (pc + 6) = .ok (.invokespecial 148, 3)) (d9 : decode cc (pc + 9) = .ok (.athrow, 1)) (hto : ∀ x ∈ c.exceptionTable.toList, False) (hf : 6 ≤ R.frames) (hlo : (S.map fun v => v.category).sum + 82 ≤ R.locals) (hc1 : n + 1 ≤ R.cells) (hs1 : k + 6 ≤ R.slots) (hc : n + 1 ≤ mc) (hs : k + 6 ≤ ms) (hQ : Q = vx_MQ below Qc (XC_ D M0 s.heap.size X) args s mc ms (Aw_ M0 s.heap.size)) (hX : X 0 M) : V_ p l e R s m args below meth c nL D M0 Q pc L S M n k := fun H locs ls hR hN hl hS => by
  subst hown
  subst hQ
  obtain ⟨gx, gb, gml, go, gt, gK, gR, glk⟩ := g
  obtain ⟨sa, hsa⟩ := gK.2.2.2.2.2.2.1 _ hstr
  exact vx_throwS (text := text) (names := ["java/lang/RuntimeException", "java/lang/Exception"]) gx gb hfl go (by decide +kernel) (by decide +kernel) (gt _ wk) (gt _ wi) hsa (vx_hat (fun w h => gt w (thr0_in w h)) thr0_bad (vx_c (va_Nw.use rfl (gK.2.2.1 _ tx_692)) (fun w hw => by obtain ⟨y, hy, rfl⟩ := List.mem_map.mp hw; exact va_Nw.use rfl (gK.2.2.2.2.2.2.2 y hy)))) thr0_gd (gR.zq gR.2.2.2.1.2.1) (gR.zq gR.2.2.2.1.2.2) hS (gml ▸ hl.1) d0 d3 d4 d6 d9 (fun x hx => (hto x hx).elim) hf hlo hc1 hs1 glk
    (fun t hvm hz hq => ⟨M, trivial, ⟨Or.inl ⟨rfl, hX⟩, (hR.grow hz hq).moved hvm, hN⟩, Nat.le_trans hS.1 hz, fun q z1 z2 => (hq q (Nat.lt_of_lt_of_le z1 hS.1)).trans (hS.2.1 q z1 z2)⟩) hS.2.2 hc hs
theorem r_throw1 {p : Program} {l : Launch} {e : Env} {R : Room} {s : State} {m : MethodId} {args : Array Value} {below : List Frame} {meth : Method} {c : Code} {cc : ByteArray} {nL : Nat} {own : String} {D : Dd_} {M0 : Mm} {Q : State → Prop} {pc : Nat} {L : List (Nat × Value)} {S : List Value} {M : Mm} {n k : Nat} (hfl : l.stackTraces = false) (g : G_ p s m args meth c cc nL own D M0) (hown : own = "ColdFrame") {is : Nat} {text : String} (hstr : ("ColdFrame", is, text) ∈ ss_) {mc ms : Nat} {Qc : Array Value → State → Outcome → State → Prop} {X : Nat → Mm → Prop} (wk : Cond.classLink "ColdFrame" 47 "java/lang/IllegalStateException" ∈ tbG_) (wi : Cond.initialized "java/lang/IllegalStateException" ∈ tbG_)
    (d0 : decode cc pc = .ok (.new 47, 3)) (d3 : decode cc (pc + 3) = .ok (.dup, 1)) (d4 : decode cc (pc + 4) = .ok (.ldc is, 2)) (d6 : decode cc (pc + 6) = .ok (.invokespecial 51, 3)) (d9 : decode cc (pc + 9) = .ok (.athrow, 1)) (hto : ∀ x ∈ c.exceptionTable.toList, False) (hf : 6 ≤ R.frames) (hlo : (S.map fun v => v.category).sum + 82 ≤ R.locals) (hc1 : n + 1 ≤ R.cells) (hs1 : k + 6 ≤ R.slots) (hc : n + 1 ≤ mc) (hs : k + 6 ≤ ms) (hQ : Q = vx_MQ below Qc (XC_ D M0 s.heap.size X) args s mc ms (Aw_ M0 s.heap.size)) (hX : X 1 M) : V_ p l e R s m args below meth c nL D M0 Q pc L S M n k := fun H locs ls hR hN hl hS => by
  subst hown
  subst hQ
  obtain ⟨gx, gb, gml, go, gt, gK, gR, glk⟩ := g
  obtain ⟨sa, hsa⟩ := gK.2.2.2.2.2.2.1 _ hstr
  exact vx_throwS (text := text) (names := ["java/lang/RuntimeException", "java/lang/Exception"]) gx gb hfl go (by decide +kernel) (by decide +kernel) (gt _ wk) (gt _ wi) hsa (vx_hat (fun w h => gt w (thr1_in w h)) thr1_bad (vx_c (va_Nw.use rfl (gK.2.2.1 _ tx_363)) (fun w hw => by obtain ⟨y, hy, rfl⟩ := List.mem_map.mp hw; exact va_Nw.use rfl (gK.2.2.2.2.2.2.2 y hy)))) thr1_gd (gR.zq gR.2.2.2.1.2.1) (gR.zq gR.2.2.2.1.2.2) hS (gml ▸ hl.1) d0 d3 d4 d6 d9 (fun x hx => (hto x hx).elim) hf hlo hc1 hs1 glk
    (fun t hvm hz hq => ⟨M, trivial, ⟨Or.inr ⟨rfl, hX⟩, (hR.grow hz hq).moved hvm, hN⟩, Nat.le_trans hS.1 hz, fun q z1 z2 => (hq q (Nat.lt_of_lt_of_le z1 hS.1)).trans (hS.2.1 q z1 z2)⟩) hS.2.2 hc hs
theorem r_throwW0 {p : Program} {l : Launch} {e : Env} {R : Room} {s : State} {m : MethodId} {args : Array Value} {below : List Frame} {meth : Method} {c : Code} {cc : ByteArray} {nL : Nat} {own : String} {D : Dd_} {M0 : Mm} {Q : State → Prop} {pc : Nat} {L : List (Nat × Value)} {S : List Value} {M : Mm} {n k : Nat} (hfl : l.stackTraces = false) (g : G_ p s m args meth c cc nL own D M0) (hown : own = "ColdFrame") {is : Nat} {text : String} (hstr : ("ColdFrame", is, text) ∈ ss_) {mc ms : Nat} {Qc : Array Value → State → Outcome → State → Prop} {X : Nat → Mm → Prop} (wk : Cond.classLink "ColdFrame" 144 "java/lang/IndexOutOfBoundsException" ∈ tbG_) (wi : Cond.initialized "java/lang/IndexOutOfBoundsException" ∈ tbG_)
    (d0 : decode cc pc = .ok (.new 144, 3)) (d3 : decode cc (pc + 3) = .ok (.dup, 1)) (d4 : decode cc (pc + 4) = .ok (.ldc_w is, 3)) (d6 : decode cc (pc + 7) = .ok (.invokespecial 148, 3)) (d9 : decode cc (pc + 10) = .ok (.athrow, 1)) (hto : ∀ x ∈ c.exceptionTable.toList, False) (hf : 6 ≤ R.frames) (hlo : (S.map fun v => v.category).sum + 82 ≤ R.locals) (hc1 : n + 1 ≤ R.cells) (hs1 : k + 6 ≤ R.slots) (hc : n + 1 ≤ mc) (hs : k + 6 ≤ ms) (hQ : Q = vx_MQ below Qc (XC_ D M0 s.heap.size X) args s mc ms (Aw_ M0 s.heap.size)) (hX : X 0 M) : V_ p l e R s m args below meth c nL D M0 Q pc L S M n k := fun H locs ls hR hN hl hS => by
  subst hown
  subst hQ
  obtain ⟨gx, gb, gml, go, gt, gK, gR, glk⟩ := g
  obtain ⟨sa, hsa⟩ := gK.2.2.2.2.2.2.1 _ hstr
  exact vx_throwSW (text := text) (names := ["java/lang/RuntimeException", "java/lang/Exception"]) gx gb hfl go (by decide +kernel) (by decide +kernel) (gt _ wk) (gt _ wi) hsa (vx_hat (fun w h => gt w (thr0_in w h)) thr0_bad (vx_c (va_Nw.use rfl (gK.2.2.1 _ tx_692)) (fun w hw => by obtain ⟨y, hy, rfl⟩ := List.mem_map.mp hw; exact va_Nw.use rfl (gK.2.2.2.2.2.2.2 y hy)))) thr0_gd (gR.zq gR.2.2.2.1.2.1) (gR.zq gR.2.2.2.1.2.2) hS (gml ▸ hl.1) d0 d3 d4 d6 d9 (fun x hx => (hto x hx).elim) hf hlo hc1 hs1 glk
    (fun t hvm hz hq => ⟨M, trivial, ⟨Or.inl ⟨rfl, hX⟩, (hR.grow hz hq).moved hvm, hN⟩, Nat.le_trans hS.1 hz, fun q z1 z2 => (hq q (Nat.lt_of_lt_of_le z1 hS.1)).trans (hS.2.1 q z1 z2)⟩) hS.2.2 hc hs
theorem r_throwW1 {p : Program} {l : Launch} {e : Env} {R : Room} {s : State} {m : MethodId} {args : Array Value} {below : List Frame} {meth : Method} {c : Code} {cc : ByteArray} {nL : Nat} {own : String} {D : Dd_} {M0 : Mm} {Q : State → Prop} {pc : Nat} {L : List (Nat × Value)} {S : List Value} {M : Mm} {n k : Nat} (hfl : l.stackTraces = false) (g : G_ p s m args meth c cc nL own D M0) (hown : own = "ColdFrame") {is : Nat} {text : String} (hstr : ("ColdFrame", is, text) ∈ ss_) {mc ms : Nat} {Qc : Array Value → State → Outcome → State → Prop} {X : Nat → Mm → Prop} (wk : Cond.classLink "ColdFrame" 47 "java/lang/IllegalStateException" ∈ tbG_) (wi : Cond.initialized "java/lang/IllegalStateException" ∈ tbG_)
    (d0 : decode cc pc = .ok (.new 47, 3)) (d3 : decode cc (pc + 3) = .ok (.dup, 1)) (d4 : decode cc (pc + 4) = .ok (.ldc_w is, 3)) (d6 : decode cc (pc + 7) = .ok (.invokespecial 51, 3)) (d9 : decode cc (pc + 10) = .ok (.athrow, 1)) (hto : ∀ x ∈ c.exceptionTable.toList, False) (hf : 6 ≤ R.frames) (hlo : (S.map fun v => v.category).sum + 82 ≤ R.locals) (hc1 : n + 1 ≤ R.cells) (hs1 : k + 6 ≤ R.slots) (hc : n + 1 ≤ mc) (hs : k + 6 ≤ ms) (hQ : Q = vx_MQ below Qc (XC_ D M0 s.heap.size X) args s mc ms (Aw_ M0 s.heap.size)) (hX : X 1 M) : V_ p l e R s m args below meth c nL D M0 Q pc L S M n k := fun H locs ls hR hN hl hS => by
  subst hown
  subst hQ
  obtain ⟨gx, gb, gml, go, gt, gK, gR, glk⟩ := g
  obtain ⟨sa, hsa⟩ := gK.2.2.2.2.2.2.1 _ hstr
  exact vx_throwSW (text := text) (names := ["java/lang/RuntimeException", "java/lang/Exception"]) gx gb hfl go (by decide +kernel) (by decide +kernel) (gt _ wk) (gt _ wi) hsa (vx_hat (fun w h => gt w (thr1_in w h)) thr1_bad (vx_c (va_Nw.use rfl (gK.2.2.1 _ tx_363)) (fun w hw => by obtain ⟨y, hy, rfl⟩ := List.mem_map.mp hw; exact va_Nw.use rfl (gK.2.2.2.2.2.2.2 y hy)))) thr1_gd (gR.zq gR.2.2.2.1.2.1) (gR.zq gR.2.2.2.1.2.2) hS (gml ▸ hl.1) d0 d3 d4 d6 d9 (fun x hx => (hto x hx).elim) hf hlo hc1 hs1 glk
    (fun t hvm hz hq => ⟨M, trivial, ⟨Or.inr ⟨rfl, hX⟩, (hR.grow hz hq).moved hvm, hN⟩, Nat.le_trans hS.1 hz, fun q z1 z2 => (hq q (Nat.lt_of_lt_of_le z1 hS.1)).trans (hS.2.1 q z1 z2)⟩) hS.2.2 hc hs
