/-! new cells, casts, library members, calls, ends: rows of V_ -/
def dv_ (ci k : Nat) : Value := if ft_ ci k = 2 then .null else if ft_ ci k = 1 then .long 0 else .int 0
theorem fv_new (M : Mm) (q c n ci k : Nat) : fv_ (nw_ M q c n) ci q k = dv_ ci k := by
  unfold fv_ dv_ nw_ rf_ it_ lg_ rw2_
  simp [rv_, nz_]
theorem av_R {M : Mm} {t a j : Nat} (h : 3 ≤ t) : av_ M t a j = rv_ M (rf_ M a j) := by
  unfold av_
  rw [if_neg (by omega), if_neg (by omega)]
/-- a call's start, its world -/
abbrev cPc_ (D : Dd_) (M : Mm) (sz : Nat) (As : List Value) : Array Value → State → Prop := va_Pc As (fun U => U.heap.size = sz ∧ Rp_ U D M U.heap ∧ Kn_ D U)
abbrev cB_ (D : Dd_) (M : Mm) (sz : Nat) : Mm → State → Prop := fun M' t => Rp_ t D M' t.heap ∧ Nw_ M sz M'
theorem cPc_blind (D : Dd_) (M : Mm) (sz : Nat) (As : List Value) : FrameBlind (cPc_ D M sz As) := fun a U g mk h => by
  obtain ⟨h1, h2, h3, h4⟩ := h
  exact ⟨h1, h2, Rp_.moved (u := U) (U := U.calling g mk a) (Vm.Alike.refl U.vm) h3, Kn_.same (u := U) (U := U.calling g mk a) rfl h4⟩

section ROWS
variable {p : Program} {l : Launch} {e : Env} {R : Room} {s : State} {m : MethodId} {args : Array Value} {below : List Frame} {meth : Method} {c : Code} {cc : ByteArray} {nL : Nat} {own : String} {D : Dd_} {M0 : Mm} {Q : State → Prop}
variable {pc : Nat} {L L' : List (Nat × Value)} {S : List Value} {M : Mm} {n k : Nat}

theorem r_oinit (g : G_ p s m args meth c cc nL own D M0) {i a : Nat} (w1 : Cond.methodLink own i objectInit ∈ tbG_) (w2 : Cond.instanceMethod objectInit ∈ tbG_) (w3 : Cond.code objectInit ⟨#[0xb1]⟩ 1 none ∈ tbG_) (hd : decode cc pc = .ok (.invokespecial i, 3)) (hf : 1 ≤ R.frames) (hlo : (S.map fun v => v.category).sum + 12 ≤ R.locals) (kk : V_ p l e R s m args below meth c nL D M0 Q (pc + 3) L S M n k) : V_ p l e R s m args below meth c nL D M0 Q pc L (.ref a :: S) M n k := fun H locs ls hR hN hl hS => by
  obtain ⟨gx, gb, gml, go, gt, -⟩ := g
  exact W.objInit gx gb go (gt _ w1) (gt _ w2) (gt _ w3) rfl (by rw [gml]; exact hl.1) rfl hd hf (by show 2 * 0 + _ + 12 ≤ _; omega) (kk H locs ls hR hN hl hS)
theorem r_new (g : G_ p s m args meth c cc nL own D M0) {C : String} {T : u_T} {N ci i : Nat} (hc : vwCl[ci]? = some (C, T, N)) (hin : ∀ w ∈ u_ws C T N, w ∈ tbG_) (ty0 : Nat → FieldType) (hty : ∀ k, k < N → parseFieldDescriptor (T k).2.2.1 = some (ty0 k)) (w1 : Cond.classLink own i C ∈ tbG_) (w2 : Cond.instantiable C N ∈ tbG_) (w3 : Cond.initialized C ∈ tbG_) (hdv : ∀ j, j < N → defaultValue (ty0 j) = dv_ ci j) (h1 : n + 1 ≤ R.cells) (h2 : k + N ≤ R.slots) (hd : decode cc pc = .ok (.new i, 3))
    (kk : ∀ q, q ≠ 0 → kd_ M q = 0 → V_ p l e R s m args below meth c nL D M0 Q (pc + 3) L (.ref q :: S) (nw_ M q (ci + 1) 0) (n + 1) (k + N)) : V_ p l e R s m args below meth c nL D M0 Q pc L S M n k := fun H locs ls hR hN hl hS => by
  obtain ⟨gx, gb, -, go, gt, gK, -⟩ := g
  have hci : ci < 12 := (List.getElem?_eq_some_iff.mp hc).1
  have hnf : nf_ ci = N := by unfold nf_; rw [hc]
  have hKn := gK.cls hc
  have hq0 : kd_ M H.size = 0 := hR.fresh (Nat.le_refl _)
  refine W.newcK gx gb go (gt _ w1) (gt _ w2) (gt _ w3) rfl hd h1 h2 hKn.2.1 rfl fun H' kC hkC e1 e2 e3 => ?_
  refine kk H.size (by have := hR.1; omega) hq0 H' locs ls (hR.push rfl e2 e3 (Or.inl ⟨by omega, by omega⟩) (by omega) ⟨?_, ?_⟩) (hN.push hS.1 hq0) hl ⟨Nat.le_trans hS.1 (by omega), fun x z1 z2 => (e3 x (Nat.lt_of_lt_of_le z1 hS.1)).trans (hS.2.1 x z1 z2), hS.2.2⟩
  · intro ci' hci' hk'
    rw [kd_nq_] at hk'
    have hcc : ci' = ci := by omega
    subst hcc
    rw [hnf]
    refine ⟨(u_born ty0 gt hin hKn hkC e1 hty).to (fun j hj => by rw [fv_new]; exact hdv j hj), fun z _ => Or.inl ?_⟩
    show rw2_ M.2.2.1 H.size (fun _ => 0) H.size z = 0
    exact if_pos rfl
  · intro t ht hk'
    rw [kd_nq_] at hk'
    omega
theorem r_newI (g : G_ p s m args meth c cc nL own D M0) {x : Int32} (w1 : Cond.arrayClass .int ∈ tbG_) (hx : ¬ x < 0) (hxb : ix_ x ≤ 65536) (h1 : n + 1 ≤ R.cells) (h2 : k + ix_ x ≤ R.slots) (hd : decode cc pc = .ok (.newarray .int, 2))
    (kk : ∀ q, q ≠ 0 → kd_ M q = 0 → V_ p l e R s m args below meth c nL D M0 Q (pc + 2) L (.ref q :: S) (nw_ M q 20 (ix_ x)) (n + 1) (k + ix_ x)) : V_ p l e R s m args below meth c nL D M0 Q pc L (.int x :: S) M n k := fun H locs ls hR hN hl hS => by
  obtain ⟨gx, gb, -, go, gt, gK, -⟩ := g
  have hq0 : kd_ M H.size = 0 := hR.fresh (Nat.le_refl _)
  refine va_newaK (atype := .int) gx gb (gt _ w1) rfl hd rfl hx rfl (by show ix_ x * _ ≤ _; have : componentBytes (newarray.typeOf .int) ≤ 8 := (by decide); exact Nat.le_trans (Nat.mul_le_mul hxb this) (by decide)) h1 h2 rfl fun H' cA e1 e2 e3 hAr hNm => ?_
  have hcA : cA = D.2.1 0 := by
    have h9 : s.vm.findClass ("[" ++ (FieldType.int).toString) = some (D.2.1 0) := (gK.2.1 0 (by decide)).2
    exact Option.some.inj (hNm.symm.trans h9)
  subst hcA
  refine kk H.size (by have := hR.1; omega) hq0 H' locs ls (hR.push rfl e2 e3 (Or.inr (Or.inl ⟨by decide, by decide⟩)) (by decide) ⟨?_, ?_⟩) (hN.push hS.1 hq0) hl ⟨Nat.le_trans hS.1 (by omega), fun z z1 z2 => (e3 z (Nat.lt_of_lt_of_le z1 hS.1)).trans (hS.2.1 z z1 z2), hS.2.2⟩
  · intro ci' hci' hk'
    rw [kd_nq_] at hk'
    omega
  · intro t ht hk'
    rw [kd_nq_] at hk'
    have htt : t = 0 := by omega
    subst htt
    refine ⟨?_, fun z j hj => Or.inl (if_pos rfl)⟩
    rw [ln_nq_]
    refine e1.trans ?_
    congr 2
    funext j
    simp [av_, it_, lg_, nw_, rw2_, defaultValue, newarray.typeOf]
theorem r_newZ (g : G_ p s m args meth c cc nL own D M0) {x : Int32} (w1 : Cond.arrayClass .boolean ∈ tbG_) (hx : ¬ x < 0) (hxb : ix_ x ≤ 65536) (h1 : n + 1 ≤ R.cells) (h2 : k + ix_ x ≤ R.slots) (hd : decode cc pc = .ok (.newarray .boolean, 2))
    (kk : ∀ q, q ≠ 0 → kd_ M q = 0 → V_ p l e R s m args below meth c nL D M0 Q (pc + 2) L (.ref q :: S) (nw_ M q 21 (ix_ x)) (n + 1) (k + ix_ x)) : V_ p l e R s m args below meth c nL D M0 Q pc L (.int x :: S) M n k := fun H locs ls hR hN hl hS => by
  obtain ⟨gx, gb, -, go, gt, gK, -⟩ := g
  have hq0 : kd_ M H.size = 0 := hR.fresh (Nat.le_refl _)
  refine va_newaK (atype := .boolean) gx gb (gt _ w1) rfl hd rfl hx rfl (by show ix_ x * _ ≤ _; have : componentBytes (newarray.typeOf .boolean) ≤ 8 := (by decide); exact Nat.le_trans (Nat.mul_le_mul hxb this) (by decide)) h1 h2 rfl fun H' cA e1 e2 e3 hAr hNm => ?_
  have hcA : cA = D.2.1 1 := by
    have h9 : s.vm.findClass ("[" ++ (FieldType.boolean).toString) = some (D.2.1 1) := (gK.2.1 1 (by decide)).2
    exact Option.some.inj (hNm.symm.trans h9)
  subst hcA
  refine kk H.size (by have := hR.1; omega) hq0 H' locs ls (hR.push rfl e2 e3 (Or.inr (Or.inl ⟨by decide, by decide⟩)) (by decide) ⟨?_, ?_⟩) (hN.push hS.1 hq0) hl ⟨Nat.le_trans hS.1 (by omega), fun z z1 z2 => (e3 z (Nat.lt_of_lt_of_le z1 hS.1)).trans (hS.2.1 z z1 z2), hS.2.2⟩
  · intro ci' hci' hk'
    rw [kd_nq_] at hk'
    omega
  · intro t ht hk'
    rw [kd_nq_] at hk'
    have htt : t = 1 := by omega
    subst htt
    refine ⟨?_, fun z j hj => Or.inl (if_pos rfl)⟩
    rw [ln_nq_]
    refine e1.trans ?_
    congr 2
    funext j
    simp [av_, it_, lg_, nw_, rw2_, defaultValue, newarray.typeOf]
theorem r_newJ (g : G_ p s m args meth c cc nL own D M0) {x : Int32} (w1 : Cond.arrayClass .long ∈ tbG_) (hx : ¬ x < 0) (hxb : ix_ x ≤ 65536) (h1 : n + 1 ≤ R.cells) (h2 : k + ix_ x ≤ R.slots) (hd : decode cc pc = .ok (.newarray .long, 2))
    (kk : ∀ q, q ≠ 0 → kd_ M q = 0 → V_ p l e R s m args below meth c nL D M0 Q (pc + 2) L (.ref q :: S) (nw_ M q 22 (ix_ x)) (n + 1) (k + ix_ x)) : V_ p l e R s m args below meth c nL D M0 Q pc L (.int x :: S) M n k := fun H locs ls hR hN hl hS => by
  obtain ⟨gx, gb, -, go, gt, gK, -⟩ := g
  have hq0 : kd_ M H.size = 0 := hR.fresh (Nat.le_refl _)
  refine va_newaK (atype := .long) gx gb (gt _ w1) rfl hd rfl hx rfl (by show ix_ x * _ ≤ _; have : componentBytes (newarray.typeOf .long) ≤ 8 := (by decide); exact Nat.le_trans (Nat.mul_le_mul hxb this) (by decide)) h1 h2 rfl fun H' cA e1 e2 e3 hAr hNm => ?_
  have hcA : cA = D.2.1 2 := by
    have h9 : s.vm.findClass ("[" ++ (FieldType.long).toString) = some (D.2.1 2) := (gK.2.1 2 (by decide)).2
    exact Option.some.inj (hNm.symm.trans h9)
  subst hcA
  refine kk H.size (by have := hR.1; omega) hq0 H' locs ls (hR.push rfl e2 e3 (Or.inr (Or.inl ⟨by decide, by decide⟩)) (by decide) ⟨?_, ?_⟩) (hN.push hS.1 hq0) hl ⟨Nat.le_trans hS.1 (by omega), fun z z1 z2 => (e3 z (Nat.lt_of_lt_of_le z1 hS.1)).trans (hS.2.1 z z1 z2), hS.2.2⟩
  · intro ci' hci' hk'
    rw [kd_nq_] at hk'
    omega
  · intro t ht hk'
    rw [kd_nq_] at hk'
    have htt : t = 2 := by omega
    subst htt
    refine ⟨?_, fun z j hj => Or.inl (if_pos rfl)⟩
    rw [ln_nq_]
    refine e1.trans ?_
    congr 2
    funext j
    simp [av_, it_, lg_, nw_, rw2_, defaultValue, newarray.typeOf]
theorem r_newR (g : G_ p s m args meth c cc nL own D M0) {x : Int32} {C : String} {t i : Nat} (h3 : 3 ≤ t) (ht : t < 7) (hC : ty_ t = .object C) (w1 : Cond.classLink own i C ∈ tbG_) (w2 : Cond.arrayOver (.object C) ∈ xw_) (hx : ¬ x < 0) (hxb : ix_ x ≤ 65536) (h1 : n + 1 ≤ R.cells) (h2 : k + ix_ x ≤ R.slots) (hd : decode cc pc = .ok (.anewarray i, 3))
    (kk : ∀ q, q ≠ 0 → kd_ M q = 0 → V_ p l e R s m args below meth c nL D M0 Q (pc + 3) L (.ref q :: S) (nw_ M q (20 + t) (ix_ x)) (n + 1) (k + ix_ x)) : V_ p l e R s m args below meth c nL D M0 Q pc L (.int x :: S) M n k := fun H locs ls hR hN hl hS => by
  obtain ⟨gx, gb, -, go, gt, gK, -⟩ := g
  have hq0 : kd_ M H.size = 0 := hR.fresh (Nat.le_refl _)
  refine W.anew gx gb go (gt _ w1) (va_AO.use (gK.2.2.1 _ w2)) rfl hd rfl hx (by show ix_ x * 4 ≤ _; exact Nat.le_trans (Nat.mul_le_mul_right 4 hxb) (by decide)) h1 h2 fun cA kA comp f1 f2 f3 f4 => ?_
  generalize hH1 : H.push ({ cls := cA, slots := Array.replicate x.toNatClampNeg .null, vm := .none } : Cell) = H1
  have e2 : H1.size = H.size + 1 := by rw [← hH1, Array.size_push]
  have e1 : H1[H.size]? = some (arrV cA x.toNatClampNeg (fun _ => .null)) := by rw [← hH1, Array.getElem?_push_size, ← arrV_new]
  have e3 : ∀ q : Nat, q < H.size → H1[q]? = H[q]? := fun q hq => by rw [← hH1, Array.getElem?_push, if_neg (Nat.ne_of_lt hq)]
  have hcA : cA = D.2.1 t := by
    have h9 := (gK.2.1 t ht).2
    rw [hC] at h9
    obtain ⟨kA', comp', g1, g2, g3, g4⟩ := h9
    exact Option.some.inj (f1.symm.trans g4)
  subst hcA
  refine kk H.size (by have := hR.1; omega) hq0 H1 locs ls (hR.push rfl e2 e3 (Or.inr (Or.inl ⟨by omega, by omega⟩)) (by omega) ⟨?_, ?_⟩) (hN.push hS.1 hq0) hl ⟨Nat.le_trans hS.1 (by omega), fun z z1 z2 => (e3 z (Nat.lt_of_lt_of_le z1 hS.1)).trans (hS.2.1 z z1 z2), hS.2.2⟩
  · intro ci' hci' hk'
    rw [kd_nq_] at hk'
    omega
  · intro t' ht' hk'
    rw [kd_nq_] at hk'
    have htt : t' = t := by omega
    subst htt
    refine ⟨?_, fun z j hj => Or.inl (if_pos rfl)⟩
    rw [ln_nq_]
    refine e1.trans ?_
    show some (arrV _ (ix_ x) _) = some (arrV _ (ix_ x) _)
    congr 2
    funext j
    unfold av_
    rw [if_neg (by omega), if_neg (by omega)]
    simp [rf_, nw_, rw2_, rv_, nz_]
theorem r_aast_of (g : G_ p s m args meth c cc nL own D M0) {a v t : Nat} {i : Int32} (h3 : 3 ≤ t) (ht : t < 7) (hk : kd_ M a = 20 + t) (hin : vp_in i (ln_ M a)) (hv0 : v ≠ nz_ M) (hd : decode cc pc = .ok (.aastore, 1))
    (hst : ∀ (H : Heap) (locs : List Loc) (ls : Array Slot), Rp_ s D M H → (∀ H' : Heap, H'[a]? = some ((arrV (D.2.1 t) (ln_ M a) (av_ M t a)).setSlot i.toNatClampNeg (.ref v)) → H'.size = H.size → (∀ q, q ≠ a → H'[q]? = H[q]?) → W p l e R s m args below meth c H' (locs ++ [⟨a, i.toNatClampNeg⟩]) n k Q (F0 m (pc + 1) ls S)) → W p l e R s m args below meth c H locs n k Q (F0 m pc ls (.ref v :: .int i :: .ref a :: S)))
    (kk : V_ p l e R s m args below meth c nL D M0 Q (pc + 1) L S (sR_ M a (ix_ i) v) n k) : V_ p l e R s m args below meth c nL D M0 Q pc L (.ref v :: .int i :: .ref a :: S) M n k := fun H locs ls hR hN hl hS => by
  refine hst H locs ls hR fun H' e1 e2 e3 => ?_
  rw [arrV_store] at e1
  have q1 := hR.arr ht hk
  refine kk H' _ ls (hR.set (a := a) (by omega) (ag_sR _ _ _ _) e2 e3 (fun cell2 h2 => ?_) ⟨?_, ?_⟩) (hN.same rfl) hl (hS.put e2 e3 (hN.aw hS.1 (Or.inl ⟨by omega, by omega⟩)))
  · rw [q1] at h2
    cases h2
    rfl
  · intro ci hci hk'
    have hk2 : kd_ M a = ci + 1 := hk'
    omega
  · intro t' ht' hk'
    have hk2 : kd_ M a = 20 + t' := hk'
    have htt : t' = t := by omega
    subst htt
    refine ⟨e1.trans ?_, fun z => by omega⟩
    show some (arrV _ (ln_ M a) _) = some (arrV _ (ln_ M a) _)
    congr 2
    funext z
    rw [av_R h3]
    unfold updV
    rw [av_R h3, rf_sR]
    by_cases hz : z = i.toNatClampNeg
    · subst hz
      rw [if_pos rfl, if_pos ⟨rfl, rfl⟩]
      exact (rv_pos (M := M) hv0).symm
    · rw [if_neg hz, if_neg (fun h => hz h.2)]
      rfl
/-- into a row of its own class -/
theorem r_aast (g : G_ p s m args meth c cc nL own D M0) {a v t ci : Nat} {i : Int32} {C : String} {T : u_T} {N : Nat} (hc : vwCl[ci]? = some (C, T, N)) (h3 : 3 ≤ t) (ht : t < 7) (hC : ty_ t = .object C) (hk : kd_ M a = 20 + t) (hkv : kd_ M v = ci + 1) (hin : vp_in i (ln_ M a)) (hd : decode cc pc = .ok (.aastore, 1))
    (kk : V_ p l e R s m args below meth c nL D M0 Q (pc + 1) L S (sR_ M a (ix_ i) v) n k) : V_ p l e R s m args below meth c nL D M0 Q pc L (.ref v :: .int i :: .ref a :: S) M n k := fun H locs ls hR hN hl hS => by
  have hv0 : v ≠ nz_ M := hR.ne0 (by omega)
  refine r_aast_of g h3 ht hk hin hv0 hd (fun H locs ls hR k9 => ?_) kk H locs ls hR hN hl hS
  obtain ⟨gx, gb, -, go, gt, gK, -⟩ := g
  have hci : ci < 12 := (List.getElem?_eq_some_iff.mp hc).1
  have hlt : i.toNatClampNeg < ln_ M a := Nat.not_le.mp fun q => hin (Or.inr q)
  have h0 : ¬ i < 0 := fun q => hin (Or.inl q)
  obtain ⟨cellV, g1, g2, g3, -⟩ := hR.obj hci hkv
  have hcls := (gK.cls hc).2
  have h9 := (gK.2.1 t ht).2
  rw [hC] at h9
  obtain ⟨kA, comp, k1, k2, k3, -⟩ := h9
  have hcomp : comp = D.1.1 ci := Option.some.inj (k3.symm.trans hcls.1)
  subst hcomp
  obtain ⟨kC, hkC, -⟩ := hcls.2
  exact W.aast gx gb (hR.arr ht hk) (fun q h => by cases h) (fun h => by cases h) k1 k2 rfl hkC ⟨h0, by show _ < (arrV _ _ _).slots.size; rw [arrV_size]; exact hlt⟩ g1 (fun q h => by rw [g3] at h; cases h) (by rw [g2]; exact hkC) (by rw [g2]; exact va_assign hcls) rfl rfl hd k9
/-- into a row of objects, by a word that says so -/
theorem r_aastO (g : G_ p s m args meth c cc nL own D M0) {a v ci : Nat} {i : Int32} {C : String} {T : u_T} {N : Nat} (hc : vwCl[ci]? = some (C, T, N)) (w1 : Cond.castable C "java/lang/Object" ∈ xw_) (hk : kd_ M a = 26) (hkv : kd_ M v = ci + 1) (hin : vp_in i (ln_ M a)) (hd : decode cc pc = .ok (.aastore, 1))
    (kk : V_ p l e R s m args below meth c nL D M0 Q (pc + 1) L S (sR_ M a (ix_ i) v) n k) : V_ p l e R s m args below meth c nL D M0 Q pc L (.ref v :: .int i :: .ref a :: S) M n k := fun H locs ls hR hN hl hS => by
  have hv0 : v ≠ nz_ M := hR.ne0 (by omega)
  refine r_aast_of (t := 6) g (by decide) (by decide) hk hin hv0 hd (fun H locs ls hR k9 => ?_) kk H locs ls hR hN hl hS
  obtain ⟨gx, gb, -, go, gt, gK, -⟩ := g
  have hci : ci < 12 := (List.getElem?_eq_some_iff.mp hc).1
  have hlt : i.toNatClampNeg < ln_ M a := Nat.not_le.mp fun q => hin (Or.inr q)
  have h0 : ¬ i < 0 := fun q => hin (Or.inl q)
  obtain ⟨cellV, g1, g2, g3, -⟩ := hR.obj hci hkv
  have hcls := (gK.cls hc).2
  obtain ⟨kA, comp, k1, k2, k3, -⟩ := (gK.2.1 6 (by decide)).2
  obtain ⟨kC, hkC, -⟩ := hcls.2
  obtain ⟨kE, hkE, -⟩ := Vm.findClass_spec k3
  obtain ⟨c3, c4, hc3, hc4, hasg⟩ := Cond.castable_spec (args := args) (va_Nw.use rfl (gK.2.2.1 _ w1))
  cases Option.some.inj (hc3.symm.trans hcls.1)
  cases Option.some.inj (hc4.symm.trans k3)
  exact W.aast gx gb (hR.arr (t := 6) (by decide) hk) (fun q h => by cases h) (fun h => by cases h) k1 k2 rfl hkE ⟨h0, by show _ < (arrV _ _ _).slots.size; rw [arrV_size]; exact hlt⟩ g1 (fun q h => by rw [g3] at h; cases h) (by rw [g2]; exact hkC) (by rw [g2]; exact hasg) rfl rfl hd k9
theorem r_aastN (g : G_ p s m args meth c cc nL own D M0) {a : Nat} {i : Int32} (hk : kd_ M a = 26) (hin : vp_in i (ln_ M a)) (hd : decode cc pc = .ok (.aastore, 1))
    (kk : V_ p l e R s m args below meth c nL D M0 Q (pc + 1) L S (sR_ M a (ix_ i) (nz_ M)) n k) : V_ p l e R s m args below meth c nL D M0 Q pc L (.null :: .int i :: .ref a :: S) M n k := fun H locs ls hR hN hl hS => by
  obtain ⟨gx, gb, -, go, gt, gK, -⟩ := g
  have hlt : i.toNatClampNeg < ln_ M a := Nat.not_le.mp fun q => hin (Or.inr q)
  have q1 := hR.arr (t := 6) (by decide) hk
  refine va_WaastN gx gb q1 ((gK.2.1 6 (by decide)).1 _ _) (fun q => by cases q) (by rw [arrV_size]; exact hin) rfl rfl hd fun H' e1 e2 e3 => ?_
  rw [arrV_store] at e1
  refine kk H' _ ls (hR.set (a := a) (by omega) (ag_sR _ _ _ _) e2 e3 (fun cell2 h2 => ?_) ⟨?_, ?_⟩) (hN.same rfl) hl (hS.put e2 e3 (hN.aw hS.1 (Or.inl ⟨by omega, by omega⟩)))
  · rw [q1] at h2
    cases h2
    rfl
  · intro ci hci hk'
    have hk2 : kd_ M a = ci + 1 := hk'
    omega
  · intro t' ht' hk'
    have hk2 : kd_ M a = 20 + t' := hk'
    have htt : t' = 6 := by omega
    subst htt
    refine ⟨e1.trans ?_, fun z => by omega⟩
    show some (arrV _ (ln_ M a) _) = some (arrV _ (ln_ M a) _)
    congr 2
    funext z
    rw [av_R (by decide)]
    unfold updV
    rw [av_R (by decide), rf_sR]
    by_cases hz : z = i.toNatClampNeg
    · subst hz
      rw [if_pos rfl, if_pos ⟨rfl, rfl⟩]
      exact (rv_z M).symm
    · rw [if_neg hz, if_neg (fun h => hz h.2)]
      rfl
theorem r_rv {x : Nat} (hx : kd_ M x ≠ 0) (kk : V_ p l e R s m args below meth c nL D M0 Q pc L (.ref x :: S) M n k) : V_ p l e R s m args below meth c nL D M0 Q pc L (rv_ M x :: S) M n k := fun H locs ls hR hN hl hS => by
  rw [rv_pos (hR.ne0 hx)]
  exact kk H locs ls hR hN hl hS
theorem r_vr {x : Nat} (hx : kd_ M x ≠ 0) (kk : V_ p l e R s m args below meth c nL D M0 Q pc L (rv_ M x :: S) M n k) : V_ p l e R s m args below meth c nL D M0 Q pc L (.ref x :: S) M n k := fun H locs ls hR hN hl hS => by
  rw [← rv_pos (hR.ne0 hx)]
  exact kk H locs ls hR hN hl hS
theorem r_cast (g : G_ p s m args meth c cc nL own D M0) {x ci i : Nat} {C : String} {T : u_T} {N : Nat} (hc : vwCl[ci]? = some (C, T, N)) (w1 : Cond.classLink own i C ∈ tbG_) (hk : kd_ M x = ci + 1) (hd : decode cc pc = .ok (.checkcast i, 3)) (kk : V_ p l e R s m args below meth c nL D M0 Q (pc + 3) L (.ref x :: S) M n k) : V_ p l e R s m args below meth c nL D M0 Q pc L (.ref x :: S) M n k := fun H locs ls hR hN hl hS => by
  obtain ⟨gx, gb, -, go, gt, gK, -⟩ := g
  have hci : ci < 12 := (List.getElem?_eq_some_iff.mp hc).1
  obtain ⟨cell, g1, g2, g3, -⟩ := hR.obj hci hk
  have hcls := (gK.cls hc).2
  exact va_castS gx gb go (gt _ w1) hcls ⟨cell, g1, by rw [g3]; rfl, by rw [g2]; exact hcls.1⟩ hd (kk H locs ls hR hN hl hS)
theorem r_gets (g : G_ p s m args meth c cc nL own D M0) {ref : String} {i : Nat} (w1 : Cond.fieldLink own i ref "DEFAULTCAPACITY_EMPTY_ELEMENTDATA" "[Ljava/lang/Object;" ∈ tbG_) (hsame : ref = "java/util/ArrayList") (hd : decode cc pc = .ok (.getstatic i, 3)) (kk : ∀ q, q ≠ nz_ M → (∀ a, kd_ M a = 36 ↔ a = q) → ln_ M q = 0 → V_ p l e R s m args below meth c nL D M0 Q (pc + 3) L (.ref q :: S) M n k) : V_ p l e R s m args below meth c nL D M0 Q pc L S M n k := fun H locs ls hR hN hl hS => by
  obtain ⟨gx, gb, -, go, gt, gK, gR, -⟩ := g
  have hZ := gR.2.2.2.1.1
  have hne : D.2.2 ≠ nz_ M := hR.ne0 (by rw [(hR.2.1 D.2.2).mpr rfl]; decide)
  have hZ2 : va_Z "java/util/ArrayList" "DEFAULTCAPACITY_EMPTY_ELEMENTDATA" "[Ljava/lang/Object;" (.ref D.2.2) (Aw_ M0 s.heap.size) s s.heap := by
    obtain ⟨cf, kf, fi, f, a, cell, h1, h2, h3, h4, h5, h6, h7, h8⟩ := hZ
    refine ⟨cf, kf, fi, f, a, cell, h1, h2, h3, h4, h5, h6, h7, fun h => ?_⟩
    rcases h with ⟨z1, z2⟩ | z1
    · obtain ⟨⟨b1, b2, b3⟩, b4⟩ := gR.2.2.2.2 a
      rcases (b4 z1).1 with ⟨y1, y2⟩ | ⟨y1, y2⟩ | ⟨y1, y2⟩
      · obtain ⟨cell2, c1, c2, c3, -⟩ := (b1 (kd_ M0 a - 1) (by omega) (by omega)).1
        rw [h5] at c1
        cases c1
        rw [c3] at h6
        cases h6
      · have c1 := (b2 (kd_ M0 a - 20) (by omega) (by omega)).1
        rw [h5] at c1
        cases c1
        cases h6
      · omega
    · have := (Array.getElem?_eq_some_iff.mp h5).1
      omega
  exact va_gets gx gb hZ2 hS go (gt _ w1) (by rw [hsame]; exact fun _ h => h) hd (kk D.2.2 hne hR.2.1 hR.2.2.1 H locs ls hR hN hl hS)
theorem r_mmin (g : G_ p s m args meth c cc nL own D M0) {x y : Int32} {i : Nat} (w1 : Cond.methodLink own i Lib.Math.min.name ∈ tbG_) (w2 : Cond.static Lib.Math.min.name ∈ tbG_) (w3 : Cond.initialized "java/lang/Math" ∈ tbG_) (w4 : Cond.code Lib.Math.min.name Lib.Math.min.code 2 (some .int) ∈ tbG_) (hf : 1 ≤ R.frames) (hlo : (S.map fun v => v.category).sum + 13 ≤ R.locals) (hc : n ≤ R.cells) (hs : k ≤ R.slots) (hd : decode cc pc = .ok (.invokestatic i, 3)) (kk : V_ p l e R s m args below meth c nL D M0 Q (pc + 3) L (.int (if y < x then y else x) :: S) M n k) : V_ p l e R s m args below meth c nL D M0 Q pc L (.int y :: .int x :: S) M n k := fun H locs ls hR hN hl hS => by
  obtain ⟨gx, gb, gml, go, gt, -⟩ := g
  exact va_mmin gx gb (gml.trans hl.1.symm) go (gt _ w1) (gt _ w2) (gt _ w3) (gt _ w4) hf hlo hc hs hd (kk H locs ls hR hN hl hS)
theorem r_mmax (g : G_ p s m args meth c cc nL own D M0) {x y : Int32} {i : Nat} (w1 : Cond.methodLink own i Lib.Math.max.name ∈ tbG_) (w2 : Cond.static Lib.Math.max.name ∈ tbG_) (w3 : Cond.initialized "java/lang/Math" ∈ tbG_) (w4 : Cond.code Lib.Math.max.name Lib.Math.max.code 2 (some .int) ∈ tbG_) (hf : 1 ≤ R.frames) (hlo : (S.map fun v => v.category).sum + 13 ≤ R.locals) (hc : n ≤ R.cells) (hs : k ≤ R.slots) (hd : decode cc pc = .ok (.invokestatic i, 3)) (kk : V_ p l e R s m args below meth c nL D M0 Q (pc + 3) L (.int (if x < y then y else x) :: S) M n k) : V_ p l e R s m args below meth c nL D M0 Q pc L (.int y :: .int x :: S) M n k := fun H locs ls hR hN hl hS => by
  obtain ⟨gx, gb, gml, go, gt, -⟩ := g
  exact va_mmax gx gb (gml.trans hl.1.symm) go (gt _ w1) (gt _ w2) (gt _ w3) (gt _ w4) hf hlo hc hs hd (kk H locs ls hR hN hl hS)
theorem r_mminl (g : G_ p s m args meth c cc nL own D M0) {x y : Int64} {i : Nat} (w1 : Cond.methodLink own i Lib.MathLoose.min_long.x ∈ tbG_) (w2 : Cond.static Lib.MathLoose.min_long.x ∈ tbG_) (w3 : Cond.initialized "java/lang/Math" ∈ tbG_) (w4 : Cond.code Lib.MathLoose.min_long.x Lib.MathLoose.min_long.code 4 (some .long) ∈ tbG_) (hf : 1 ≤ R.frames) (hlo : (S.map fun v => v.category).sum + 15 ≤ R.locals) (hc : n ≤ R.cells) (hs : k ≤ R.slots) (hd : decode cc pc = .ok (.invokestatic i, 3)) (kk : V_ p l e R s m args below meth c nL D M0 Q (pc + 3) L (.long (if y < x then y else x) :: S) M n k) : V_ p l e R s m args below meth c nL D M0 Q pc L (.long y :: .long x :: S) M n k := fun H locs ls hR hN hl hS => by
  obtain ⟨gx, gb, gml, go, gt, -⟩ := g
  exact va_mmin_long gx gb (gml.trans hl.1.symm) go (gt _ w1) (gt _ w2) (gt _ w3) (gt _ w4) hf hlo hc hs hd (kk H locs ls hR hN hl hS)
theorem r_mmaxl (g : G_ p s m args meth c cc nL own D M0) {x y : Int64} {i : Nat} (w1 : Cond.methodLink own i Lib.MathLoose.max_long.x ∈ tbG_) (w2 : Cond.static Lib.MathLoose.max_long.x ∈ tbG_) (w3 : Cond.initialized "java/lang/Math" ∈ tbG_) (w4 : Cond.code Lib.MathLoose.max_long.x Lib.MathLoose.max_long.code 4 (some .long) ∈ tbG_) (hf : 1 ≤ R.frames) (hlo : (S.map fun v => v.category).sum + 15 ≤ R.locals) (hc : n ≤ R.cells) (hs : k ≤ R.slots) (hd : decode cc pc = .ok (.invokestatic i, 3)) (kk : V_ p l e R s m args below meth c nL D M0 Q (pc + 3) L (.long (if y < x then x else y) :: S) M n k) : V_ p l e R s m args below meth c nL D M0 Q pc L (.long y :: .long x :: S) M n k := fun H locs ls hR hN hl hS => by
  obtain ⟨gx, gb, gml, go, gt, -⟩ := g
  exact va_mmax_long gx gb (gml.trans hl.1.symm) go (gt _ w1) (gt _ w2) (gt _ w3) (gt _ w4) hf hlo hc hs hd (kk H locs ls hR hN hl hS)
theorem ac_nn {z : Int32} (hz : ¬ z < 0) : z.toInt = (z.toNatClampNeg : Int) := by
  have hz0 : (0 : Int) ≤ z.toInt := by
    have := Int32.not_lt.mp hz
    simpa using Int32.le_iff_toInt_le.mp this
  show z.toInt = ((z.toInt.toNat : Nat) : Int)
  omega
theorem r_acopyI (g : G_ p s m args meth c cc nL own D M0) {a0 a i : Nat} {sp dp z : Int32} (w1 : Cond.methodLink own i arraycopyName ∈ tbG_) (w2 : Cond.native arraycopyName ∈ tbG_) (w3 : Cond.static arraycopyName ∈ tbG_) (w4 : Cond.initialized "java/lang/System" ∈ tbG_) (hk0 : kd_ M a0 = 20) (hk1 : kd_ M a = 20) (h1 : ¬ sp < 0) (h2 : ¬ dp < 0) (h3 : ¬ z < 0) (h4 : ix_ sp + ix_ z ≤ ln_ M a0) (h5 : ix_ dp + ix_ z ≤ ln_ M a)
    (hf : 1 ≤ R.frames) (hlo : (S.map fun v => v.category).sum + (nativeFrameWords "java/lang/System" "arraycopy" 5 + 11) ≤ R.locals) (hd : decode cc pc = .ok (.invokestatic i, 3)) (kk : V_ p l e R s m args below meth c nL D M0 Q (pc + 3) L S (aI_ M a (va_cpy (it_ M a0) (it_ M a) (ix_ sp) (ix_ dp) (ix_ z))) n k) : V_ p l e R s m args below meth c nL D M0 Q pc L (.int z :: .int dp :: .ref a :: .int sp :: .ref a0 :: S) M n k := fun H locs ls hR hN hl hS => by
  obtain ⟨gx, gb, gml, go, gt, gK, -⟩ := g
  have hc0 := hR.arr (t := 0) (by decide) hk0
  have hc1 := hR.arr (t := 0) (by decide) hk1
  have hlt : a < H.size := (Array.getElem?_eq_some_iff.mp hc1).1
  obtain ⟨-, k0, hk0', cm0, hkk0⟩ := (gK.2.1 0 (by decide)).1 0 (fun _ => .null)
  have hk0' : s.vm.classes[D.2.1 0]? = some k0 := hk0'
  have e0 : arrV (D.2.1 0) (ln_ M a0) (av_ M 0 a0) = vp_cell (D.2.1 0) (ln_ M a0, .inl (it_ M a0)) := rfl
  have e1' : arrV (D.2.1 0) (ln_ M a) (av_ M 0 a) = vp_cell (D.2.1 0) (ln_ M a, .inl (it_ M a)) := rfl
  rw [e0] at hc0
  rw [e1'] at hc1
  intro T hT X
  obtain ⟨vm', X', step⟩ := X.arraycopy gx go (gt _ w1) (gt _ w2) (gt _ w3) (gt _ w4) (src := a0) (dst := a) (cs := vp_cell (D.2.1 0) (ln_ M a0, .inl (it_ M a0))) (cd := vp_cell (D.2.1 0) (ln_ M a, .inl (it_ M a))) (srcPos := sp) (destPos := dp) (n := z) (by rw [hT]; exact hc0) (by rw [hT]; exact hc1)
    (fun _ h => by cases h) (fun _ h => by cases h) (fun h => by cases h) (fun h => by cases h) hk0' hk0' hkk0 hkk0 (by rfl) h1 h2 h3
    (by rw [ac_nn h1, ac_nn h3]; show ¬ _ > ((arrV _ (ln_ M a0) (fun j => .int (it_ M a0 j))).slots.size : Int); rw [arrV_size]; unfold ix_ at h4; omega)
    (by rw [ac_nn h2, ac_nn h3]; show ¬ _ > ((arrV _ (ln_ M a) (fun j => .int (it_ M a j))).slots.size : Int); rw [arrV_size]; unfold ix_ at h5; omega)
    (fun vm₁ _ i hi => by
      have e : (vp_cell (D.2.1 0) (ln_ M a0, .inl (it_ M a0))).slots.getD (sp.toNatClampNeg + i) .null = .int (it_ M a0 (sp.toNatClampNeg + i)) := by
        show (arrV _ (ln_ M a0) (fun j => .int (it_ M a0 j))).slots.getD _ _ = _
        rw [Array.getD_eq_getD_getElem?, arrV_read _ _ (by unfold ix_ at h4; omega)]
        rfl
      refine ⟨?_, ?_⟩
      · rw [e]
        rfl
      · rw [e]
        exact trivial)
    (g := F0 m pc ls (.int z :: .int dp :: .ref a :: .int sp :: .ref a0 :: S)) rfl (by rw [gml]; exact hl.1) (rest := S) rfl (by rw [gb]; exact hd) hf (by show 2 * 0 + _ + _ ≤ _; omega)
  have e2 : copied (vp_cell (D.2.1 0) (ln_ M a0, .inl (it_ M a0))) (vp_cell (D.2.1 0) (ln_ M a, .inl (it_ M a))) sp dp z = vp_cell (D.2.1 0) (ln_ M a, .inl (va_cpy (it_ M a0) (it_ M a) sp.toNatClampNeg dp.toNatClampNeg z.toNatClampNeg)) := va_copied (fun z => .int z) _ _ _ _ h4
  rw [e2] at X' step
  have hheap : ((T.setVm vm').setCell a (vp_cell (D.2.1 0) (ln_ M a, .inl (va_cpy (it_ M a0) (it_ M a) sp.toNatClampNeg dp.toNatClampNeg z.toNatClampNeg)))).heap = H.setIfInBounds a (vp_cell (D.2.1 0) (ln_ M a, .inl (va_cpy (it_ M a0) (it_ M a) sp.toNatClampNeg dp.toNatClampNeg z.toNatClampNeg))) := by rw [← hT]; rfl
  have oq : ∀ q : Nat, q ≠ a → (H.setIfInBounds a (vp_cell (D.2.1 0) (ln_ M a, .inl (va_cpy (it_ M a0) (it_ M a) sp.toNatClampNeg dp.toNatClampNeg z.toNatClampNeg))))[q]? = H[q]? := fun q hq => by simp [Array.getElem?_setIfInBounds, Ne.symm hq]
  have hR' := hR.set (M' := aI_ M a (va_cpy (it_ M a0) (it_ M a) (ix_ sp) (ix_ dp) (ix_ z))) (H' := H.setIfInBounds a (vp_cell (D.2.1 0) (ln_ M a, .inl (va_cpy (it_ M a0) (it_ M a) sp.toNatClampNeg dp.toNatClampNeg z.toNatClampNeg)))) (a := a) (by omega) (ag_aI _ _ _) (by simp) oq (fun cell2 h2 => by rw [hc1] at h2; cases h2; rfl) ⟨fun ci hci hk' => by have hk2 : kd_ M a = ci + 1 := hk'; omega, fun t ht hk' => by
    have hk2 : kd_ M a = 20 + t := hk'
    have htt : t = 0 := by omega
    subst htt
    refine ⟨?_, fun z => by omega⟩
    rw [show (H.setIfInBounds a (vp_cell (D.2.1 0) (ln_ M a, .inl (va_cpy (it_ M a0) (it_ M a) sp.toNatClampNeg dp.toNatClampNeg z.toNatClampNeg))))[a]? = some (vp_cell (D.2.1 0) (ln_ M a, .inl (va_cpy (it_ M a0) (it_ M a) sp.toNatClampNeg dp.toNatClampNeg z.toNatClampNeg))) by simp [Array.getElem?_setIfInBounds, hlt]]
    rw [vp_cell_i]
    show some (arrV _ (ln_ M a) _) = some (arrV _ (ln_ M a) _)
    congr 2
    funext j
    show Value.int _ = Value.int (it_ (aI_ M a _) a j)
    rw [it_aI, if_pos rfl]
    rfl⟩
  obtain ⟨t, a1, b1⟩ := kk _ _ ls hR' (hN.same rfl) hl ⟨by simp; exact hS.1, fun q g1 g2 => by
      rw [oq q (fun e => g2 (by rw [e]; exact hN.aw hS.1 (Or.inl ⟨by omega, by omega⟩)))]
      exact hS.2.1 q g1 g2, fun q hq => by
      rcases List.mem_append.mp hq with h | h
      · exact hS.2.2 q h
      · obtain ⟨z, -, hz⟩ := List.mem_map.mp h
        rw [← hz]
        exact hN.aw (q := a) hS.1 (Or.inl ⟨by omega, by omega⟩)⟩ _ hheap X'
  exact ⟨t, step t a1, b1⟩
theorem cb_of (gt : ∀ w ∈ tbG_, w.before args s = true) {y : MethodName} {cy : ByteArray} {ny i mc ms : Nat} {ret : Option FieldType} {rm : Room} {As : List Value}(w1 : Cond.methodLink own i y ∈ tbG_) (w5 : Cond.code y cy ny ret ∈ tbG_) (w6 : Cond.initialized y.cls ∈ tbG_)(hy : y.cls ≠ "java/lang/invoke/MethodHandle" ∧ y.cls ≠ "java/lang/invoke/VarHandle" ∧ (parseMethodDescriptor y.desc).map (fun d => d.parameters.length) = some As.length) (hrm : rm.cells = mc ∧ rm.slots = ms) (hfr : rm.frames + 1 ≤ R.frames) (hlo : 8 + (ny + 11) + rm.locals ≤ R.locals) (h1 : n + mc ≤ R.cells) (h2 : k + ms ≤ R.slots) (hsr : (S.map fun v => v.category).sum ≤ 8) : CallB R s args own i y cy ny ret (Cond.code y cy ny ret :: tbG_) rm mc ms As.length := by
  refine ⟨hrm.1, hrm.2, hfr, hlo, pay_in gt (tb_goodIn w5), List.mem_cons_self, gt _ w5, gt _ w6, ⟨hy.1, hy.2.1⟩, fun sig h => ?_, gt _ w1⟩
  have h2 := hy.2.2
  rw [h] at h2
  exact (Option.some.inj h2).symm
theorem r_callVv (g : G_ p s m args meth c cc nL own D M0) {y : MethodName} {cy : ByteArray} {ny i mc ms : Nat} {ret : Option FieldType} {rm : Room} {As st : List Value} {b : Nat} {ci N : Nat} {T : u_T} {K : Mm → Prop} (hM : ∀ sz, Met l y (Cond.code y cy ny ret :: tbG_) rm (cPc_ D M sz (.ref b :: As)) (va_Qv (fun M' => K M') (cB_ D M sz) (Aw_ M sz)) mc ms (Aw_ M sz)) (w1 : Cond.methodLink own i y ∈ tbG_) (w5 : Cond.code y cy ny ret ∈ tbG_) (w6 : Cond.initialized y.cls ∈ tbG_) (w2 : Cond.instanceMethod y ∈ tbG_) (w3 : Cond.selects y.cls y y ∈ tbG_) (hc : vwCl[ci]? = some (y.cls, T, N)) (hkb : kd_ M b = ci + 1) (hy : y.cls ≠ "java/lang/invoke/MethodHandle" ∧ y.cls ≠ "java/lang/invoke/VarHandle" ∧ (parseMethodDescriptor y.desc).map (fun d => d.parameters.length) = some As.length) (hrm : rm.cells = mc ∧ rm.slots = ms) (hfr : rm.frames + 1 ≤ R.frames) (hlo : 8 + (ny + 11) + rm.locals ≤ R.locals) (h1 : n + mc ≤ R.cells) (h2 : k + ms ≤ R.slots) (hsr : (S.map fun v => v.category).sum ≤ 8) (hst : st = As.reverse ++ .ref b :: S) (hd : decode cc pc = .ok (.invokevirtual i, 3))
    (kk : ∀ M', K M' → Nk_ M M' → V_ p l e R s m args below meth c nL D M0 Q (pc + 3) L S M' (n + mc) (k + ms)) : V_ p l e R s m args below meth c nL D M0 Q pc L st M n k := fun H locs ls hR hN hl hS => by
  obtain ⟨gx, gb, gml, go, gt, gK, -⟩ := g
  have hci : ci < 12 := (List.getElem?_eq_some_iff.mp hc).1
  obtain ⟨cell, g1, g2, g3, -⟩ := hR.obj hci hkb
  have hA : ∀ q : Nat, Aw_ M H.size q → Aw_ M0 s.heap.size q := fun q h => hN.aw hS.1 h
  refine va_callv (va_runV (As := As) (rest := S) ⟨gx, gb, gml, go, gt⟩ (hM H.size) ⟨cb_of gt w1 w5 w6 hy hrm hfr hlo h1 h2 hsr, gt _ w2, gt _ w3⟩ ⟨cPc_blind _ _ _ _, ⟨cell, g1, by rw [g3]; rfl, by rw [g2]; exact (gK.cls hc).2.1⟩, fun U hU hW => ⟨rfl, by rw [hU], by rw [hU]; exact hR.moved hW.alike, gK.warm hW⟩⟩ rfl rfl hl.1 hst (by show 2 * 0 + _ ≤ _; omega) hd ⟨h1, h2⟩) hS (fun q _ h => hA q h) hA (fun u t H1 locs1 ht hvm hp hB hz1 hk1 hS1 => ?_)
  have hR1 := Rp_.moved hvm.symm hB.1
  rw [ht] at hR1
  exact kk u hp hB.2.1 H1 locs1 ls hR1 (hN.tr hS.1 hB.2) hl hS1
theorem r_callSv (g : G_ p s m args meth c cc nL own D M0) {y : MethodName} {cy : ByteArray} {ny i mc ms : Nat} {ret : Option FieldType} {rm : Room} {As st : List Value} {K : Mm → Prop} (hM : ∀ sz, Met l y (Cond.code y cy ny ret :: tbG_) rm (cPc_ D M sz As) (va_Qv (fun M' => K M') (cB_ D M sz) (Aw_ M sz)) mc ms (Aw_ M sz)) (w1 : Cond.methodLink own i y ∈ tbG_) (w5 : Cond.code y cy ny ret ∈ tbG_) (w6 : Cond.initialized y.cls ∈ tbG_) (w2 : Cond.static y ∈ tbG_) (hy : y.cls ≠ "java/lang/invoke/MethodHandle" ∧ y.cls ≠ "java/lang/invoke/VarHandle" ∧ (parseMethodDescriptor y.desc).map (fun d => d.parameters.length) = some As.length) (hrm : rm.cells = mc ∧ rm.slots = ms) (hfr : rm.frames + 1 ≤ R.frames) (hlo : 8 + (ny + 11) + rm.locals ≤ R.locals) (h1 : n + mc ≤ R.cells) (h2 : k + ms ≤ R.slots) (hsr : (S.map fun v => v.category).sum ≤ 8) (hst : st = As.reverse ++ S) (hd : decode cc pc = .ok (.invokestatic i, 3))
    (kk : ∀ M', K M' → Nk_ M M' → V_ p l e R s m args below meth c nL D M0 Q (pc + 3) L S M' (n + mc) (k + ms)) : V_ p l e R s m args below meth c nL D M0 Q pc L st M n k := fun H locs ls hR hN hl hS => by
  obtain ⟨gx, gb, gml, go, gt, gK, -⟩ := g
  have hA : ∀ q : Nat, Aw_ M H.size q → Aw_ M0 s.heap.size q := fun q h => hN.aw hS.1 h
  refine va_callv (va_runS (As := As) (rest := S) ⟨gx, gb, gml, go, gt⟩ (hM H.size) ⟨cb_of gt w1 w5 w6 hy hrm hfr hlo h1 h2 hsr, gt _ w2⟩ ⟨cPc_blind _ _ _ _, fun U hU hW => ⟨rfl, by rw [hU], by rw [hU]; exact hR.moved hW.alike, gK.warm hW⟩⟩ rfl rfl hl.1 hst (by show 2 * 0 + _ ≤ _; omega) hd ⟨h1, h2⟩) hS (fun q _ h => hA q h) hA (fun u t H1 locs1 ht hvm hp hB hz1 hk1 hS1 => ?_)
  have hR1 := Rp_.moved hvm.symm hB.1
  rw [ht] at hR1
  exact kk u hp hB.2.1 H1 locs1 ls hR1 (hN.tr hS.1 hB.2) hl hS1
theorem r_callIv (g : G_ p s m args meth c cc nL own D M0) {y : MethodName} {cy : ByteArray} {ny i mc ms : Nat} {rm : Room} {As st : List Value} {b : Nat} {K : Mm → Prop} (hM : ∀ sz, Met l y (Cond.code y cy ny none :: tbG_) rm (cPc_ D M sz (.ref b :: As)) (va_Qv (fun M' => K M') (cB_ D M sz) (Aw_ M sz)) mc ms (Aw_ M sz)) (w1 : Cond.methodLink own i y ∈ tbG_) (w5 : Cond.code y cy ny none ∈ tbG_) (w6 : Cond.initialized y.cls ∈ tbG_) (w2 : Cond.instanceMethod y ∈ tbG_) (hy1 : y.name = "<init>") (hy : y.cls ≠ "java/lang/invoke/MethodHandle" ∧ y.cls ≠ "java/lang/invoke/VarHandle" ∧ (parseMethodDescriptor y.desc).map (fun d => d.parameters.length) = some As.length) (hrm : rm.cells = mc ∧ rm.slots = ms) (hfr : rm.frames + 1 ≤ R.frames) (hlo : 8 + (ny + 11) + rm.locals ≤ R.locals) (h1 : n + mc ≤ R.cells) (h2 : k + ms ≤ R.slots) (hsr : (S.map fun v => v.category).sum ≤ 8) (hst : st = As.reverse ++ .ref b :: S) (hd : decode cc pc = .ok (.invokespecial i, 3))
    (kk : ∀ M', K M' → Nk_ M M' → V_ p l e R s m args below meth c nL D M0 Q (pc + 3) L S M' (n + mc) (k + ms)) : V_ p l e R s m args below meth c nL D M0 Q pc L st M n k := fun H locs ls hR hN hl hS => by
  obtain ⟨gx, gb, gml, go, gt, gK, -⟩ := g
  have hA : ∀ q : Nat, Aw_ M H.size q → Aw_ M0 s.heap.size q := fun q h => hN.aw hS.1 h
  refine va_callv (va_runI (As := As) (rest := S) ⟨gx, gb, gml, go, gt⟩ (hM H.size) ⟨cb_of gt w1 w5 w6 hy hrm hfr hlo h1 h2 hsr, hy1, gt _ w2⟩ ⟨cPc_blind _ _ _ _, fun U hU hW => ⟨rfl, by rw [hU], by rw [hU]; exact hR.moved hW.alike, gK.warm hW⟩⟩ rfl rfl hl.1 hst (by show 2 * 0 + _ ≤ _; omega) hd ⟨h1, h2⟩) hS (fun q _ h => hA q h) hA (fun u t H1 locs1 ht hvm hp hB hz1 hk1 hS1 => ?_)
  have hR1 := Rp_.moved hvm.symm hB.1
  rw [ht] at hR1
  exact kk u hp hB.2.1 H1 locs1 ls hR1 (hN.tr hS.1 hB.2) hl hS1
theorem r_callVi (g : G_ p s m args meth c cc nL own D M0) {y : MethodName} {cy : ByteArray} {ny i mc ms : Nat} {ret : Option FieldType} {rm : Room} {As st : List Value} {b : Nat} {ci N : Nat} {T : u_T} {K : Mm → Int32 → Prop} (hM : ∀ sz, Met l y (Cond.code y cy ny ret :: tbG_) rm (cPc_ D M sz (.ref b :: As)) (va_Qi (fun r M' => K M' r) (cB_ D M sz) (Aw_ M sz)) mc ms (Aw_ M sz)) (w1 : Cond.methodLink own i y ∈ tbG_) (w5 : Cond.code y cy ny ret ∈ tbG_) (w6 : Cond.initialized y.cls ∈ tbG_) (w2 : Cond.instanceMethod y ∈ tbG_) (w3 : Cond.selects y.cls y y ∈ tbG_) (hc : vwCl[ci]? = some (y.cls, T, N)) (hkb : kd_ M b = ci + 1) (hy : y.cls ≠ "java/lang/invoke/MethodHandle" ∧ y.cls ≠ "java/lang/invoke/VarHandle" ∧ (parseMethodDescriptor y.desc).map (fun d => d.parameters.length) = some As.length) (hrm : rm.cells = mc ∧ rm.slots = ms) (hfr : rm.frames + 1 ≤ R.frames) (hlo : 8 + (ny + 11) + rm.locals ≤ R.locals) (h1 : n + mc ≤ R.cells) (h2 : k + ms ≤ R.slots) (hsr : (S.map fun v => v.category).sum ≤ 8) (hst : st = As.reverse ++ .ref b :: S) (hd : decode cc pc = .ok (.invokevirtual i, 3))
    (kk : ∀ M' r, K M' r → Nk_ M M' → V_ p l e R s m args below meth c nL D M0 Q (pc + 3) L (.int r :: S) M' (n + mc) (k + ms)) : V_ p l e R s m args below meth c nL D M0 Q pc L st M n k := fun H locs ls hR hN hl hS => by
  obtain ⟨gx, gb, gml, go, gt, gK, -⟩ := g
  have hci : ci < 12 := (List.getElem?_eq_some_iff.mp hc).1
  obtain ⟨cell, g1, g2, g3, -⟩ := hR.obj hci hkb
  have hA : ∀ q : Nat, Aw_ M H.size q → Aw_ M0 s.heap.size q := fun q h => hN.aw hS.1 h
  refine va_calli (va_runV (As := As) (rest := S) ⟨gx, gb, gml, go, gt⟩ (hM H.size) ⟨cb_of gt w1 w5 w6 hy hrm hfr hlo h1 h2 hsr, gt _ w2, gt _ w3⟩ ⟨cPc_blind _ _ _ _, ⟨cell, g1, by rw [g3]; rfl, by rw [g2]; exact (gK.cls hc).2.1⟩, fun U hU hW => ⟨rfl, by rw [hU], by rw [hU]; exact hR.moved hW.alike, gK.warm hW⟩⟩ rfl rfl hl.1 hst (by show 2 * 0 + _ ≤ _; omega) hd ⟨h1, h2⟩) hS (fun q _ h => hA q h) hA (fun r u t H1 locs1 ht hvm hp hB hz1 hk1 hS1 => ?_)
  have hR1 := Rp_.moved hvm.symm hB.1
  rw [ht] at hR1
  exact kk u r hp hB.2.1 H1 locs1 ls hR1 (hN.tr hS.1 hB.2) hl hS1
theorem r_callSi (g : G_ p s m args meth c cc nL own D M0) {y : MethodName} {cy : ByteArray} {ny i mc ms : Nat} {ret : Option FieldType} {rm : Room} {As st : List Value} {K : Mm → Int32 → Prop} (hM : ∀ sz, Met l y (Cond.code y cy ny ret :: tbG_) rm (cPc_ D M sz As) (va_Qi (fun r M' => K M' r) (cB_ D M sz) (Aw_ M sz)) mc ms (Aw_ M sz)) (w1 : Cond.methodLink own i y ∈ tbG_) (w5 : Cond.code y cy ny ret ∈ tbG_) (w6 : Cond.initialized y.cls ∈ tbG_) (w2 : Cond.static y ∈ tbG_) (hy : y.cls ≠ "java/lang/invoke/MethodHandle" ∧ y.cls ≠ "java/lang/invoke/VarHandle" ∧ (parseMethodDescriptor y.desc).map (fun d => d.parameters.length) = some As.length) (hrm : rm.cells = mc ∧ rm.slots = ms) (hfr : rm.frames + 1 ≤ R.frames) (hlo : 8 + (ny + 11) + rm.locals ≤ R.locals) (h1 : n + mc ≤ R.cells) (h2 : k + ms ≤ R.slots) (hsr : (S.map fun v => v.category).sum ≤ 8) (hst : st = As.reverse ++ S) (hd : decode cc pc = .ok (.invokestatic i, 3))
    (kk : ∀ M' r, K M' r → Nk_ M M' → V_ p l e R s m args below meth c nL D M0 Q (pc + 3) L (.int r :: S) M' (n + mc) (k + ms)) : V_ p l e R s m args below meth c nL D M0 Q pc L st M n k := fun H locs ls hR hN hl hS => by
  obtain ⟨gx, gb, gml, go, gt, gK, -⟩ := g
  have hA : ∀ q : Nat, Aw_ M H.size q → Aw_ M0 s.heap.size q := fun q h => hN.aw hS.1 h
  refine va_calli (va_runS (As := As) (rest := S) ⟨gx, gb, gml, go, gt⟩ (hM H.size) ⟨cb_of gt w1 w5 w6 hy hrm hfr hlo h1 h2 hsr, gt _ w2⟩ ⟨cPc_blind _ _ _ _, fun U hU hW => ⟨rfl, by rw [hU], by rw [hU]; exact hR.moved hW.alike, gK.warm hW⟩⟩ rfl rfl hl.1 hst (by show 2 * 0 + _ ≤ _; omega) hd ⟨h1, h2⟩) hS (fun q _ h => hA q h) hA (fun r u t H1 locs1 ht hvm hp hB hz1 hk1 hS1 => ?_)
  have hR1 := Rp_.moved hvm.symm hB.1
  rw [ht] at hR1
  exact kk u r hp hB.2.1 H1 locs1 ls hR1 (hN.tr hS.1 hB.2) hl hS1
theorem r_callVz (g : G_ p s m args meth c cc nL own D M0) {y : MethodName} {cy : ByteArray} {ny i mc ms : Nat} {ret : Option FieldType} {rm : Room} {As st : List Value} {b : Nat} {ci N : Nat} {T : u_T} {K : Mm → Int32 → Prop} (hM : ∀ sz, Met l y (Cond.code y cy ny ret :: tbG_) rm (cPc_ D M sz (.ref b :: As)) (va_Qi (fun r M' => K M' r ∧ bz_ r) (cB_ D M sz) (Aw_ M sz)) mc ms (Aw_ M sz)) (w1 : Cond.methodLink own i y ∈ tbG_) (w5 : Cond.code y cy ny ret ∈ tbG_) (w6 : Cond.initialized y.cls ∈ tbG_) (w2 : Cond.instanceMethod y ∈ tbG_) (w3 : Cond.selects y.cls y y ∈ tbG_) (hc : vwCl[ci]? = some (y.cls, T, N)) (hkb : kd_ M b = ci + 1) (hy : y.cls ≠ "java/lang/invoke/MethodHandle" ∧ y.cls ≠ "java/lang/invoke/VarHandle" ∧ (parseMethodDescriptor y.desc).map (fun d => d.parameters.length) = some As.length) (hrm : rm.cells = mc ∧ rm.slots = ms) (hfr : rm.frames + 1 ≤ R.frames) (hlo : 8 + (ny + 11) + rm.locals ≤ R.locals) (h1 : n + mc ≤ R.cells) (h2 : k + ms ≤ R.slots) (hsr : (S.map fun v => v.category).sum ≤ 8) (hst : st = As.reverse ++ .ref b :: S) (hd : decode cc pc = .ok (.invokevirtual i, 3))
    (kk : ∀ M' r, K M' r → bz_ r → Nk_ M M' → V_ p l e R s m args below meth c nL D M0 Q (pc + 3) L (.int r :: S) M' (n + mc) (k + ms)) : V_ p l e R s m args below meth c nL D M0 Q pc L st M n k := fun H locs ls hR hN hl hS => by
  obtain ⟨gx, gb, gml, go, gt, gK, -⟩ := g
  have hci : ci < 12 := (List.getElem?_eq_some_iff.mp hc).1
  obtain ⟨cell, g1, g2, g3, -⟩ := hR.obj hci hkb
  have hA : ∀ q : Nat, Aw_ M H.size q → Aw_ M0 s.heap.size q := fun q h => hN.aw hS.1 h
  refine va_calli (va_runV (As := As) (rest := S) ⟨gx, gb, gml, go, gt⟩ (hM H.size) ⟨cb_of gt w1 w5 w6 hy hrm hfr hlo h1 h2 hsr, gt _ w2, gt _ w3⟩ ⟨cPc_blind _ _ _ _, ⟨cell, g1, by rw [g3]; rfl, by rw [g2]; exact (gK.cls hc).2.1⟩, fun U hU hW => ⟨rfl, by rw [hU], by rw [hU]; exact hR.moved hW.alike, gK.warm hW⟩⟩ rfl rfl hl.1 hst (by show 2 * 0 + _ ≤ _; omega) hd ⟨h1, h2⟩) hS (fun q _ h => hA q h) hA (fun r u t H1 locs1 ht hvm hp hB hz1 hk1 hS1 => ?_)
  have hR1 := Rp_.moved hvm.symm hB.1
  rw [ht] at hR1
  exact kk u r hp.1 hp.2 hB.2.1 H1 locs1 ls hR1 (hN.tr hS.1 hB.2) hl hS1
theorem r_callSz (g : G_ p s m args meth c cc nL own D M0) {y : MethodName} {cy : ByteArray} {ny i mc ms : Nat} {ret : Option FieldType} {rm : Room} {As st : List Value} {K : Mm → Int32 → Prop} (hM : ∀ sz, Met l y (Cond.code y cy ny ret :: tbG_) rm (cPc_ D M sz As) (va_Qi (fun r M' => K M' r ∧ bz_ r) (cB_ D M sz) (Aw_ M sz)) mc ms (Aw_ M sz)) (w1 : Cond.methodLink own i y ∈ tbG_) (w5 : Cond.code y cy ny ret ∈ tbG_) (w6 : Cond.initialized y.cls ∈ tbG_) (w2 : Cond.static y ∈ tbG_) (hy : y.cls ≠ "java/lang/invoke/MethodHandle" ∧ y.cls ≠ "java/lang/invoke/VarHandle" ∧ (parseMethodDescriptor y.desc).map (fun d => d.parameters.length) = some As.length) (hrm : rm.cells = mc ∧ rm.slots = ms) (hfr : rm.frames + 1 ≤ R.frames) (hlo : 8 + (ny + 11) + rm.locals ≤ R.locals) (h1 : n + mc ≤ R.cells) (h2 : k + ms ≤ R.slots) (hsr : (S.map fun v => v.category).sum ≤ 8) (hst : st = As.reverse ++ S) (hd : decode cc pc = .ok (.invokestatic i, 3))
    (kk : ∀ M' r, K M' r → bz_ r → Nk_ M M' → V_ p l e R s m args below meth c nL D M0 Q (pc + 3) L (.int r :: S) M' (n + mc) (k + ms)) : V_ p l e R s m args below meth c nL D M0 Q pc L st M n k := fun H locs ls hR hN hl hS => by
  obtain ⟨gx, gb, gml, go, gt, gK, -⟩ := g
  have hA : ∀ q : Nat, Aw_ M H.size q → Aw_ M0 s.heap.size q := fun q h => hN.aw hS.1 h
  refine va_calli (va_runS (As := As) (rest := S) ⟨gx, gb, gml, go, gt⟩ (hM H.size) ⟨cb_of gt w1 w5 w6 hy hrm hfr hlo h1 h2 hsr, gt _ w2⟩ ⟨cPc_blind _ _ _ _, fun U hU hW => ⟨rfl, by rw [hU], by rw [hU]; exact hR.moved hW.alike, gK.warm hW⟩⟩ rfl rfl hl.1 hst (by show 2 * 0 + _ ≤ _; omega) hd ⟨h1, h2⟩) hS (fun q _ h => hA q h) hA (fun r u t H1 locs1 ht hvm hp hB hz1 hk1 hS1 => ?_)
  have hR1 := Rp_.moved hvm.symm hB.1
  rw [ht] at hR1
  exact kk u r hp.1 hp.2 hB.2.1 H1 locs1 ls hR1 (hN.tr hS.1 hB.2) hl hS1
theorem r_callVl (g : G_ p s m args meth c cc nL own D M0) {y : MethodName} {cy : ByteArray} {ny i mc ms : Nat} {ret : Option FieldType} {rm : Room} {As st : List Value} {b : Nat} {ci N : Nat} {T : u_T} {K : Mm → Int64 → Prop} (hM : ∀ sz, Met l y (Cond.code y cy ny ret :: tbG_) rm (cPc_ D M sz (.ref b :: As)) (va_Ql (fun r M' => K M' r) (cB_ D M sz) (Aw_ M sz)) mc ms (Aw_ M sz)) (w1 : Cond.methodLink own i y ∈ tbG_) (w5 : Cond.code y cy ny ret ∈ tbG_) (w6 : Cond.initialized y.cls ∈ tbG_) (w2 : Cond.instanceMethod y ∈ tbG_) (w3 : Cond.selects y.cls y y ∈ tbG_) (hc : vwCl[ci]? = some (y.cls, T, N)) (hkb : kd_ M b = ci + 1) (hy : y.cls ≠ "java/lang/invoke/MethodHandle" ∧ y.cls ≠ "java/lang/invoke/VarHandle" ∧ (parseMethodDescriptor y.desc).map (fun d => d.parameters.length) = some As.length) (hrm : rm.cells = mc ∧ rm.slots = ms) (hfr : rm.frames + 1 ≤ R.frames) (hlo : 8 + (ny + 11) + rm.locals ≤ R.locals) (h1 : n + mc ≤ R.cells) (h2 : k + ms ≤ R.slots) (hsr : (S.map fun v => v.category).sum ≤ 8) (hst : st = As.reverse ++ .ref b :: S) (hd : decode cc pc = .ok (.invokevirtual i, 3))
    (kk : ∀ M' r, K M' r → Nk_ M M' → V_ p l e R s m args below meth c nL D M0 Q (pc + 3) L (.long r :: S) M' (n + mc) (k + ms)) : V_ p l e R s m args below meth c nL D M0 Q pc L st M n k := fun H locs ls hR hN hl hS => by
  obtain ⟨gx, gb, gml, go, gt, gK, -⟩ := g
  have hci : ci < 12 := (List.getElem?_eq_some_iff.mp hc).1
  obtain ⟨cell, g1, g2, g3, -⟩ := hR.obj hci hkb
  have hA : ∀ q : Nat, Aw_ M H.size q → Aw_ M0 s.heap.size q := fun q h => hN.aw hS.1 h
  refine va_calll (va_runV (As := As) (rest := S) ⟨gx, gb, gml, go, gt⟩ (hM H.size) ⟨cb_of gt w1 w5 w6 hy hrm hfr hlo h1 h2 hsr, gt _ w2, gt _ w3⟩ ⟨cPc_blind _ _ _ _, ⟨cell, g1, by rw [g3]; rfl, by rw [g2]; exact (gK.cls hc).2.1⟩, fun U hU hW => ⟨rfl, by rw [hU], by rw [hU]; exact hR.moved hW.alike, gK.warm hW⟩⟩ rfl rfl hl.1 hst (by show 2 * 0 + _ ≤ _; omega) hd ⟨h1, h2⟩) hS (fun q _ h => hA q h) hA (fun r u t H1 locs1 ht hvm hp hB hz1 hk1 hS1 => ?_)
  have hR1 := Rp_.moved hvm.symm hB.1
  rw [ht] at hR1
  exact kk u r hp hB.2.1 H1 locs1 ls hR1 (hN.tr hS.1 hB.2) hl hS1
theorem r_callSl (g : G_ p s m args meth c cc nL own D M0) {y : MethodName} {cy : ByteArray} {ny i mc ms : Nat} {ret : Option FieldType} {rm : Room} {As st : List Value} {K : Mm → Int64 → Prop} (hM : ∀ sz, Met l y (Cond.code y cy ny ret :: tbG_) rm (cPc_ D M sz As) (va_Ql (fun r M' => K M' r) (cB_ D M sz) (Aw_ M sz)) mc ms (Aw_ M sz)) (w1 : Cond.methodLink own i y ∈ tbG_) (w5 : Cond.code y cy ny ret ∈ tbG_) (w6 : Cond.initialized y.cls ∈ tbG_) (w2 : Cond.static y ∈ tbG_) (hy : y.cls ≠ "java/lang/invoke/MethodHandle" ∧ y.cls ≠ "java/lang/invoke/VarHandle" ∧ (parseMethodDescriptor y.desc).map (fun d => d.parameters.length) = some As.length) (hrm : rm.cells = mc ∧ rm.slots = ms) (hfr : rm.frames + 1 ≤ R.frames) (hlo : 8 + (ny + 11) + rm.locals ≤ R.locals) (h1 : n + mc ≤ R.cells) (h2 : k + ms ≤ R.slots) (hsr : (S.map fun v => v.category).sum ≤ 8) (hst : st = As.reverse ++ S) (hd : decode cc pc = .ok (.invokestatic i, 3))
    (kk : ∀ M' r, K M' r → Nk_ M M' → V_ p l e R s m args below meth c nL D M0 Q (pc + 3) L (.long r :: S) M' (n + mc) (k + ms)) : V_ p l e R s m args below meth c nL D M0 Q pc L st M n k := fun H locs ls hR hN hl hS => by
  obtain ⟨gx, gb, gml, go, gt, gK, -⟩ := g
  have hA : ∀ q : Nat, Aw_ M H.size q → Aw_ M0 s.heap.size q := fun q h => hN.aw hS.1 h
  refine va_calll (va_runS (As := As) (rest := S) ⟨gx, gb, gml, go, gt⟩ (hM H.size) ⟨cb_of gt w1 w5 w6 hy hrm hfr hlo h1 h2 hsr, gt _ w2⟩ ⟨cPc_blind _ _ _ _, fun U hU hW => ⟨rfl, by rw [hU], by rw [hU]; exact hR.moved hW.alike, gK.warm hW⟩⟩ rfl rfl hl.1 hst (by show 2 * 0 + _ ≤ _; omega) hd ⟨h1, h2⟩) hS (fun q _ h => hA q h) hA (fun r u t H1 locs1 ht hvm hp hB hz1 hk1 hS1 => ?_)
  have hR1 := Rp_.moved hvm.symm hB.1
  rw [ht] at hR1
  exact kk u r hp hB.2.1 H1 locs1 ls hR1 (hN.tr hS.1 hB.2) hl hS1
theorem r_callVr (g : G_ p s m args meth c cc nL own D M0) {y : MethodName} {cy : ByteArray} {ny i mc ms : Nat} {ret : Option FieldType} {rm : Room} {As st : List Value} {b : Nat} {ci N : Nat} {T : u_T} {K : Mm → Nat → Prop} (hM : ∀ sz, Met l y (Cond.code y cy ny ret :: tbG_) rm (cPc_ D M sz (.ref b :: As)) (va_Qr (S := Mm) (fun _ => True) (fun M' a t => K M' a ∧ kd_ M' a ≠ 0 ∧ cB_ D M sz M' t) (Aw_ M sz)) mc ms (Aw_ M sz)) (w1 : Cond.methodLink own i y ∈ tbG_) (w5 : Cond.code y cy ny ret ∈ tbG_) (w6 : Cond.initialized y.cls ∈ tbG_) (w2 : Cond.instanceMethod y ∈ tbG_) (w3 : Cond.selects y.cls y y ∈ tbG_) (hc : vwCl[ci]? = some (y.cls, T, N)) (hkb : kd_ M b = ci + 1) (hy : y.cls ≠ "java/lang/invoke/MethodHandle" ∧ y.cls ≠ "java/lang/invoke/VarHandle" ∧ (parseMethodDescriptor y.desc).map (fun d => d.parameters.length) = some As.length) (hrm : rm.cells = mc ∧ rm.slots = ms) (hfr : rm.frames + 1 ≤ R.frames) (hlo : 8 + (ny + 11) + rm.locals ≤ R.locals) (h1 : n + mc ≤ R.cells) (h2 : k + ms ≤ R.slots) (hsr : (S.map fun v => v.category).sum ≤ 8) (hst : st = As.reverse ++ .ref b :: S) (hd : decode cc pc = .ok (.invokevirtual i, 3))
    (kk : ∀ M' r, K M' r → kd_ M' r ≠ 0 → Nk_ M M' → V_ p l e R s m args below meth c nL D M0 Q (pc + 3) L (.ref r :: S) M' (n + mc) (k + ms)) : V_ p l e R s m args below meth c nL D M0 Q pc L st M n k := fun H locs ls hR hN hl hS => by
  obtain ⟨gx, gb, gml, go, gt, gK, -⟩ := g
  have hci : ci < 12 := (List.getElem?_eq_some_iff.mp hc).1
  obtain ⟨cell, g1, g2, g3, -⟩ := hR.obj hci hkb
  have hA : ∀ q : Nat, Aw_ M H.size q → Aw_ M0 s.heap.size q := fun q h => hN.aw hS.1 h
  refine va_callr (va_runV (As := As) (rest := S) ⟨gx, gb, gml, go, gt⟩ (hM H.size) ⟨cb_of gt w1 w5 w6 hy hrm hfr hlo h1 h2 hsr, gt _ w2, gt _ w3⟩ ⟨cPc_blind _ _ _ _, ⟨cell, g1, by rw [g3]; rfl, by rw [g2]; exact (gK.cls hc).2.1⟩, fun U hU hW => ⟨rfl, by rw [hU], by rw [hU]; exact hR.moved hW.alike, gK.warm hW⟩⟩ rfl rfl hl.1 hst (by show 2 * 0 + _ ≤ _; omega) hd ⟨h1, h2⟩) hS (fun q _ h => hA q h) hA (fun u ra t H1 locs1 ht hvm hp hB hz1 hk1 hS1 => ?_)
  obtain ⟨hp, hB0, hB⟩ := hB
  have hR1 := Rp_.moved hvm.symm hB.1
  rw [ht] at hR1
  exact kk u ra hp hB0 hB.2.1 H1 locs1 ls hR1 (hN.tr hS.1 hB.2) hl hS1
theorem r_callSr (g : G_ p s m args meth c cc nL own D M0) {y : MethodName} {cy : ByteArray} {ny i mc ms : Nat} {ret : Option FieldType} {rm : Room} {As st : List Value} {K : Mm → Nat → Prop} (hM : ∀ sz, Met l y (Cond.code y cy ny ret :: tbG_) rm (cPc_ D M sz As) (va_Qr (S := Mm) (fun _ => True) (fun M' a t => K M' a ∧ kd_ M' a ≠ 0 ∧ cB_ D M sz M' t) (Aw_ M sz)) mc ms (Aw_ M sz)) (w1 : Cond.methodLink own i y ∈ tbG_) (w5 : Cond.code y cy ny ret ∈ tbG_) (w6 : Cond.initialized y.cls ∈ tbG_) (w2 : Cond.static y ∈ tbG_) (hy : y.cls ≠ "java/lang/invoke/MethodHandle" ∧ y.cls ≠ "java/lang/invoke/VarHandle" ∧ (parseMethodDescriptor y.desc).map (fun d => d.parameters.length) = some As.length) (hrm : rm.cells = mc ∧ rm.slots = ms) (hfr : rm.frames + 1 ≤ R.frames) (hlo : 8 + (ny + 11) + rm.locals ≤ R.locals) (h1 : n + mc ≤ R.cells) (h2 : k + ms ≤ R.slots) (hsr : (S.map fun v => v.category).sum ≤ 8) (hst : st = As.reverse ++ S) (hd : decode cc pc = .ok (.invokestatic i, 3))
    (kk : ∀ M' r, K M' r → kd_ M' r ≠ 0 → Nk_ M M' → V_ p l e R s m args below meth c nL D M0 Q (pc + 3) L (.ref r :: S) M' (n + mc) (k + ms)) : V_ p l e R s m args below meth c nL D M0 Q pc L st M n k := fun H locs ls hR hN hl hS => by
  obtain ⟨gx, gb, gml, go, gt, gK, -⟩ := g
  have hA : ∀ q : Nat, Aw_ M H.size q → Aw_ M0 s.heap.size q := fun q h => hN.aw hS.1 h
  refine va_callr (va_runS (As := As) (rest := S) ⟨gx, gb, gml, go, gt⟩ (hM H.size) ⟨cb_of gt w1 w5 w6 hy hrm hfr hlo h1 h2 hsr, gt _ w2⟩ ⟨cPc_blind _ _ _ _, fun U hU hW => ⟨rfl, by rw [hU], by rw [hU]; exact hR.moved hW.alike, gK.warm hW⟩⟩ rfl rfl hl.1 hst (by show 2 * 0 + _ ≤ _; omega) hd ⟨h1, h2⟩) hS (fun q _ h => hA q h) hA (fun u ra t H1 locs1 ht hvm hp hB hz1 hk1 hS1 => ?_)
  obtain ⟨hp, hB0, hB⟩ := hB
  have hR1 := Rp_.moved hvm.symm hB.1
  rw [ht] at hR1
  exact kk u ra hp hB0 hB.2.1 H1 locs1 ls hR1 (hN.tr hS.1 hB.2) hl hS1
theorem r_callNv (g : G_ p s m args meth c cc nL own D M0) {y : MethodName} {cy : ByteArray} {ny i mc ms : Nat} {rm : Room} {As st : List Value} {b : Nat} {host : String} {K : Mm → Prop} (hM : ∀ sz, Met l y (Cond.code y cy ny none :: tbG_) rm (cPc_ D M sz (.ref b :: As)) (va_Qv (fun M' => K M') (cB_ D M sz) (Aw_ M sz)) mc ms (Aw_ M sz)) (w1 : Cond.methodLinkNest own i y host ∈ xw_) (w5 : Cond.code y cy ny none ∈ tbG_) (w6 : Cond.initialized y.cls ∈ tbG_) (w2 : Cond.instanceMethod y ∈ tbG_) (hy1 : y.name = "<init>") (hy : y.cls ≠ "java/lang/invoke/MethodHandle" ∧ y.cls ≠ "java/lang/invoke/VarHandle" ∧ (parseMethodDescriptor y.desc).map (fun d => d.parameters.length) = some As.length) (hrm : rm.cells = mc ∧ rm.slots = ms) (hfr : rm.frames + 1 ≤ R.frames) (hlo : 8 + (ny + 11) + rm.locals ≤ R.locals) (h1 : n + mc ≤ R.cells) (h2 : k + ms ≤ R.slots) (hsr : (S.map fun v => v.category).sum ≤ 8) (hst : st = As.reverse ++ .ref b :: S) (hd : decode cc pc = .ok (.invokespecial i, 3))
    (kk : ∀ M', K M' → Nk_ M M' → V_ p l e R s m args below meth c nL D M0 Q (pc + 3) L S M' (n + mc) (k + ms)) : V_ p l e R s m args below meth c nL D M0 Q pc L st M n k := fun H locs ls hR hN hl hS => by
  obtain ⟨gx, gb, gml, go, gt, gK, -⟩ := g
  have hA : ∀ q : Nat, Aw_ M H.size q → Aw_ M0 s.heap.size q := fun q h => hN.aw hS.1 h
  refine va_callv (va_runIN (As := As) (rest := S) ⟨gx, gb, gml, go, gt⟩ (hM H.size) ⟨va_cnB As.length gt (tb_goodIn w5) rfl hrm.1 hrm.2 (gK.2.2.1 _ w1) (gt _ w6) hy ⟨hfr, hlo⟩, hy1, gt _ w2⟩ ⟨cPc_blind _ _ _ _, fun U hU hW => ⟨rfl, by rw [hU], by rw [hU]; exact hR.moved hW.alike, gK.warm hW⟩⟩ rfl rfl hl.1 hst (by show 2 * 0 + _ ≤ _; omega) hd ⟨h1, h2⟩) hS (fun q _ h => hA q h) hA (fun u t H1 locs1 ht hvm hp hB hz1 hk1 hS1 => ?_)
  have hR1 := Rp_.moved hvm.symm hB.1
  rw [ht] at hR1
  exact kk u hp hB.2.1 H1 locs1 ls hR1 (hN.tr hS.1 hB.2) hl hS1
theorem r_iret (g : G_ p s m args meth c cc nL own D M0) {r : Int32} {mc ms : Nat} {K : Mm → Int32 → Prop} (hr : meth.sig.returnType = some .int) (h1 : n ≤ mc) (h2 : k ≤ ms) (hQ : Q = MQ below (va_Qi (fun r M' => K M' r) (cB_ D M0 s.heap.size) (Aw_ M0 s.heap.size)) args s mc ms (Aw_ M0 s.heap.size)) (hd : decode cc pc = .ok (.ireturn, 1)) (hK : K M r) : V_ p l e R s m args below meth c nL D M0 Q pc L [.int r] M n k := fun H locs ls hR hN hl hS => by
  obtain ⟨gx, gb, gml, go, gt, gK, gR, glk⟩ := g
  subst hQ
  refine W.widen h1 h2 ?_
  exact W.iret gx gb hr (fun t ht hW => ⟨⟨r, M, rfl, hK, hR.moved hW.alike |> fun z => by rw [ht]; exact z, hN⟩, hS.F ht⟩) hS.2.2 hd glk
theorem r_zret (g : G_ p s m args meth c cc nL own D M0) {r : Int32} {mc ms : Nat} {K : Mm → Int32 → Prop} (hr : meth.sig.returnType = some .boolean) (h1 : n ≤ mc) (h2 : k ≤ ms) (hQ : Q = MQ below (va_Qi (fun r M' => K M' r ∧ bz_ r) (cB_ D M0 s.heap.size) (Aw_ M0 s.heap.size)) args s mc ms (Aw_ M0 s.heap.size)) (hbz : bz_ r) (hd : decode cc pc = .ok (.ireturn, 1)) (hK : K M r) : V_ p l e R s m args below meth c nL D M0 Q pc L [.int r] M n k := fun H locs ls hR hN hl hS => by
  obtain ⟨gx, gb, gml, go, gt, gK, gR, glk⟩ := g
  subst hQ
  refine W.widen h1 h2 ?_
  exact W.zret gx gb hr (by rcases hbz with rfl | rfl <;> rfl) (fun t ht hW => ⟨⟨r, M, rfl, ⟨hK, hbz⟩, hR.moved hW.alike |> fun z => by rw [ht]; exact z, hN⟩, hS.F ht⟩) hS.2.2 hd glk
theorem r_lret (g : G_ p s m args meth c cc nL own D M0) {r : Int64} {mc ms : Nat} {K : Mm → Int64 → Prop} (hr : meth.sig.returnType = some .long) (h1 : n ≤ mc) (h2 : k ≤ ms) (hQ : Q = MQ below (va_Ql (fun r M' => K M' r) (cB_ D M0 s.heap.size) (Aw_ M0 s.heap.size)) args s mc ms (Aw_ M0 s.heap.size)) (hd : decode cc pc = .ok (.lreturn, 1)) (hK : K M r) : V_ p l e R s m args below meth c nL D M0 Q pc L [.long r] M n k := fun H locs ls hR hN hl hS => by
  obtain ⟨gx, gb, gml, go, gt, gK, gR, glk⟩ := g
  subst hQ
  refine W.widen h1 h2 ?_
  exact W.lret gx gb hr (fun t ht hW => ⟨⟨r, M, rfl, hK, hR.moved hW.alike |> fun z => by rw [ht]; exact z, hN⟩, hS.F ht⟩) hS.2.2 hd glk
theorem r_vret (g : G_ p s m args meth c cc nL own D M0) {mc ms : Nat} {K : Mm → Prop} (hr : meth.sig.returnType = none) (h1 : n ≤ mc) (h2 : k ≤ ms) (hQ : Q = MQ below (va_Qv (fun M' => K M') (cB_ D M0 s.heap.size) (Aw_ M0 s.heap.size)) args s mc ms (Aw_ M0 s.heap.size)) (hd : decode cc pc = .ok (.return_, 1)) (hK : K M) : V_ p l e R s m args below meth c nL D M0 Q pc L [] M n k := fun H locs ls hR hN hl hS => by
  obtain ⟨gx, gb, gml, go, gt, gK, gR, glk⟩ := g
  subst hQ
  refine W.widen h1 h2 ?_
  exact W.vret gx gb hr (fun t ht hW => ⟨⟨M, rfl, hK, hR.moved hW.alike |> fun z => by rw [ht]; exact z, hN⟩, hS.F ht⟩) hS.2.2 hd glk
theorem r_rret (g : G_ p s m args meth c cc nL own D M0) {x : Nat} {mc ms : Nat} {rt : FieldType} {K : Mm → Nat → Prop} (hr : meth.sig.returnType = some rt) (hrt : (∃ n, rt = .object n) ∨ ∃ t, rt = .array t) (h1 : n ≤ mc) (h2 : k ≤ ms) (hQ : Q = MQ below (va_Qr (S := Mm) (fun _ => True) (fun M' a t => K M' a ∧ kd_ M' a ≠ 0 ∧ cB_ D M0 s.heap.size M' t) (Aw_ M0 s.heap.size)) args s mc ms (Aw_ M0 s.heap.size)) (hx : kd_ M x ≠ 0) (hd : decode cc pc = .ok (.areturn, 1)) (hK : K M x) : V_ p l e R s m args below meth c nL D M0 Q pc L [.ref x] M n k := fun H locs ls hR hN hl hS => by
  obtain ⟨gx, gb, gml, go, gt, gK, gR, glk⟩ := g
  subst hQ
  refine W.widen h1 h2 ?_
  exact W.aret gx gb hr hrt (Or.inr ⟨x, rfl⟩) (fun t ht hW => ⟨⟨M, x, rfl, trivial, hK, hx, hR.moved hW.alike |> fun z => by rw [ht]; exact z, hN⟩, hS.F ht⟩) hS.2.2 hd glk
end ROWS
