/-- the start's memory: the script at b, the empty row at ea, z stands for null -/
def m0_ (b L ea z : Nat) (xs : Nat → Int32) : Mm := (fun a => if a = b then (30, L) else if a = ea then (36, 0) else (0, 0), fun _ _ => z, fun _ k => xs k, (fun _ _ => 0, z))
theorem m0_kb (b L ea z : Nat) (xs : Nat → Int32) : kd_ (m0_ b L ea z xs) b = 30 ∧ ln_ (m0_ b L ea z xs) b = L := by
  unfold kd_ ln_ m0_
  dsimp only
  rw [if_pos rfl]
  exact ⟨rfl, rfl⟩
theorem m0_ke {b ea : Nat} (L z : Nat) (xs : Nat → Int32) (h : ea ≠ b) : kd_ (m0_ b L ea z xs) ea = 36 ∧ ln_ (m0_ b L ea z xs) ea = 0 := by
  unfold kd_ ln_ m0_
  dsimp only
  rw [if_neg h, if_pos rfl]
  exact ⟨rfl, rfl⟩
theorem m0_ko {b ea a : Nat} (L z : Nat) (xs : Nat → Int32) (h : a ≠ b) (h2 : a ≠ ea) : kd_ (m0_ b L ea z xs) a = 0 := by
  unfold kd_ m0_
  dsimp only
  rw [if_neg h, if_neg h2]
theorem m0_R {s : State} {D : Dd_} {b L ea z : Nat} {xs : Nat → Int32} (hX : va_X b L xs s s.heap) {cell : Cell} (hc : s.heap[ea]? = some cell) (hof : s.isArrayOf cell (.object "java/lang/Object")) (hkn : cell.vm ≠ .unknown) (h0 : cell.slots.size = 0) (hne : ea ≠ b) (hz : z = D.2.1 101) (hzl : z < s.heap.size) (hzb : b ≠ z) (hze : ea ≠ z) (hD : D.2.2 = ea) (hS : zS_ D s s.heap) : Rp_ s D (m0_ b L ea z xs) s.heap := by
  have kb := m0_kb b L ea z xs
  have ke := m0_ke L z xs hne
  refine ⟨⟨hz, hzl⟩, fun a => ?_, by rw [hD]; exact ke.2, hS, fun a => ?_⟩
  · rw [hD]
    by_cases e : a = b
    · subst e
      rw [kb.1]
      exact ⟨fun y => by omega, fun y => absurd y.symm hne⟩
    · by_cases e2 : a = ea
      · subst e2
        exact ⟨fun _ => rfl, fun _ => ke.1⟩
      · rw [m0_ko L z xs e e2]
        exact ⟨fun y => by omega, fun y => absurd y e2⟩
  · by_cases e : a = b
    · subst e
      obtain ⟨scr, x1, x2, x3, x4, x5⟩ := hX
      refine ⟨⟨fun ci hci hk => ?_, fun t ht hk => ?_, fun t ht hk => ?_⟩, fun _ => ⟨by rw [kb.1]; exact Or.inr (Or.inr ⟨by omega, by omega⟩), hzb⟩⟩
      · rw [kb.1] at hk
        omega
      · rw [kb.1] at hk
        omega
      · rw [kb.1] at hk
        have e0 : t = 0 := by omega
        subst e0
        exact ⟨scr, x1, x2, x3, by rw [kb.2]; exact x4, fun j hj => x5 j (by rw [kb.2] at hj; exact hj)⟩
    · by_cases e2 : a = ea
      · subst e2
        refine ⟨⟨fun ci hci hk => ?_, fun t ht hk => ?_, fun t ht hk => ?_⟩, fun _ => ⟨by rw [ke.1]; exact Or.inr (Or.inr ⟨by omega, by omega⟩), hze⟩⟩
        · rw [ke.1] at hk
          omega
        · rw [ke.1] at hk
          omega
        · rw [ke.1] at hk
          have e0 : t = 6 := by omega
          subst e0
          exact ⟨cell, hc, hof, hkn, by rw [ke.2]; exact h0, fun j hj => by rw [ke.2] at hj; exact absurd hj (Nat.not_lt_zero _)⟩
      · have k0 := m0_ko L z xs e e2
        exact ⟨⟨fun ci hci hk => by omega, fun t ht hk => by omega, fun t ht hk => by omega⟩, fun h => absurd k0 h⟩
theorem m0_M (b L ea z : Nat) (xs : Nat → Int32) (a : Nat) : kd_ (m0_ b L ea z xs) a = 0 ∨ 30 ≤ kd_ (m0_ b L ea z xs) a := by
  by_cases e : a = b
  · subst e
    exact Or.inr (by rw [(m0_kb a L ea z xs).1]; exact Nat.le_refl _)
  · by_cases e2 : a = ea
    · subst e2
      exact Or.inr (by rw [(m0_ke L z xs e).1]; decide)
    · exact Or.inl (m0_ko L z xs e e2)
theorem ws_tr {l : Launch} (h : l.flags = flags0) : l.stackTraces = false := by
  unfold Launch.stackTraces
  rw [h]
  decide +kernel
theorem ws_ne {s : State} {b ea : Nat} {c1 c2 : Cell} (h1 : s.heap[b]? = some c1) (h2 : s.heap[ea]? = some c2) (i1 : s.isArrayOf c1 .int) (i2 : s.isArrayOf c2 (.object "java/lang/Object")) : ea ≠ b := by
  intro e
  subst e
  cases h1.symm.trans h2
  obtain ⟨-, k, hk, cm, hkind⟩ := i1
  obtain ⟨-, k', hk', cm', hkind'⟩ := i2
  cases hk.symm.trans hk'
  rw [hkind] at hkind'
  cases hkind'
theorem ws_st {s : State} {a q : Nat} {c1 c2 : Cell} {ty : FieldType} (h1 : s.heap[a]? = some c1) (i1 : s.isArrayOf c1 ty) (h2 : s.heap[q]? = some c2) (i2 : c2.vm.isStatics = true) : a ≠ q := by
  intro e
  subst e
  cases h1.symm.trans h2
  cases hv : c1.vm <;> rw [hv] at i2 <;> first | exact absurd hv (i1.1 _) | cases i2
set_option maxHeartbeats 4000000 in
theorem whole_start {p : Program} {e : Env} {s : State} {m : MethodId} {below : List Frame} {meth : Method} {c : Code} (l : Launch) (hflags : l.flags = flags0) {b L : Nat} {xs : Nat → Int32} (hL : L ≤ 260) (C0 : lw_At p s m meth c b L xs) : W p l e room_1 s m #[Value.ref b] below meth c s.heap [] 0 0 (lw_Z below #[Value.ref b] s) (entryFrame m ([Value.ref b] : List Value).toArray 6) := by
  obtain ⟨hx, hb, hr, hml, hown, hts, hX, hbl, hlocks, hgv⟩ := C0
  have hn := flat_of_before _ hgv
  obtain ⟨dC, dI, hC⟩ := ws_cls hts
  obtain ⟨dA, hA⟩ := ws_arr hts
  obtain ⟨ea, cell, he1, he2, he3, he4, he5⟩ := ws_row (tm := .static "java/util/ArrayList" "DEFAULTCAPACITY_EMPTY_ELEMENTDATA" "[Ljava/lang/Object;") (ty := .object "java/lang/Object") (hn _ (by decide +kernel)) (hn _ (by decide +kernel))
  obtain ⟨mi, hmi⟩ := va_Mi.of (args := #[Value.ref b]) (s := s) (C := "[Ljava/lang/Object;") (hn _ (by decide +kernel))
  have hZ := va_Zof (A := fun _ => False) (hts (.laysStatic "java/util/ArrayList" "DEFAULTCAPACITY_EMPTY_ELEMENTDATA" "[Ljava/lang/Object;") (by decide +kernel)) (hts (.initialized "java/util/ArrayList") (by decide +kernel)) he1 (fun _ _ z => z)
  obtain ⟨z, zc, hz1, hz2⟩ : ∃ (z : Nat) (zc : Cell), s.heap[z]? = some zc ∧ zc.vm.isStatics = true := by
    obtain ⟨_, _, _, _, a, zc, -, -, -, -, h5, h6, -⟩ := hZ
    exact ⟨a, zc, h5, h6⟩
  have hU := vx_Zqof (A := fun _ => False) (hts (.laysStatic Bundle.tN "UNASSIGNED_STACK" Bundle.steD) (by decide +kernel)) (hts (.initialized Bundle.tN) (by decide +kernel)) (hn _ (by decide +kernel)) (fun _ _ z => z)
  have hV := vx_Zqof (A := fun _ => False) (hts (.laysStatic Bundle.tN "SUPPRESSED_SENTINEL" Bundle.listD) (by decide +kernel)) (hts (.initialized Bundle.tN) (by decide +kernel)) (hn _ (by decide +kernel)) (fun _ _ z => z)
  obtain ⟨scr, x1, x2, -⟩ := id hX
  have hne := ws_ne x1 he2 x2 he3
  have hK : Kn_ ((dC, dI), fun t => if t = 100 then mi else if t = 101 then z else dA t, ea) s := by
    refine ⟨hC, fun t ht => ?_, ws_words hts, hmi, va_Dc.of (hts _ (by decide +kernel)), va_Nc.of (hn _ (by decide +kernel)), ?_, ?_⟩
    · show ArrOfT s (if t = 100 then mi else if t = 101 then z else dA t) _ ∧ va_RA s (if t = 100 then mi else if t = 101 then z else dA t) _
      rw [if_neg (by omega), if_neg (by omega)]
      exact hA t ht
    · have h1 : ∀ q ∈ ss_, Cond.stringRef q.1 q.2.1 q.2.2 ∈ lw_tbl ∧ Cond.exactly (.string q.1 q.2.1) "java/lang/String" ∈ flatC (Jvm.Cond.and given_1 narrow_1) ∧ q.1 = "ColdFrame" := by decide +kernel
      intro q hq
      obtain ⟨w1, w2, w3⟩ := h1 q hq
      obtain ⟨q1, q2, q3⟩ := q
      have w3 : q1 = "ColdFrame" := w3
      subst w3
      exact ws_str (hts _ w1) (hn _ w2)
    · have h1 : ∀ y ∈ dd_, Cond.declares y ∈ lw_tbl := by decide +kernel
      exact fun y hy => va_Nw.of rfl (hts _ (h1 y hy))
  have hR : Rp_ s ((dC, dI), fun t => if t = 100 then mi else if t = 101 then z else dA t, ea) (m0_ b L ea z xs) s.heap :=
    m0_R hX he2 he3 he4 he5 hne rfl (Array.getElem?_eq_some_iff.mp hz1).1 (ws_st x1 x2 hz1 hz2) (ws_st he2 he3 hz1 hz2) rfl ⟨hZ, hU, hV⟩
  have g : G_ p s m #[Value.ref b] meth c code 6 RL ((dC, dI), fun t => if t = 100 then mi else if t = 101 then z else dA t, ea) (m0_ b L ea z xs) :=
    ⟨hx, hb, hml, hown, fun w hw => hts w (List.mem_filter.mp hw).1, hK, hR, hlocks⟩
  have hl := lv_entry ([.ref b]) (n := 6) (Nat.le_of_ble_eq_true rfl)
  rw [lg_entry_eq]
  generalize (lg_sl ([.ref b]) ++ List.replicate (6 - (lg_sl ([.ref b])).length) Slot.unset).toArray = ls at hl ⊢
  have hl : lv_has ls 6 [(0, .ref b)] := hl
  exact vt_L_law (K := fun _ r => r = 1) (ws_tr hflags) g hr rfl (m0_M b L ea z xs) (fun _ _ h => h) rfl (sp_law (m0_kb b L ea z xs).1 (m0_M b L ea z xs) (by rw [(m0_kb b L ea z xs).2]; exact hL)) s.heap [] ls hR (Nw_.rf _ _) hl va_S.rf
set_option maxHeartbeats 4000000 in
theorem lw_walk (l : Launch) (hflags : l.flags = flags0) (b : Addr) (xs : List Int32) : MetFree l x (headSpec (Jvm.Cond.code x code maxLocals ret :: tables_1) room_1) (lw_P b xs) (fun _ _ _ _ _ => True) lw_Q := by
  refine MetFree.of_bodyS (code := code) (maxLocals := maxLocals) (ret := ret) (by decide) ?_ ?_
  · intro args s m h hn
    obtain ⟨meth, c, h1, h2, h3, h4, h5, h6, -, -⟩ := Cond.code_spec hn (atoms_spec (ws := Jvm.Cond.code x code maxLocals ret :: tables_1) h _ List.mem_cons_self)
    exact ⟨meth, c, h1, h2, h3, h4, h5, h6⟩
  · intro p e s m args below meth c s₁ B hml0 hP _
    obtain ⟨rfl, hx, hbd, hgv⟩ := hP
    obtain ⟨scr, harrAt, hlist, hof, hsmall⟩ := hx
    obtain ⟨hcb, hkn, -, -⟩ := State.arrayAt?_spec harrAt
    have hown : s.vm.findClass R_law = some m.cls := findClass_of_methodNamed B.named
    have hts0 : ∀ c ∈ (Jvm.Cond.code x code maxLocals ret :: tables_1), c.before #[Value.ref b] s = true := atoms_spec (ws := Jvm.Cond.code x code maxLocals ret :: tables_1) B.pre
    have hts : ∀ w ∈ lw_tbl, w.before #[Value.ref b] s = true := k2_hts_sels lw_privs (fun w hw => hts0 w (List.mem_cons_of_mem _ hw)) lw_privs_ok
    have hml : c.maxLocals = 6 := B.maxLocals_eq (hts0 _ List.mem_cons_self)
    have X₀ : Stand p l e room_1 s m #[Value.ref b] below meth c s₁ [] 0 0 := Stand.of_body B
    have hh0 : s₁.heap = s.heap := by rw [B.state]; rfl
    have hsz : scr.slots.size = xs.length := by rw [← Array.length_toList, hlist, List.length_map]
    have hval : ∀ j : Nat, j < xs.length → scr.slots[j]? = some (.int (xs.getD j 0)) := fun j hj => by
      rw [← Array.getElem?_toList, hlist]
      simp [hj]
    have hbl : b < s.heap.size := (Array.getElem?_eq_some_iff.mp hcb).1
    have hX : va_X b xs.length (fun j => xs.getD j 0) s s.heap := ⟨scr, hcb, hof, hkn, hsz, hval⟩
    have K : W p l e room_1 s m #[Value.ref b] below meth c s₁.heap [] 0 0 (lw_Z below #[Value.ref b] s) (entryFrame m ([Value.ref b] : List Value).toArray 6) := by
      rw [hh0]
      exact whole_start l hflags hbd ⟨B.exec, B.bytes, B.returns, hml, hown, hts, hX, hbl, B.notSynchronized, hgv⟩
    obtain ⟨t, a1, o, b1, b2, b3⟩ := K s₁ rfl X₀
    exact ⟨t, o, a1, b1, b2, b3⟩
theorem lw_pre_spec {args : Array Value} {s : State} (h : (Jvm.Cond.and given_1 narrow_1).before args s = true) (hr : rest_1_c.before args s = true) : ∃ (b : Addr) (xs : List Int32), lw_P b xs args s := by
  have hs := flat_of_before _ h
  have hq := flat_of_before _ hr
  have hc : (Cond.count 1).before args s = true := hs _ (by decide +kernel)
  have harr : (Cond.arrayOf (.arg 0) .int).before args s = true := hs _ (by decide +kernel)
  have hle : (Cond.le (.length (.arg 0)) (.int 260)).before args s = true := hs _ (by decide +kernel)
  have hlen : (Cond.isInt (.length (.arg 0))).before args s = true := hq _ (by decide +kernel)
  have hall : (Cond.all (.arg 0) (.isInt (.elem (.arg 0) (.index 0)))).before args s = true := hq _ (by decide +kernel)
  obtain ⟨b, xs, hb, hx⟩ := State.ints_of_pre rfl harr hlen hall
  have hsm : xs.length < 2 ^ 31 := hx.choose_spec.2.2.2
  have hev : (Term.length (.arg 0)).eval args s none [] s = some (.int xs.length.toInt32) := hx.length_eval hb
  have hv := Cond.le_ints hev (show (Term.int 260).eval args s none [] s = some (.int 260) from rfl)
  have hd : xs.length.toInt32 ≤ 260 := by
    simpa [Cond.before, Cond.holds, hv] using hle
  have hN : xs.length ≤ 260 := (Int32.ofNat_le_ofNat hsm (by decide)).mp (show Int32.ofNat xs.length ≤ Int32.ofNat 260 from hd)
  exact ⟨b, xs, Cond.one_arg hc (show args[0]? = some (.ref b) from hb), hx, hN, h⟩
theorem lw_comes (l : Launch) (hflags : l.flags = flags0) : Comes l x (Jvm.Cond.code x code maxLocals ret :: tables_1) room_1 (fun tb e args s => Calls_1 tb e args s ∧ rest_1 tb e args s ∧ Pre_1 tb e args s)
    (fun _ _ args s o t => lw_Q args s o t) := by
  intro p e ha hc hk s m args below hf hfit hheap happ hpre
  obtain ⟨b, xs, hP⟩ := lw_pre_spec hpre.2.2 hpre.2.1
  obtain ⟨k, o, h1, h2, h3, hQ⟩ := lw_walk l hflags b xs p e ha hc hk s m args below hf ((Spec.applies_iff_loose hf).mp happ).1 hP trivial
  exact ⟨k, o, h1, h2, h3, hQ⟩
theorem lw_frame {s t : State} {o : Outcome} {args : Array Value} (h : Framed s o t [] 600104 7301314) :
    Framed s o t (fieldLocs frame_1_writes args s ++ arrayLocs frame_1_arrays args s ++ staticLocs frame_1_statics s) 600104 7301314 := h
theorem lw_limb (L : Cond) (hL : ∀ (args : Array Value) (s t : State), L.after args s (.returned (some (.int 1))) t = true) :
    ArmFor flags0 classFile x code maxLocals ret World_1 tables_1 room_1 Calls_1 rest_1 Pre_1
      (fun tb e a s o t => postC L tb e a s o t ∧ Framed s o t (fieldLocs frame_1_writes a s ++ arrayLocs frame_1_arrays a s ++ staticLocs frame_1_statics s) 600104 7301314) := by
  intro l hflags _ _ p e ha hc hk s m args below hf hfit hheap happ hpre
  obtain ⟨k, o, h1, h2, h3, rfl, hF⟩ := lw_comes l hflags p e ha hc hk s m args below hf hfit hheap happ hpre
  exact ⟨k, _, h1, h2, h3, hL args s _, lw_frame hF⟩
theorem i_vc : Claimed_1_1 ∧ Claimed_1_2 := ⟨lw_limb limb_1_1 (fun args s t => by simp [limb_1_1, Cond.after, Cond.holds, Cond.value]), lw_limb limb_1_2 (fun args s t => Cond.after_iff.mpr (by
  first | (rw [show limb_1_2 = Cond.eq .result (.int 1) from rfl, Cond.eq_ints (x := 1) (y := 1) rfl rfl]; simp; done) | (simp [limb_1_2, Cond.value, Term.eval]; done)))⟩
