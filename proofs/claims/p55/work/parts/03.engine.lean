/-! THE MEMORY that the walks speak of: kinds and lengths, references, ints, longs, each by address and place. A method's walk says what it does to it; nothing here is of one method. -/
abbrev Mm : Type := (Nat → Nat × Nat) × (Nat → Nat → Nat) × (Nat → Nat → Int32) × ((Nat → Nat → Int64) × Nat)
def kd_ (M : Mm) (a : Nat) : Nat := (M.1 a).1
def ln_ (M : Mm) (a : Nat) : Nat := (M.1 a).2
def rf_ (M : Mm) (a k : Nat) : Nat := M.2.1 a k
def it_ (M : Mm) (a k : Nat) : Int32 := M.2.2.1 a k
def lg_ (M : Mm) (a k : Nat) : Int64 := M.2.2.2.1 a k
/-- the number that stands for null: an address of a cell that no reference of ours names -/
def nz_ (M : Mm) : Nat := M.2.2.2.2
def up2_ {α : Type} (f : Nat → Nat → α) (a k : Nat) (v : α) : Nat → Nat → α := fun b j => if b = a ∧ j = k then v else f b j
def rw2_ {α : Type} (f : Nat → Nat → α) (a : Nat) (v : Nat → α) : Nat → Nat → α := fun b j => if b = a then v j else f b j
def sR_ (M : Mm) (a k : Nat) (v : Nat) : Mm := (M.1, up2_ M.2.1 a k v, M.2.2.1, M.2.2.2)
def sI_ (M : Mm) (a k : Nat) (v : Int32) : Mm := (M.1, M.2.1, up2_ M.2.2.1 a k v, M.2.2.2)
def sL_ (M : Mm) (a k : Nat) (v : Int64) : Mm := (M.1, M.2.1, M.2.2.1, (up2_ M.2.2.2.1 a k v, M.2.2.2.2))
/-- a whole row of ints, of references -/
def aI_ (M : Mm) (a : Nat) (f : Nat → Int32) : Mm := (M.1, M.2.1, rw2_ M.2.2.1 a f, M.2.2.2)
def aR_ (M : Mm) (a : Nat) (f : Nat → Nat) : Mm := (M.1, rw2_ M.2.1 a f, M.2.2.1, M.2.2.2)
/-- a new cell of kind c and length n at q -/
def nw_ (M : Mm) (q c n : Nat) : Mm := (fun b => if b = q then (c, n) else M.1 b, rw2_ M.2.1 q (fun _ => M.2.2.2.2), rw2_ M.2.2.1 q (fun _ => 0), (rw2_ M.2.2.2.1 q (fun _ => 0), M.2.2.2.2))
def rv_ (M : Mm) (r : Nat) : Value := if r = nz_ M then .null else .ref r
def ix_ (i : Int32) : Nat := i.toNatClampNeg
def bz_ (x : Int32) : Prop := x = 0 ∨ x = 1
/-- a field's type: 0 an int, 1 a long, 2 a reference, 3 a boolean -/
def ft_ (ci k : Nat) : Nat := match ci with
  | 0 => if k = 1 then 2 else 0
  | 1 => if k < 2 then 2 else 0
  | 2 => if k < 2 then 2 else if k < 4 then 3 else 0
  | 3 => 0
  | 4 => if k < 1 then 2 else 0
  | 5 => if k < 1 then 2 else 0
  | 6 => if k = 1 then 0 else if k = 2 then 0 else if k = 4 then 0 else 2
  | 7 => if k = 0 then 2 else if k < 4 then 0 else if k = 4 then 3 else if k = 6 then 0 else 2
  | 8 => 2
  | 9 => if k < 6 then 2 else if k < 9 then 0 else 2
  | 10 => if k < 7 then 0 else if k = 7 then 2 else 1
  | _ => if k < 4 then 2 else 0
def fv_ (M : Mm) (ci a k : Nat) : Value := if ft_ ci k = 2 then rv_ M (rf_ M a k) else if ft_ ci k = 1 then .long (lg_ M a k) else .int (it_ M a k)
/-- arrays: 0 ints, 1 booleans, 2 longs, 3 zones, 4 conditions, 5 groups, 6 objects -/
def ty_ (t : Nat) : FieldType := match t with
  | 0 => .int
  | 1 => .boolean
  | 2 => .long
  | 3 => .object "ColdFrame$Zone"
  | 4 => .object "ColdFrame$Condition"
  | 5 => .object "ColdFrame$Group"
  | _ => .object "java/lang/Object"
def av_ (M : Mm) (t a j : Nat) : Value := if t < 2 then .int (it_ M a j) else if t = 2 then .long (lg_ M a j) else rv_ M (rf_ M a j)
/-- the numbers of the classes and of their fields' slots; of the arrays' classes; the address of the empty row of the lists -/
abbrev Dd_ : Type := va_G × (Nat → ClassId) × Nat
def nf_ (ci : Nat) : Nat := match vwCl[ci]? with
  | some q => q.2.2
  | none => 0
def cO_ (D : Dd_) (M : Mm) (H : Heap) (a : Nat) : Prop := ∀ ci, ci < 12 → kd_ M a = ci + 1 → t_OB a (D.1.1 ci) (nf_ ci) (D.1.2 ci) H (fv_ M ci a) ∧ ∀ k, ft_ ci k = 3 → bz_ (it_ M a k)
def cA_ (D : Dd_) (M : Mm) (H : Heap) (a : Nat) : Prop := ∀ t, t < 7 → kd_ M a = 20 + t → H[a]? = some (arrV (D.2.1 t) (ln_ M a) (av_ M t a)) ∧ (t = 1 → ∀ j, j < ln_ M a → bz_ (it_ M a j))
def cR_ (s : State) (M : Mm) (H : Heap) (a : Nat) : Prop := ∀ t, t < 7 → kd_ M a = 30 + t → ∃ cell : Cell, H[a]? = some cell ∧ s.isArrayOf cell (ty_ t) ∧ cell.vm ≠ .unknown ∧ cell.slots.size = ln_ M a ∧ ∀ j, j < ln_ M a → cell.slots[j]? = some (av_ M t a j)
def zS_ (D : Dd_) (s : State) (H : Heap) : Prop := va_Z "java/util/ArrayList" "DEFAULTCAPACITY_EMPTY_ELEMENTDATA" "[Ljava/lang/Object;" (.ref D.2.2) (fun _ => False) s H ∧ vx_Zq Bundle.tN "UNASSIGNED_STACK" Bundle.steD (fun _ => False) s H ∧ vx_Zq Bundle.tN "SUPPRESSED_SENTINEL" Bundle.listD (fun _ => False) s H
/-- a kind that is some kind -/
def ok_ (c : Nat) : Prop := (1 ≤ c ∧ c < 13) ∨ (20 ≤ c ∧ c < 27) ∨ (30 ≤ c ∧ c < 37)
def Rp_ (s : State) (D : Dd_) (M : Mm) (H : Heap) : Prop := (nz_ M = D.2.1 101 ∧ nz_ M < H.size) ∧ (∀ a, kd_ M a = 36 ↔ a = D.2.2) ∧ ln_ M D.2.2 = 0 ∧ zS_ D s H ∧ ∀ a, (cO_ D M H a ∧ cA_ D M H a ∧ cR_ s M H a) ∧ (kd_ M a ≠ 0 → ok_ (kd_ M a) ∧ a ≠ nz_ M)
/-- the words that a state says by itself -/
def xk_ : Cond → Bool
  | .methodLinkNest _ _ _ _ => true
  | .castable _ _ => true
  | .arrayOver (.object _) => true
  | _ => false
def xw_ : List Cond := lw_tbl.filter xk_
/-- the Strings of the throws that an act may come to: class, place, text -/
def ss_ : List (String × Nat × String) := [("ColdFrame", 350, "no such row"), ("ColdFrame", 352, "no such frame"), ("ColdFrame", 107, "the row is not alive"), ("ColdFrame", 129, "the buffer has no rows"), ("ColdFrame", 146, "no frame is behind it"), ("ColdFrame", 153, "one frame takes at most 64 rows"), ("ColdFrame", 224, "the group has 4 conditions"), ("ColdFrame", 230, "there are 4 groups"), ("ColdFrame", 232, "the latest group is empty"), ("ColdFrame", 348, "no such column")]
/-- constructors of the throws that are declared -/
def dd_ : List MethodName := [⟨"java/lang/RuntimeException", "<init>", "(Ljava/lang/String;)V"⟩, ⟨"java/lang/Exception", "<init>", "(Ljava/lang/String;)V"⟩, ⟨"java/lang/Throwable", "<init>", "(Ljava/lang/String;)V"⟩]
theorem dcl_moved {y : MethodName} {u U : State} (hvm : u.vm.Alike U.vm) (h : va_Nw (Cond.declares y) u) : va_Nw (Cond.declares y) U := by
  have h1 : (Cond.declares y).before #[] (u.setVm U.vm) = true := by
    rw [Cond.declares_setVm hvm]
    exact h
  have e := Cond.onTables_vm (A := #[]) (A' := #[]) (U := u) (U' := U) U.vm (Cond.declares y) rfl
  have hU : U.setVm U.vm = U := rfl
  rw [hU] at e
  unfold va_Nw
  rw [← e]
  exact h1
/-- what else a state says by itself: the class object of the rows of objects (its address is D.2.1 100), a pair of classes that isn't castable, the Strings -/
def Ke_ (D : Dd_) (s : State) : Prop := va_Mi "[Ljava/lang/Object;" (D.2.1 100) s ∧ va_Dc s ∧ va_Nc "java/lang/IllegalStateException" "java/lang/IndexOutOfBoundsException" s ∧ (∀ q ∈ ss_, ∃ sa : Nat, vk_R q.1 q.2.1 q.2.2 sa s) ∧ ∀ y ∈ dd_, va_Nw (Cond.declares y) s
theorem Ke_.warm {u U : State} {D : Dd_} (hW : u.WarmedH U.vm) (h : Ke_ D u) : Ke_ D U := ⟨h.1.moved hW.alike, h.2.1.moved hW.alike, h.2.2.1.moved hW.alike, fun q hq => by
  obtain ⟨sa, h9⟩ := h.2.2.2.1 q hq
  exact ⟨sa, h9.warm hW⟩, fun y hy => dcl_moved hW.alike (h.2.2.2.2 y hy)⟩
theorem Ke_.same {u U : State} {D : Dd_} (hvm : u.vm = U.vm) (h : Ke_ D u) : Ke_ D U := by
  have ha : u.vm.Alike U.vm := hvm ▸ Vm.Alike.refl u.vm
  exact ⟨h.1.moved ha, h.2.1.moved ha, h.2.2.1.moved ha, fun q hq => by
    obtain ⟨sa, h9⟩ := h.2.2.2.1 q hq
    exact ⟨sa, h9.same hvm.symm⟩, fun y hy => dcl_moved ha (h.2.2.2.2 y hy)⟩
def Kn_ (D : Dd_) (s : State) : Prop := (∀ (c : Nat) (q : vw_C), vwCl[c]? = some q → u_Kn s q.1 q.2.1 q.2.2 (D.1.1 c) (D.1.2 c)) ∧ (∀ t, t < 7 → ArrOfT s (D.2.1 t) (ty_ t) ∧ va_RA s (D.2.1 t) (ty_ t)) ∧ (∀ w ∈ xw_, va_Nw w s) ∧ Ke_ D s
def Aw_ (M : Mm) (sz : Nat) : Nat → Prop := fun q => (kd_ M q ≠ 0 ∧ kd_ M q < 30) ∨ sz ≤ q
def Nk_ (M M' : Mm) : Prop := ∀ a, kd_ M a ≠ 0 → M'.1 a = M.1 a
def Nw_ (M0 : Mm) (sz : Nat) (M : Mm) : Prop := Nk_ M0 M ∧ ∀ a, kd_ M0 a = 0 → kd_ M a ≠ 0 → sz ≤ a
theorem Nk_.rf (M : Mm) : Nk_ M M := fun _ _ => rfl
theorem Nk_.tr {M M1 M2 : Mm} (h : Nk_ M M1) (h2 : Nk_ M1 M2) : Nk_ M M2 := fun a ha => by
  have e := h a ha
  rw [← e]
  exact h2 a (by unfold kd_; rw [e]; exact ha)
theorem Nk_.k {M M1 : Mm} {a c : Nat} (h : Nk_ M M1) (hc : kd_ M a = c) (h0 : c ≠ 0) : kd_ M1 a = c := by
  have e := h a (by rw [hc]; exact h0)
  rw [← hc]
  unfold kd_
  rw [e]
theorem Nk_.n {M M1 : Mm} {a c : Nat} (h : Nk_ M M1) (hc : kd_ M a = c) (h0 : c ≠ 0) : ln_ M1 a = ln_ M a := by
  have e := h a (by rw [hc]; exact h0)
  unfold ln_
  rw [e]
theorem Nw_.rf (M : Mm) (sz : Nat) : Nw_ M sz M := ⟨Nk_.rf M, fun _ h h2 => absurd h h2⟩
theorem Nw_.tr {M M1 M2 : Mm} {sz sz2 : Nat} (h : Nw_ M sz M1) (hs : sz ≤ sz2) (h2 : Nw_ M1 sz2 M2) : Nw_ M sz M2 := by
  refine ⟨h.1.tr h2.1, fun a h0 h3 => ?_⟩
  by_cases h1 : kd_ M1 a = 0
  · exact Nat.le_trans hs (h2.2 a h1 h3)
  · exact h.2 a h0 h1
theorem Nw_.same {M0 M M1 : Mm} {sz : Nat} (h : Nw_ M0 sz M) (e : M1.1 = M.1) : Nw_ M0 sz M1 := by
  refine ⟨fun a ha => by rw [e]; exact h.1 a ha, fun a h0 h1 => h.2 a h0 ?_⟩
  unfold kd_ at h1 ⊢
  rw [← e]
  exact h1
theorem Nw_.aw {M0 M : Mm} {sz sz2 q : Nat} (h : Nw_ M0 sz M) (hs : sz ≤ sz2) (hq : Aw_ M sz2 q) : Aw_ M0 sz q := by
  rcases hq with ⟨h1, h2⟩ | h1
  · by_cases h0 : kd_ M0 q = 0
    · exact Or.inr (h.2 q h0 h1)
    · have e := h.1.k rfl h0
      exact Or.inl ⟨h0, by rw [← e]; exact h2⟩
  · exact Or.inr (Nat.le_trans hs h1)
theorem kd_nw_ {M : Mm} {q c n e d : Nat} (h0 : kd_ M q = 0) (h : kd_ M e = d) (hd : d ≠ 0) : kd_ (nw_ M q c n) e = d := by
  have hne : ¬ e = q := fun z => hd (by rw [← h, z, h0])
  unfold kd_ nw_
  dsimp only
  rw [if_neg hne]
  exact h
theorem kd_nq_ (M : Mm) (q c n : Nat) : kd_ (nw_ M q c n) q = c := by
  unfold kd_ nw_
  dsimp only
  rw [if_pos rfl]
theorem ln_nq_ (M : Mm) (q c n : Nat) : ln_ (nw_ M q c n) q = n := by
  unfold ln_ nw_
  dsimp only
  rw [if_pos rfl]
theorem Nk_nw_ {M : Mm} {q c n : Nat} (h0 : kd_ M q = 0) : Nk_ M (nw_ M q c n) := fun a ha => by
  have hne : ¬ a = q := fun z => ha (by rw [z]; exact h0)
  unfold nw_
  dsimp only
  rw [if_neg hne]
/-! reading back -/
theorem it_sI (M : Mm) (a k : Nat) (v : Int32) (b j : Nat) : it_ (sI_ M a k v) b j = if b = a ∧ j = k then v else it_ M b j := rfl
theorem lg_sL (M : Mm) (a k : Nat) (v : Int64) (b j : Nat) : lg_ (sL_ M a k v) b j = if b = a ∧ j = k then v else lg_ M b j := rfl
theorem rf_sR (M : Mm) (a k : Nat) (v : Nat) (b j : Nat) : rf_ (sR_ M a k v) b j = if b = a ∧ j = k then v else rf_ M b j := rfl
theorem it_aI (M : Mm) (a : Nat) (f : Nat → Int32) (b j : Nat) : it_ (aI_ M a f) b j = if b = a then f j else it_ M b j := rfl
theorem rf_aR (M : Mm) (a : Nat) (f : Nat → Nat) (b j : Nat) : rf_ (aR_ M a f) b j = if b = a then f j else rf_ M b j := rfl
/-! an update of one cell that is there -/
def ag_ (M M' : Mm) (a : Nat) : Prop := (M'.1 = M.1 ∧ nz_ M' = nz_ M) ∧ ∀ b, b ≠ a → ∀ k, rf_ M' b k = rf_ M b k ∧ it_ M' b k = it_ M b k ∧ lg_ M' b k = lg_ M b k
theorem ag_sR (M : Mm) (a k v : Nat) : ag_ M (sR_ M a k v) a := ⟨⟨rfl, rfl⟩, fun b hb j => ⟨if_neg (fun h => hb h.1), rfl, rfl⟩⟩
theorem ag_sI (M : Mm) (a k : Nat) (v : Int32) : ag_ M (sI_ M a k v) a := ⟨⟨rfl, rfl⟩, fun b hb j => ⟨rfl, if_neg (fun h => hb h.1), rfl⟩⟩
theorem ag_sL (M : Mm) (a k : Nat) (v : Int64) : ag_ M (sL_ M a k v) a := ⟨⟨rfl, rfl⟩, fun b hb j => ⟨rfl, rfl, if_neg (fun h => hb h.1)⟩⟩
theorem ag_aI (M : Mm) (a : Nat) (f : Nat → Int32) : ag_ M (aI_ M a f) a := ⟨⟨rfl, rfl⟩, fun b hb j => ⟨rfl, if_neg hb, rfl⟩⟩
theorem ag_aR (M : Mm) (a : Nat) (f : Nat → Nat) : ag_ M (aR_ M a f) a := ⟨⟨rfl, rfl⟩, fun b hb j => ⟨if_neg hb, rfl, rfl⟩⟩
theorem ag_.kd {M M' : Mm} {a : Nat} (h : ag_ M M' a) (b : Nat) : kd_ M' b = kd_ M b := by unfold kd_; rw [h.1.1]
theorem ag_.ln {M M' : Mm} {a : Nat} (h : ag_ M M' a) (b : Nat) : ln_ M' b = ln_ M b := by unfold ln_; rw [h.1.1]
theorem ag_.fv {M M' : Mm} {a : Nat} (h : ag_ M M' a) {b : Nat} (hb : b ≠ a) (ci : Nat) : fv_ M' ci b = fv_ M ci b := by
  funext k
  obtain ⟨h1, h2, h3⟩ := h.2 b hb k
  unfold fv_ rv_
  rw [h1, h2, h3, h.1.2]
theorem ag_.av {M M' : Mm} {a : Nat} (h : ag_ M M' a) {b : Nat} (hb : b ≠ a) (t : Nat) : av_ M' t b = av_ M t b := by
  funext k
  obtain ⟨h1, h2, h3⟩ := h.2 b hb k
  unfold av_ rv_
  rw [h1, h2, h3, h.1.2]
theorem zS_.kept {D : Dd_} {s : State} {H H' : Heap} (h : zS_ D s H) (hq : ∀ (q : Nat) (cell : Cell), H[q]? = some cell → cell.vm.isStatics = true → H'[q]? = H[q]?) : zS_ D s H' := by
  obtain ⟨h1, ⟨h2, h3⟩, h4, h5⟩ := h
  have hz : ∀ {C n d : String} {v : Value}, va_Z C n d v (fun _ => False) s H → va_Z C n d v (fun _ => False) s H' := by
    intro C n d v h
    obtain ⟨cf, kf, fi, f, a, cell, g1, g2, g3, g4, g5, g6, g7, g8⟩ := h
    exact ⟨cf, kf, fi, f, a, cell, g1, g2, g3, g4, by rw [hq a cell g5 g6]; exact g5, g6, g7, g8⟩
  have hzq : ∀ {C n d : String}, va_Zq C n d (fun _ => False) s H → va_Zq C n d (fun _ => False) s H' := by
    intro C n d h
    rcases h with h | ⟨t, h⟩
    · exact Or.inl (hz h)
    · exact Or.inr ⟨t, hz h⟩
  have hl : ∀ {C n d : String}, vx_L C n d (fun _ => False) s H → vx_L C n d (fun _ => False) s H' := by
    intro C n d h
    obtain ⟨c, k, i, f, a, cell, g1, g2, g3, g4, g5, g6, g7, g8, g9, g10⟩ := h
    exact ⟨c, k, i, f, a, cell, g1, g2, g3, g4, by rw [hq a cell g5 g6]; exact g5, g6, g7, g8, g9, g10⟩
  exact ⟨hz h1, ⟨hzq h2, hl h3⟩, hzq h4, hl h5⟩
theorem Rp_.set {s : State} {D : Dd_} {M M' : Mm} {H H' : Heap} {a : Nat} (h : Rp_ s D M H) (hw : kd_ M a < 30) (hg : ag_ M M' a) (hz : H'.size = H.size) (oq : ∀ q : Nat, q ≠ a → H'[q]? = H[q]?)
    (hv : ∀ cell : Cell, H[a]? = some cell → cell.vm.isStatics = false) (hn : cO_ D M' H' a ∧ cA_ D M' H' a) : Rp_ s D M' H' := by
  obtain ⟨h1, h2, h3, h4, h5⟩ := h
  refine ⟨by rw [hz, hg.1.2]; exact h1, fun b => by rw [hg.kd]; exact h2 b, by rw [hg.ln]; exact h3, h4.kept (fun q cell hc hs => oq q (fun e => ?_)), fun b => ⟨?_, fun hb => by rw [hg.kd] at hb ⊢; rw [hg.1.2]; exact (h5 b).2 hb⟩⟩
  · subst e
    have := hv cell hc
    rw [hs] at this
    cases this
  · by_cases hb : b = a
    · subst hb
      refine ⟨hn.1, hn.2, fun t _ hk => ?_⟩
      rw [hg.kd] at hk
      omega
    · obtain ⟨⟨g1, g2, g3⟩, -⟩ := h5 b
      refine ⟨fun ci hci hk => ?_, fun t ht hk => ?_, fun t ht hk => ?_⟩
      · rw [hg.kd] at hk
        obtain ⟨q1, q2⟩ := g1 ci hci hk
        rw [hg.fv hb]
        exact ⟨q1.kept (oq b hb), fun k hk2 => by rw [(hg.2 b hb k).2.1]; exact q2 k hk2⟩
      · rw [hg.kd] at hk
        rw [hg.ln, hg.av hb, oq b hb]
        obtain ⟨q1, q2⟩ := g2 t ht hk
        exact ⟨q1, fun e j hj => by rw [(hg.2 b hb j).2.1]; exact q2 e j hj⟩
      · rw [hg.kd] at hk
        obtain ⟨cell, q1, q2, q3, q4, q5⟩ := g3 t ht hk
        rw [hg.ln, hg.av hb, oq b hb]
        exact ⟨cell, q1, q2, q3, q4, q5⟩
theorem Rp_.moved {u U : State} {D : Dd_} {M : Mm} {H : Heap} (hvm : u.vm.Alike U.vm) (h : Rp_ u D M H) : Rp_ U D M H := by
  obtain ⟨h1, h2, h3, ⟨z1, z2, z3⟩, h5⟩ := h
  refine ⟨h1, h2, h3, ⟨z1.moved hvm, z2.moved hvm, z3.moved hvm⟩, fun b => ⟨⟨(h5 b).1.1, (h5 b).1.2.1, fun t ht hk => ?_⟩, (h5 b).2⟩⟩
  obtain ⟨cell, q1, q2, q3⟩ := (h5 b).1.2.2 t ht hk
  exact ⟨cell, q1, State.isArrayOf_alike hvm q2, q3⟩
theorem Kn_.warm {u U : State} {D : Dd_} (hW : u.WarmedH U.vm) (h : Kn_ D u) : Kn_ D U := ⟨fun c q hq => u_Kn_moved hW.alike (h.1 c q hq), fun t ht => ⟨arrOfT_moved hW.alike (h.2.1 t ht).1, (h.2.1 t ht).2.moved hW.alike⟩, fun w hw => by
  have hx := (List.mem_filter.mp hw).2
  have hz := h.2.2.1 w hw
  cases w <;> first | (simp [xk_] at hx; done) | exact va_Nw.warmM hW hz | exact va_Nw.warmC hW hz | skip
  rename_i ty
  cases ty <;> first | (simp [xk_] at hx; done) | exact va_AO.moved hW.alike hz, h.2.2.2.warm hW⟩
theorem Kn_.same {u U : State} {D : Dd_} (hvm : u.vm = U.vm) (h : Kn_ D u) : Kn_ D U := by
  have ha : u.vm.Alike U.vm := hvm ▸ Vm.Alike.refl u.vm
  refine ⟨fun c q hq => u_Kn_moved ha (h.1 c q hq), fun t ht => ⟨arrOfT_moved ha (h.2.1 t ht).1, (h.2.1 t ht).2.moved ha⟩, fun w hw => ?_, h.2.2.2.same hvm⟩
  have hx := (List.mem_filter.mp hw).2
  have hz := h.2.2.1 w hw
  cases w <;> first | (simp [xk_] at hx; done) | exact va_Nw.same rfl hvm hz | skip
  rename_i ty
  cases ty <;> first | (simp [xk_] at hx; done) | exact va_AO.moved ha hz
theorem Kn_.cls {s : State} {D : Dd_} (h : Kn_ D s) {ci : Nat} {C : String} {T : u_T} {N : Nat} (hc : vwCl[ci]? = some (C, T, N)) : u_Kn s C T N (D.1.1 ci) (D.1.2 ci) := h.1 ci _ hc
/-- the cell of a kind that is there -/
theorem Rp_.obj {s : State} {D : Dd_} {M : Mm} {H : Heap} {a ci : Nat} (h : Rp_ s D M H) (hci : ci < 12) (hk : kd_ M a = ci + 1) : t_OB a (D.1.1 ci) (nf_ ci) (D.1.2 ci) H (fv_ M ci a) := (((h.2.2.2.2 a).1.1) ci hci hk).1
theorem Rp_.arr {s : State} {D : Dd_} {M : Mm} {H : Heap} {a t : Nat} (h : Rp_ s D M H) (ht : t < 7) (hk : kd_ M a = 20 + t) : H[a]? = some (arrV (D.2.1 t) (ln_ M a) (av_ M t a)) := (((h.2.2.2.2 a).1.2.1) t ht hk).1
theorem Rp_.lt {s : State} {D : Dd_} {M : Mm} {H : Heap} {a : Nat} (h : Rp_ s D M H) (hk : kd_ M a ≠ 0) : a < H.size := by
  obtain ⟨⟨g1, g2, g3⟩, g4⟩ := h.2.2.2.2 a
  rcases (g4 hk).1 with ⟨q1, q2⟩ | ⟨q1, q2⟩ | ⟨q1, q2⟩
  · obtain ⟨cell, h9, -⟩ := (g1 (kd_ M a - 1) (by omega) (by omega)).1
    exact (Array.getElem?_eq_some_iff.mp h9).1
  · exact (Array.getElem?_eq_some_iff.mp (g2 (kd_ M a - 20) (by omega) (by omega)).1).1
  · obtain ⟨cell, h9, -⟩ := g3 (kd_ M a - 30) (by omega) (by omega)
    exact (Array.getElem?_eq_some_iff.mp h9).1
theorem Rp_.ne0 {s : State} {D : Dd_} {M : Mm} {H : Heap} {a : Nat} (h : Rp_ s D M H) (hk : kd_ M a ≠ 0) : a ≠ nz_ M := ((h.2.2.2.2 a).2 hk).2
theorem Rp_.fresh {s : State} {D : Dd_} {M : Mm} {H : Heap} (h : Rp_ s D M H) {q : Nat} (hq : H.size ≤ q) : kd_ M q = 0 := by
  by_cases e : kd_ M q = 0
  · exact e
  · have := h.lt e
    omega
theorem rv_pos {M : Mm} {a : Nat} (h : a ≠ nz_ M) : rv_ M a = .ref a := if_neg h
theorem rv_z (M : Mm) : rv_ M (nz_ M) = .null := if_pos rfl
theorem nz_sR (M : Mm) (a k v : Nat) : nz_ (sR_ M a k v) = nz_ M := rfl
theorem nz_nw (M : Mm) (q c n : Nat) : nz_ (nw_ M q c n) = nz_ M := rfl
/-- a new cell -/
theorem Rp_.push {s : State} {D : Dd_} {M : Mm} {H H' : Heap} {q c n : Nat} (h : Rp_ s D M H) (hq : H.size = q) (hz : H'.size = q + 1) (oq : ∀ b : Nat, b < q → H'[b]? = H[b]?) (hc : ok_ c) (hc36 : c < 30)
    (hn : cO_ D (nw_ M q c n) H' q ∧ cA_ D (nw_ M q c n) H' q) : Rp_ s D (nw_ M q c n) H' := by
  have hfr : kd_ M q = 0 := h.fresh (by omega)
  have hne : ∀ b, kd_ M b ≠ 0 → b ≠ q := fun b hb e => hb (by rw [e]; exact hfr)
  have hkd : ∀ b, b ≠ q → kd_ (nw_ M q c n) b = kd_ M b := fun b hb => by unfold kd_ nw_; dsimp only; rw [if_neg hb]
  have hln : ∀ b, b ≠ q → ln_ (nw_ M q c n) b = ln_ M b := fun b hb => by unfold ln_ nw_; dsimp only; rw [if_neg hb]
  have hval : ∀ b, b ≠ q → ∀ k, rf_ (nw_ M q c n) b k = rf_ M b k ∧ it_ (nw_ M q c n) b k = it_ M b k ∧ lg_ (nw_ M q c n) b k = lg_ M b k := fun b hb k => ⟨if_neg hb, if_neg hb, if_neg hb⟩
  obtain ⟨h1, h2, h3, h4, h5⟩ := id h
  have had : D.2.2 ≠ q := hne _ (by rw [(h2 D.2.2).mpr rfl]; decide)
  refine ⟨⟨h1.1, by rw [nz_nw]; omega⟩, fun b => ?_, by rw [hln _ had]; exact h3, h4.kept (fun b cell hcb _ => oq b ?_), fun b => ?_⟩
  · by_cases e : b = q
    · subst e
      rw [kd_nq_]
      exact ⟨fun z => by omega, fun z => absurd z.symm had⟩
    · rw [hkd b e]
      exact h2 b
  · have := (Array.getElem?_eq_some_iff.mp hcb).1
    omega
  · by_cases e : b = q
    · subst e
      refine ⟨⟨hn.1, hn.2, fun t _ hk => ?_⟩, fun _ => ⟨by rw [kd_nq_]; exact hc, by rw [nz_nw]; omega⟩⟩
      rw [kd_nq_] at hk
      omega
    · rw [hkd b e]
      refine ⟨⟨fun ci hci hk => ?_, fun t ht hk => ?_, fun t ht hk => ?_⟩, (h5 b).2⟩
      · rw [hkd b e] at hk
        obtain ⟨q1, q2⟩ := (h5 b).1.1 ci hci hk
        have hfv : fv_ (nw_ M q c n) ci b = fv_ M ci b := by
          funext k
          obtain ⟨x1, x2, x3⟩ := hval b e k
          unfold fv_ rv_
          rw [x1, x2, x3, nz_nw]
        rw [hfv]
        have hlt := h.lt (a := b) (by omega)
        exact ⟨q1.kept (oq b (by omega)), fun k hk2 => by rw [(hval b e k).2.1]; exact q2 k hk2⟩
      · rw [hkd b e] at hk
        obtain ⟨q1, q2⟩ := (h5 b).1.2.1 t ht hk
        have hav : av_ (nw_ M q c n) t b = av_ M t b := by
          funext k
          obtain ⟨x1, x2, x3⟩ := hval b e k
          unfold av_ rv_
          rw [x1, x2, x3, nz_nw]
        have hlt := h.lt (a := b) (by omega)
        rw [hav, hln b e, oq b (by omega)]
        exact ⟨q1, fun z j hj => by rw [(hval b e j).2.1]; exact q2 z j hj⟩
      · rw [hkd b e] at hk
        obtain ⟨cell, q1, q2, q3, q4, q5⟩ := (h5 b).1.2.2 t ht hk
        have hav : av_ (nw_ M q c n) t b = av_ M t b := by
          funext k
          obtain ⟨x1, x2, x3⟩ := hval b e k
          unfold av_ rv_
          rw [x1, x2, x3, nz_nw]
        have hlt := h.lt (a := b) (by omega)
        rw [hav, hln b e, oq b (by omega)]
        exact ⟨cell, q1, q2, q3, q4, q5⟩
theorem Nw_.push {M0 M : Mm} {sz q c n : Nat} (h : Nw_ M0 sz M) (hs : sz ≤ q) (h0 : kd_ M q = 0) : Nw_ M0 sz (nw_ M q c n) := by
  refine ⟨h.1.tr (Nk_nw_ h0), fun a ha hb => ?_⟩
  by_cases e : a = q
  · omega
  · have : kd_ (nw_ M q c n) a = kd_ M a := by unfold kd_ nw_; dsimp only; rw [if_neg e]
    rw [this] at hb
    exact h.2 a ha hb
/-! the words -/
def tbG_ : List Cond := lw_tbl.filter goodWord
theorem tb_in {w : Cond} (h : w ∈ lw_tbl) (g : goodWord w = true) : w ∈ tbG_ := List.mem_filter.mpr ⟨h, g⟩
theorem tb_good {w : Cond} (h : w ∈ tbG_) : (w.onTables && w.keeps) = true ∨ ∃ ty, w = .arrayClass ty := good_of_word (List.mem_filter.mp h).2
theorem tb_goodIn {c : Cond} (h : c ∈ tbG_) : GoodIn tbG_ (c :: tbG_) := fun w hw => by
  rcases List.mem_cons.mp hw with rfl | hw
  · exact ⟨h, tb_good h⟩
  · exact ⟨hw, tb_good hw⟩
/-! the walk's own judgement -/
def G_ (p : Program) (s : State) (m : MethodId) (args : Array Value) (meth : Method) (c : Code) (cc : ByteArray) (nL : Nat) (own : String) (D : Dd_) (M0 : Mm) : Prop :=
  p.tables.exec = Jvm.exec ∧ c.code = cc ∧ c.maxLocals = nL ∧ s.vm.findClass own = some m.cls ∧ (∀ w ∈ tbG_, w.before args s = true) ∧ Kn_ D s ∧ Rp_ s D M0 s.heap ∧ meth.locks = false
def V_ (p : Program) (l : Launch) (e : Env) (R : Room) (s : State) (m : MethodId) (args : Array Value) (below : List Frame) (meth : Method) (c : Code) (nL : Nat) (D : Dd_) (M0 : Mm) (Q : State → Prop) (pc : Nat) (L : List (Nat × Value)) (S : List Value) (M : Mm) (n k : Nat) : Prop :=
  ∀ (H : Heap) (locs : List Loc) (ls : Array Slot), Rp_ s D M H → Nw_ M0 s.heap.size M → lv_has ls nL L → va_S (Aw_ M0 s.heap.size) s.heap H locs → W p l e R s m args below meth c H locs n k Q (F0 m pc ls S)
section ROWS
variable {p : Program} {l : Launch} {e : Env} {R : Room} {s : State} {m : MethodId} {args : Array Value} {below : List Frame} {meth : Method} {c : Code} {cc : ByteArray} {nL : Nat} {own : String} {D : Dd_} {M0 : Mm} {Q : State → Prop}
variable {pc : Nat} {L L' : List (Nat × Value)} {S : List Value} {M : Mm} {n k : Nat}

theorem r_iconst (g : G_ p s m args meth c cc nL own D M0) {z : Int} {v : Int32} (hd : decode cc pc = .ok (.iconst z, 1)) (hv : Int32.ofInt z = v) (kk : V_ p l e R s m args below meth c nL D M0 Q (pc + 1) L (.int v :: S) M n k) : V_ p l e R s m args below meth c nL D M0 Q pc L S M n k := fun H locs ls hR hN hl hS => lv_iconst g.1 g.2.1 hd hv (kk H locs ls hR hN hl hS)
theorem r_bipush (g : G_ p s m args meth c cc nL own D M0) {z : Int} {v : Int32} (hd : decode cc pc = .ok (.bipush z, 2)) (hv : (Int8.ofInt z).toInt32 = v) (kk : V_ p l e R s m args below meth c nL D M0 Q (pc + 2) L (.int v :: S) M n k) : V_ p l e R s m args below meth c nL D M0 Q pc L S M n k := fun H locs ls hR hN hl hS => lv_bipush g.1 g.2.1 hd hv (kk H locs ls hR hN hl hS)
theorem r_sipush (g : G_ p s m args meth c cc nL own D M0) {z : Int} {v : Int32} (hd : decode cc pc = .ok (.sipush z, 3)) (hv : (Int16.ofInt z).toInt32 = v) (kk : V_ p l e R s m args below meth c nL D M0 Q (pc + 3) L (.int v :: S) M n k) : V_ p l e R s m args below meth c nL D M0 Q pc L S M n k := fun H locs ls hR hN hl hS => lv_sipush g.1 g.2.1 hd hv (kk H locs ls hR hN hl hS)
theorem r_lconst (g : G_ p s m args meth c cc nL own D M0) {z : Fin 2} {v : Int64} (hd : decode cc pc = .ok (.lconst z, 1)) (hv : Int64.ofNat (z : Nat) = v) (kk : V_ p l e R s m args below meth c nL D M0 Q (pc + 1) L (.long v :: S) M n k) : V_ p l e R s m args below meth c nL D M0 Q pc L S M n k := fun H locs ls hR hN hl hS => lv_lconst g.1 g.2.1 hd hv (kk H locs ls hR hN hl hS)
theorem r_null (g : G_ p s m args meth c cc nL own D M0)  (hd : decode cc pc = .ok (.aconst_null, 1)) (kk : V_ p l e R s m args below meth c nL D M0 Q (pc + 1) L (.null :: S) M n k) : V_ p l e R s m args below meth c nL D M0 Q pc L S M n k := fun H locs ls hR hN hl hS => lv_null g.1 g.2.1 hd (kk H locs ls hR hN hl hS)
theorem r_iload_n (g : G_ p s m args meth c cc nL own D M0) {z : Fin 4} {i : Nat} {x : Int32} (hd : decode cc pc = .ok (.iload_n z, 1)) (hi : (z : Nat) = i) (j : Nat) (hj : L[j]? = some (i, .int x)) (kk : V_ p l e R s m args below meth c nL D M0 Q (pc + 1) L (.int x :: S) M n k) : V_ p l e R s m args below meth c nL D M0 Q pc L S M n k := fun H locs ls hR hN hl hS => lv_iload_n g.1 g.2.1 hd hi (lv_at hl j hj) (kk H locs ls hR hN hl hS)
theorem r_iload (g : G_ p s m args meth c cc nL own D M0) {i : Nat} {x : Int32} (hd : decode cc pc = .ok (.iload i, 2)) (j : Nat) (hj : L[j]? = some (i, .int x)) (kk : V_ p l e R s m args below meth c nL D M0 Q (pc + 2) L (.int x :: S) M n k) : V_ p l e R s m args below meth c nL D M0 Q pc L S M n k := fun H locs ls hR hN hl hS => lv_iload g.1 g.2.1 hd (lv_at hl j hj) (kk H locs ls hR hN hl hS)
theorem r_istore_n (g : G_ p s m args meth c cc nL own D M0) {z : Fin 4} {i : Nat} {x : Int32} (hd : decode cc pc = .ok (.istore_n z, 1)) (hi : (z : Nat) = i) (hn : i < nL) (hL : (i, Value.int x) :: L.filter (fun q => !(q.1 == i) && !(q.1 + 1 == i && q.2.category == 2)) = L') (kk : V_ p l e R s m args below meth c nL D M0 Q (pc + 1) L' S M n k) : V_ p l e R s m args below meth c nL D M0 Q pc L (.int x :: S) M n k := fun H locs ls hR hN hl hS => lv_istore_n g.1 g.2.1 hd hi hl hn hL (fun ls' hl' => kk H locs ls' hR hN hl' hS)
theorem r_istore (g : G_ p s m args meth c cc nL own D M0) {i : Nat} {x : Int32} (hd : decode cc pc = .ok (.istore i, 2)) (hn : i < nL) (hL : (i, Value.int x) :: L.filter (fun q => !(q.1 == i) && !(q.1 + 1 == i && q.2.category == 2)) = L') (kk : V_ p l e R s m args below meth c nL D M0 Q (pc + 2) L' S M n k) : V_ p l e R s m args below meth c nL D M0 Q pc L (.int x :: S) M n k := fun H locs ls hR hN hl hS => lv_istore g.1 g.2.1 hd hl hn hL (fun ls' hl' => kk H locs ls' hR hN hl' hS)
theorem r_lload_n (g : G_ p s m args meth c cc nL own D M0) {z : Fin 4} {i : Nat} {x : Int64} (hd : decode cc pc = .ok (.lload_n z, 1)) (hi : (z : Nat) = i) (j : Nat) (hj : L[j]? = some (i, .long x)) (kk : V_ p l e R s m args below meth c nL D M0 Q (pc + 1) L (.long x :: S) M n k) : V_ p l e R s m args below meth c nL D M0 Q pc L S M n k := fun H locs ls hR hN hl hS => lv_lload_n g.1 g.2.1 hd hi (lv_at hl j hj) (kk H locs ls hR hN hl hS)
theorem r_lload (g : G_ p s m args meth c cc nL own D M0) {i : Nat} {x : Int64} (hd : decode cc pc = .ok (.lload i, 2)) (j : Nat) (hj : L[j]? = some (i, .long x)) (kk : V_ p l e R s m args below meth c nL D M0 Q (pc + 2) L (.long x :: S) M n k) : V_ p l e R s m args below meth c nL D M0 Q pc L S M n k := fun H locs ls hR hN hl hS => lv_lload g.1 g.2.1 hd (lv_at hl j hj) (kk H locs ls hR hN hl hS)
theorem r_lstore_n (g : G_ p s m args meth c cc nL own D M0) {z : Fin 4} {i : Nat} {x : Int64} (hd : decode cc pc = .ok (.lstore_n z, 1)) (hi : (z : Nat) = i) (hn : i + 1 < nL) (hL : (i, Value.long x) :: L.filter (fun q => !(q.1 == i) && (!(q.1 == i + 1) && !(q.1 + 1 == i && q.2.category == 2))) = L') (kk : V_ p l e R s m args below meth c nL D M0 Q (pc + 1) L' S M n k) : V_ p l e R s m args below meth c nL D M0 Q pc L (.long x :: S) M n k := fun H locs ls hR hN hl hS => lv_lstore_n g.1 g.2.1 hd hi hl hn hL (fun ls' hl' => kk H locs ls' hR hN hl' hS)
theorem r_lstore (g : G_ p s m args meth c cc nL own D M0) {i : Nat} {x : Int64} (hd : decode cc pc = .ok (.lstore i, 2)) (hn : i + 1 < nL) (hL : (i, Value.long x) :: L.filter (fun q => !(q.1 == i) && (!(q.1 == i + 1) && !(q.1 + 1 == i && q.2.category == 2))) = L') (kk : V_ p l e R s m args below meth c nL D M0 Q (pc + 2) L' S M n k) : V_ p l e R s m args below meth c nL D M0 Q pc L (.long x :: S) M n k := fun H locs ls hR hN hl hS => lv_lstore g.1 g.2.1 hd hl hn hL (fun ls' hl' => kk H locs ls' hR hN hl' hS)
theorem r_aload_n (g : G_ p s m args meth c cc nL own D M0) {z : Fin 4} {i : Nat} {x : Nat} (hd : decode cc pc = .ok (.aload_n z, 1)) (hi : (z : Nat) = i) (j : Nat) (hj : L[j]? = some (i, .ref x)) (kk : V_ p l e R s m args below meth c nL D M0 Q (pc + 1) L (.ref x :: S) M n k) : V_ p l e R s m args below meth c nL D M0 Q pc L S M n k := fun H locs ls hR hN hl hS => lv_aload_n g.1 g.2.1 hd hi (lv_at hl j hj) (kk H locs ls hR hN hl hS)
theorem r_aload (g : G_ p s m args meth c cc nL own D M0) {i : Nat} {x : Nat} (hd : decode cc pc = .ok (.aload i, 2)) (j : Nat) (hj : L[j]? = some (i, .ref x)) (kk : V_ p l e R s m args below meth c nL D M0 Q (pc + 2) L (.ref x :: S) M n k) : V_ p l e R s m args below meth c nL D M0 Q pc L S M n k := fun H locs ls hR hN hl hS => lv_aload g.1 g.2.1 hd (lv_at hl j hj) (kk H locs ls hR hN hl hS)
theorem r_astore_n (g : G_ p s m args meth c cc nL own D M0) {z : Fin 4} {i : Nat} {x : Nat} (hd : decode cc pc = .ok (.astore_n z, 1)) (hi : (z : Nat) = i) (hn : i < nL) (hL : (i, Value.ref x) :: L.filter (fun q => !(q.1 == i) && !(q.1 + 1 == i && q.2.category == 2)) = L') (kk : V_ p l e R s m args below meth c nL D M0 Q (pc + 1) L' S M n k) : V_ p l e R s m args below meth c nL D M0 Q pc L (.ref x :: S) M n k := fun H locs ls hR hN hl hS => lv_astore_n g.1 g.2.1 hd hi hl hn hL (fun ls' hl' => kk H locs ls' hR hN hl' hS)
theorem r_astore (g : G_ p s m args meth c cc nL own D M0) {i : Nat} {x : Nat} (hd : decode cc pc = .ok (.astore i, 2)) (hn : i < nL) (hL : (i, Value.ref x) :: L.filter (fun q => !(q.1 == i) && !(q.1 + 1 == i && q.2.category == 2)) = L') (kk : V_ p l e R s m args below meth c nL D M0 Q (pc + 2) L' S M n k) : V_ p l e R s m args below meth c nL D M0 Q pc L (.ref x :: S) M n k := fun H locs ls hR hN hl hS => lv_astore g.1 g.2.1 hd hl hn hL (fun ls' hl' => kk H locs ls' hR hN hl' hS)
theorem r_iinc (g : G_ p s m args meth c cc nL own D M0) {i : Nat} {z : Int} {x v : Int32} (hd : decode cc pc = .ok (.iinc i z, 3)) (j : Nat) (hj : L[j]? = some (i, .int x)) (hv : x + Int32.ofInt z = v) (hn : i < nL) (hL : (i, Value.int v) :: L.filter (fun q => !(q.1 == i) && !(q.1 + 1 == i && q.2.category == 2)) = L') (kk : V_ p l e R s m args below meth c nL D M0 Q (pc + 3) L' S M n k) : V_ p l e R s m args below meth c nL D M0 Q pc L S M n k := fun H locs ls hR hN hl hS => lv_iinc (k := j) g.1 g.2.1 hd hl hj hv hn hL (fun ls' hl' => kk H locs ls' hR hN hl' hS)
theorem r_iadd (g : G_ p s m args meth c cc nL own D M0) {x y : Int32} (hd : decode cc pc = .ok (.iadd, 1)) (kk : V_ p l e R s m args below meth c nL D M0 Q (pc + 1) L (.int (x + y) :: S) M n k) : V_ p l e R s m args below meth c nL D M0 Q pc L (.int y :: .int x :: S) M n k := fun H locs ls hR hN hl hS => lv_iadd g.1 g.2.1 hd (kk H locs ls hR hN hl hS)
theorem r_isub (g : G_ p s m args meth c cc nL own D M0) {x y : Int32} (hd : decode cc pc = .ok (.isub, 1)) (kk : V_ p l e R s m args below meth c nL D M0 Q (pc + 1) L (.int (x - y) :: S) M n k) : V_ p l e R s m args below meth c nL D M0 Q pc L (.int y :: .int x :: S) M n k := fun H locs ls hR hN hl hS => lv_isub g.1 g.2.1 hd (kk H locs ls hR hN hl hS)
theorem r_imul (g : G_ p s m args meth c cc nL own D M0) {x y : Int32} (hd : decode cc pc = .ok (.imul, 1)) (kk : V_ p l e R s m args below meth c nL D M0 Q (pc + 1) L (.int (x * y) :: S) M n k) : V_ p l e R s m args below meth c nL D M0 Q pc L (.int y :: .int x :: S) M n k := fun H locs ls hR hN hl hS => lv_imul g.1 g.2.1 hd (kk H locs ls hR hN hl hS)
theorem r_iand (g : G_ p s m args meth c cc nL own D M0) {x y : Int32} (hd : decode cc pc = .ok (.iand, 1)) (kk : V_ p l e R s m args below meth c nL D M0 Q (pc + 1) L (.int (x &&& y) :: S) M n k) : V_ p l e R s m args below meth c nL D M0 Q pc L (.int y :: .int x :: S) M n k := fun H locs ls hR hN hl hS => lv_iand g.1 g.2.1 hd (kk H locs ls hR hN hl hS)
theorem r_ishl (g : G_ p s m args meth c cc nL own D M0) {x y : Int32} (hd : decode cc pc = .ok (.ishl, 1)) (kk : V_ p l e R s m args below meth c nL D M0 Q (pc + 1) L (.int (x <<< (y &&& 31)) :: S) M n k) : V_ p l e R s m args below meth c nL D M0 Q pc L (.int y :: .int x :: S) M n k := fun H locs ls hR hN hl hS => lv_ishl g.1 g.2.1 hd (kk H locs ls hR hN hl hS)
theorem r_ishr (g : G_ p s m args meth c cc nL own D M0) {x y : Int32} (hd : decode cc pc = .ok (.ishr, 1)) (kk : V_ p l e R s m args below meth c nL D M0 Q (pc + 1) L (.int (x >>> (y &&& 31)) :: S) M n k) : V_ p l e R s m args below meth c nL D M0 Q pc L (.int y :: .int x :: S) M n k := fun H locs ls hR hN hl hS => lv_ishr g.1 g.2.1 hd (kk H locs ls hR hN hl hS)
theorem r_idiv (g : G_ p s m args meth c cc nL own D M0) {x y : Int32} (hd : decode cc pc = .ok (.idiv, 1)) (hne : ¬ y = 0) (kk : V_ p l e R s m args below meth c nL D M0 Q (pc + 1) L (.int (x / y) :: S) M n k) : V_ p l e R s m args below meth c nL D M0 Q pc L (.int y :: .int x :: S) M n k := fun H locs ls hR hN hl hS => lv_idiv g.1 g.2.1 hd hne (kk H locs ls hR hN hl hS)
theorem r_irem (g : G_ p s m args meth c cc nL own D M0) {x y : Int32} (hd : decode cc pc = .ok (.irem, 1)) (hne : ¬ y = 0) (kk : V_ p l e R s m args below meth c nL D M0 Q (pc + 1) L (.int (x - x / y * y) :: S) M n k) : V_ p l e R s m args below meth c nL D M0 Q pc L (.int y :: .int x :: S) M n k := fun H locs ls hR hN hl hS => lv_irem g.1 g.2.1 hd hne (kk H locs ls hR hN hl hS)
theorem r_ladd (g : G_ p s m args meth c cc nL own D M0) {x y : Int64} (hd : decode cc pc = .ok (.ladd, 1)) (kk : V_ p l e R s m args below meth c nL D M0 Q (pc + 1) L (.long (x + y) :: S) M n k) : V_ p l e R s m args below meth c nL D M0 Q pc L (.long y :: .long x :: S) M n k := fun H locs ls hR hN hl hS => lv_ladd g.1 g.2.1 hd (kk H locs ls hR hN hl hS)
theorem r_lsub (g : G_ p s m args meth c cc nL own D M0) {x y : Int64} (hd : decode cc pc = .ok (.lsub, 1)) (kk : V_ p l e R s m args below meth c nL D M0 Q (pc + 1) L (.long (x - y) :: S) M n k) : V_ p l e R s m args below meth c nL D M0 Q pc L (.long y :: .long x :: S) M n k := fun H locs ls hR hN hl hS => lv_lsub g.1 g.2.1 hd (kk H locs ls hR hN hl hS)
theorem r_lmul (g : G_ p s m args meth c cc nL own D M0) {x y : Int64} (hd : decode cc pc = .ok (.lmul, 1)) (kk : V_ p l e R s m args below meth c nL D M0 Q (pc + 1) L (.long (x * y) :: S) M n k) : V_ p l e R s m args below meth c nL D M0 Q pc L (.long y :: .long x :: S) M n k := fun H locs ls hR hN hl hS => lv_lmul g.1 g.2.1 hd (kk H locs ls hR hN hl hS)
theorem r_ldiv (g : G_ p s m args meth c cc nL own D M0) {x y : Int64} (hd : decode cc pc = .ok (.ldiv, 1)) (hne : ¬ y = 0) (kk : V_ p l e R s m args below meth c nL D M0 Q (pc + 1) L (.long (x / y) :: S) M n k) : V_ p l e R s m args below meth c nL D M0 Q pc L (.long y :: .long x :: S) M n k := fun H locs ls hR hN hl hS => lv_ldiv g.1 g.2.1 hd hne (kk H locs ls hR hN hl hS)
theorem r_lneg (g : G_ p s m args meth c cc nL own D M0) {x : Int64} (hd : decode cc pc = .ok (.lneg, 1)) (kk : V_ p l e R s m args below meth c nL D M0 Q (pc + 1) L (.long (-x) :: S) M n k) : V_ p l e R s m args below meth c nL D M0 Q pc L (.long x :: S) M n k := fun H locs ls hR hN hl hS => lv_lneg g.1 g.2.1 hd (kk H locs ls hR hN hl hS)
theorem r_lshr (g : G_ p s m args meth c cc nL own D M0) {x : Int64} {y : Int32} (hd : decode cc pc = .ok (.lshr, 1)) (kk : V_ p l e R s m args below meth c nL D M0 Q (pc + 1) L (.long (x >>> (y.toInt64 &&& 63)) :: S) M n k) : V_ p l e R s m args below meth c nL D M0 Q pc L (.int y :: .long x :: S) M n k := fun H locs ls hR hN hl hS => lv_lshr g.1 g.2.1 hd rfl (kk H locs ls hR hN hl hS)
theorem r_i2l (g : G_ p s m args meth c cc nL own D M0) {x : Int32} (hd : decode cc pc = .ok (.i2l, 1)) (kk : V_ p l e R s m args below meth c nL D M0 Q (pc + 1) L (.long x.toInt64 :: S) M n k) : V_ p l e R s m args below meth c nL D M0 Q pc L (.int x :: S) M n k := fun H locs ls hR hN hl hS => lv_i2l g.1 g.2.1 hd rfl (kk H locs ls hR hN hl hS)
theorem r_l2i (g : G_ p s m args meth c cc nL own D M0) {x : Int64} (hd : decode cc pc = .ok (.l2i, 1)) (kk : V_ p l e R s m args below meth c nL D M0 Q (pc + 1) L (.int x.toInt32 :: S) M n k) : V_ p l e R s m args below meth c nL D M0 Q pc L (.long x :: S) M n k := fun H locs ls hR hN hl hS => lv_l2i g.1 g.2.1 hd rfl (kk H locs ls hR hN hl hS)
theorem r_dup (g : G_ p s m args meth c cc nL own D M0) {x : Value} (hd : decode cc pc = .ok (.dup, 1)) (hx : x.category = 1) (kk : V_ p l e R s m args below meth c nL D M0 Q (pc + 1) L (x :: x :: S) M n k) : V_ p l e R s m args below meth c nL D M0 Q pc L (x :: S) M n k := fun H locs ls hR hN hl hS => lv_dup g.1 g.2.1 hd hx (kk H locs ls hR hN hl hS)
theorem r_pop (g : G_ p s m args meth c cc nL own D M0) {x : Value} (hd : decode cc pc = .ok (.pop, 1)) (hx : x.category = 1) (kk : V_ p l e R s m args below meth c nL D M0 Q (pc + 1) L S M n k) : V_ p l e R s m args below meth c nL D M0 Q pc L (x :: S) M n k := fun H locs ls hR hN hl hS => lv_pop g.1 g.2.1 hd hx (kk H locs ls hR hN hl hS)
theorem r_dup_x1 (g : G_ p s m args meth c cc nL own D M0) {x y : Value} (hd : decode cc pc = .ok (.dup_x1, 1)) (hx : x.category = 1) (hy : y.category = 1) (kk : V_ p l e R s m args below meth c nL D M0 Q (pc + 1) L (x :: y :: x :: S) M n k) : V_ p l e R s m args below meth c nL D M0 Q pc L (x :: y :: S) M n k := fun H locs ls hR hN hl hS => lv_dup_x1 g.1 g.2.1 hd hx hy (kk H locs ls hR hN hl hS)
theorem r_icmp_eq (g : G_ p s m args meth c cc nL own D M0) {x y : Int32} {off : Int} {tgt : Nat} (hd : decode cc pc = .ok (.if_icmp .eq off, 3)) (ht : (pc : Int) + off = (tgt : Int)) (kt : x = y → V_ p l e R s m args below meth c nL D M0 Q tgt L S M n k) (kf : ¬ (x = y) → V_ p l e R s m args below meth c nL D M0 Q (pc + 3) L S M n k) : V_ p l e R s m args below meth c nL D M0 Q pc L (.int y :: .int x :: S) M n k := fun H locs ls hR hN hl hS => lv_icmp_eq g.1 g.2.1 hd ht (fun h => kt h H locs ls hR hN hl hS) (fun h => kf h H locs ls hR hN hl hS)
theorem r_if_eq (g : G_ p s m args meth c cc nL own D M0) {x : Int32} {off : Int} {tgt : Nat} (hd : decode cc pc = .ok (.ifCond .eq off, 3)) (ht : (pc : Int) + off = (tgt : Int)) (kt : x = 0 → V_ p l e R s m args below meth c nL D M0 Q tgt L S M n k) (kf : ¬ (x = 0) → V_ p l e R s m args below meth c nL D M0 Q (pc + 3) L S M n k) : V_ p l e R s m args below meth c nL D M0 Q pc L (.int x :: S) M n k := fun H locs ls hR hN hl hS => lv_if_eq g.1 g.2.1 hd ht (fun h => kt h H locs ls hR hN hl hS) (fun h => kf h H locs ls hR hN hl hS)
theorem r_icmp_ne (g : G_ p s m args meth c cc nL own D M0) {x y : Int32} {off : Int} {tgt : Nat} (hd : decode cc pc = .ok (.if_icmp .ne off, 3)) (ht : (pc : Int) + off = (tgt : Int)) (kt : x ≠ y → V_ p l e R s m args below meth c nL D M0 Q tgt L S M n k) (kf : x = y → V_ p l e R s m args below meth c nL D M0 Q (pc + 3) L S M n k) : V_ p l e R s m args below meth c nL D M0 Q pc L (.int y :: .int x :: S) M n k := fun H locs ls hR hN hl hS => lv_icmp_ne g.1 g.2.1 hd ht (fun h => kt h H locs ls hR hN hl hS) (fun h => kf h H locs ls hR hN hl hS)
theorem r_if_ne (g : G_ p s m args meth c cc nL own D M0) {x : Int32} {off : Int} {tgt : Nat} (hd : decode cc pc = .ok (.ifCond .ne off, 3)) (ht : (pc : Int) + off = (tgt : Int)) (kt : x ≠ 0 → V_ p l e R s m args below meth c nL D M0 Q tgt L S M n k) (kf : x = 0 → V_ p l e R s m args below meth c nL D M0 Q (pc + 3) L S M n k) : V_ p l e R s m args below meth c nL D M0 Q pc L (.int x :: S) M n k := fun H locs ls hR hN hl hS => lv_if_ne g.1 g.2.1 hd ht (fun h => kt h H locs ls hR hN hl hS) (fun h => kf h H locs ls hR hN hl hS)
theorem r_icmp_lt (g : G_ p s m args meth c cc nL own D M0) {x y : Int32} {off : Int} {tgt : Nat} (hd : decode cc pc = .ok (.if_icmp .lt off, 3)) (ht : (pc : Int) + off = (tgt : Int)) (kt : x < y → V_ p l e R s m args below meth c nL D M0 Q tgt L S M n k) (kf : ¬ (x < y) → V_ p l e R s m args below meth c nL D M0 Q (pc + 3) L S M n k) : V_ p l e R s m args below meth c nL D M0 Q pc L (.int y :: .int x :: S) M n k := fun H locs ls hR hN hl hS => lv_icmp_lt g.1 g.2.1 hd ht (fun h => kt h H locs ls hR hN hl hS) (fun h => kf h H locs ls hR hN hl hS)
theorem r_if_lt (g : G_ p s m args meth c cc nL own D M0) {x : Int32} {off : Int} {tgt : Nat} (hd : decode cc pc = .ok (.ifCond .lt off, 3)) (ht : (pc : Int) + off = (tgt : Int)) (kt : x < 0 → V_ p l e R s m args below meth c nL D M0 Q tgt L S M n k) (kf : ¬ (x < 0) → V_ p l e R s m args below meth c nL D M0 Q (pc + 3) L S M n k) : V_ p l e R s m args below meth c nL D M0 Q pc L (.int x :: S) M n k := fun H locs ls hR hN hl hS => lv_if_lt g.1 g.2.1 hd ht (fun h => kt h H locs ls hR hN hl hS) (fun h => kf h H locs ls hR hN hl hS)
theorem r_icmp_ge (g : G_ p s m args meth c cc nL own D M0) {x y : Int32} {off : Int} {tgt : Nat} (hd : decode cc pc = .ok (.if_icmp .ge off, 3)) (ht : (pc : Int) + off = (tgt : Int)) (kt : y ≤ x → V_ p l e R s m args below meth c nL D M0 Q tgt L S M n k) (kf : ¬ (y ≤ x) → V_ p l e R s m args below meth c nL D M0 Q (pc + 3) L S M n k) : V_ p l e R s m args below meth c nL D M0 Q pc L (.int y :: .int x :: S) M n k := fun H locs ls hR hN hl hS => lv_icmp_ge g.1 g.2.1 hd ht (fun h => kt h H locs ls hR hN hl hS) (fun h => kf h H locs ls hR hN hl hS)
theorem r_if_ge (g : G_ p s m args meth c cc nL own D M0) {x : Int32} {off : Int} {tgt : Nat} (hd : decode cc pc = .ok (.ifCond .ge off, 3)) (ht : (pc : Int) + off = (tgt : Int)) (kt : 0 ≤ x → V_ p l e R s m args below meth c nL D M0 Q tgt L S M n k) (kf : ¬ (0 ≤ x) → V_ p l e R s m args below meth c nL D M0 Q (pc + 3) L S M n k) : V_ p l e R s m args below meth c nL D M0 Q pc L (.int x :: S) M n k := fun H locs ls hR hN hl hS => lv_if_ge g.1 g.2.1 hd ht (fun h => kt h H locs ls hR hN hl hS) (fun h => kf h H locs ls hR hN hl hS)
theorem r_icmp_gt (g : G_ p s m args meth c cc nL own D M0) {x y : Int32} {off : Int} {tgt : Nat} (hd : decode cc pc = .ok (.if_icmp .gt off, 3)) (ht : (pc : Int) + off = (tgt : Int)) (kt : y < x → V_ p l e R s m args below meth c nL D M0 Q tgt L S M n k) (kf : ¬ (y < x) → V_ p l e R s m args below meth c nL D M0 Q (pc + 3) L S M n k) : V_ p l e R s m args below meth c nL D M0 Q pc L (.int y :: .int x :: S) M n k := fun H locs ls hR hN hl hS => lv_icmp_gt g.1 g.2.1 hd ht (fun h => kt h H locs ls hR hN hl hS) (fun h => kf h H locs ls hR hN hl hS)
theorem r_if_gt (g : G_ p s m args meth c cc nL own D M0) {x : Int32} {off : Int} {tgt : Nat} (hd : decode cc pc = .ok (.ifCond .gt off, 3)) (ht : (pc : Int) + off = (tgt : Int)) (kt : 0 < x → V_ p l e R s m args below meth c nL D M0 Q tgt L S M n k) (kf : ¬ (0 < x) → V_ p l e R s m args below meth c nL D M0 Q (pc + 3) L S M n k) : V_ p l e R s m args below meth c nL D M0 Q pc L (.int x :: S) M n k := fun H locs ls hR hN hl hS => lv_if_gt g.1 g.2.1 hd ht (fun h => kt h H locs ls hR hN hl hS) (fun h => kf h H locs ls hR hN hl hS)
theorem r_icmp_le (g : G_ p s m args meth c cc nL own D M0) {x y : Int32} {off : Int} {tgt : Nat} (hd : decode cc pc = .ok (.if_icmp .le off, 3)) (ht : (pc : Int) + off = (tgt : Int)) (kt : x ≤ y → V_ p l e R s m args below meth c nL D M0 Q tgt L S M n k) (kf : ¬ (x ≤ y) → V_ p l e R s m args below meth c nL D M0 Q (pc + 3) L S M n k) : V_ p l e R s m args below meth c nL D M0 Q pc L (.int y :: .int x :: S) M n k := fun H locs ls hR hN hl hS => lv_icmp_le g.1 g.2.1 hd ht (fun h => kt h H locs ls hR hN hl hS) (fun h => kf h H locs ls hR hN hl hS)
theorem r_if_le (g : G_ p s m args meth c cc nL own D M0) {x : Int32} {off : Int} {tgt : Nat} (hd : decode cc pc = .ok (.ifCond .le off, 3)) (ht : (pc : Int) + off = (tgt : Int)) (kt : x ≤ 0 → V_ p l e R s m args below meth c nL D M0 Q tgt L S M n k) (kf : ¬ (x ≤ 0) → V_ p l e R s m args below meth c nL D M0 Q (pc + 3) L S M n k) : V_ p l e R s m args below meth c nL D M0 Q pc L (.int x :: S) M n k := fun H locs ls hR hN hl hS => lv_if_le g.1 g.2.1 hd ht (fun h => kt h H locs ls hR hN hl hS) (fun h => kf h H locs ls hR hN hl hS)
theorem r_goto (g : G_ p s m args meth c cc nL own D M0) {off : Int} {tgt : Nat} (hd : decode cc pc = .ok (.goto off, 3)) (ht : (pc : Int) + off = (tgt : Int)) (kk : V_ p l e R s m args below meth c nL D M0 Q tgt L S M n k) : V_ p l e R s m args below meth c nL D M0 Q pc L S M n k := fun H locs ls hR hN hl hS => lv_goto g.1 g.2.1 hd ht (kk H locs ls hR hN hl hS)
theorem lc_c (x y : Int64) : (x.toInt < y.toInt ∧ lg_cmp x y = -1) ∨ (x.toInt = y.toInt ∧ lg_cmp x y = 0) ∨ (y.toInt < x.toInt ∧ lg_cmp x y = 1) := by
  unfold lg_cmp
  by_cases h : x > y
  · rw [if_pos h]
    exact Or.inr (Or.inr ⟨Int64.lt_iff_toInt_lt.mp h, rfl⟩)
  · rw [if_neg h]
    have h2 : ¬ y.toInt < x.toInt := fun z => h (Int64.lt_iff_toInt_lt.mpr z)
    by_cases e : x = y
    · rw [if_pos e]
      exact Or.inr (Or.inl ⟨by rw [e], rfl⟩)
    · rw [if_neg e]
      have h3 : x.toInt ≠ y.toInt := fun z => e (Int64.toInt_inj.mp z)
      exact Or.inl ⟨by omega, rfl⟩
theorem lc_le (x y : Int64) : ((lg_cmp x y) ≤ 0) ↔ x ≤ y := by
  rw [Int64.le_iff_toInt_le]
  rcases lc_c x y with ⟨h, e⟩ | ⟨h, e⟩ | ⟨h, e⟩ <;> rw [e]
  · exact ⟨fun z => by first | omega | exact absurd z (by decide), fun z => by first | decide | omega⟩
  · exact ⟨fun z => by first | omega | exact absurd z (by decide), fun z => by first | decide | omega⟩
  · exact ⟨fun z => by first | omega | exact absurd z (by decide), fun z => by first | decide | omega⟩
theorem r_lcmp_le (g : G_ p s m args meth c cc nL own D M0) {x y : Int64} {off : Int} {tgt : Nat} (hd0 : decode cc pc = .ok (.lcmp, 1)) (hd : decode cc (pc + 1) = .ok (.ifCond .le off, 3)) (ht : ((pc + 1 : Nat) : Int) + off = (tgt : Int)) (kt : x ≤ y → V_ p l e R s m args below meth c nL D M0 Q tgt L S M n k) (kf : ¬ (x ≤ y) → V_ p l e R s m args below meth c nL D M0 Q (pc + 1 + 3) L S M n k) : V_ p l e R s m args below meth c nL D M0 Q pc L (.long y :: .long x :: S) M n k := fun H locs ls hR hN hl hS => W.lcmp g.1 g.2.1 hd0 (lv_if_le g.1 g.2.1 hd ht (fun h => kt ((lc_le x y).mp h) H locs ls hR hN hl hS) (fun h => kf (fun z => h ((lc_le x y).mpr z)) H locs ls hR hN hl hS))
theorem lc_lt (x y : Int64) : ((lg_cmp x y) < 0) ↔ x < y := by
  rw [Int64.lt_iff_toInt_lt]
  rcases lc_c x y with ⟨h, e⟩ | ⟨h, e⟩ | ⟨h, e⟩ <;> rw [e]
  · exact ⟨fun z => by first | omega | exact absurd z (by decide), fun z => by first | decide | omega⟩
  · exact ⟨fun z => by first | omega | exact absurd z (by decide), fun z => by first | decide | omega⟩
  · exact ⟨fun z => by first | omega | exact absurd z (by decide), fun z => by first | decide | omega⟩
theorem r_lcmp_lt (g : G_ p s m args meth c cc nL own D M0) {x y : Int64} {off : Int} {tgt : Nat} (hd0 : decode cc pc = .ok (.lcmp, 1)) (hd : decode cc (pc + 1) = .ok (.ifCond .lt off, 3)) (ht : ((pc + 1 : Nat) : Int) + off = (tgt : Int)) (kt : x < y → V_ p l e R s m args below meth c nL D M0 Q tgt L S M n k) (kf : ¬ (x < y) → V_ p l e R s m args below meth c nL D M0 Q (pc + 1 + 3) L S M n k) : V_ p l e R s m args below meth c nL D M0 Q pc L (.long y :: .long x :: S) M n k := fun H locs ls hR hN hl hS => W.lcmp g.1 g.2.1 hd0 (lv_if_lt g.1 g.2.1 hd ht (fun h => kt ((lc_lt x y).mp h) H locs ls hR hN hl hS) (fun h => kf (fun z => h ((lc_lt x y).mpr z)) H locs ls hR hN hl hS))
theorem lc_ge (x y : Int64) : (0 ≤ (lg_cmp x y)) ↔ y ≤ x := by
  rw [Int64.le_iff_toInt_le]
  rcases lc_c x y with ⟨h, e⟩ | ⟨h, e⟩ | ⟨h, e⟩ <;> rw [e]
  · exact ⟨fun z => by first | omega | exact absurd z (by decide), fun z => by first | decide | omega⟩
  · exact ⟨fun z => by first | omega | exact absurd z (by decide), fun z => by first | decide | omega⟩
  · exact ⟨fun z => by first | omega | exact absurd z (by decide), fun z => by first | decide | omega⟩
theorem r_lcmp_ge (g : G_ p s m args meth c cc nL own D M0) {x y : Int64} {off : Int} {tgt : Nat} (hd0 : decode cc pc = .ok (.lcmp, 1)) (hd : decode cc (pc + 1) = .ok (.ifCond .ge off, 3)) (ht : ((pc + 1 : Nat) : Int) + off = (tgt : Int)) (kt : y ≤ x → V_ p l e R s m args below meth c nL D M0 Q tgt L S M n k) (kf : ¬ (y ≤ x) → V_ p l e R s m args below meth c nL D M0 Q (pc + 1 + 3) L S M n k) : V_ p l e R s m args below meth c nL D M0 Q pc L (.long y :: .long x :: S) M n k := fun H locs ls hR hN hl hS => W.lcmp g.1 g.2.1 hd0 (lv_if_ge g.1 g.2.1 hd ht (fun h => kt ((lc_ge x y).mp h) H locs ls hR hN hl hS) (fun h => kf (fun z => h ((lc_ge x y).mpr z)) H locs ls hR hN hl hS))
theorem lc_gt (x y : Int64) : (0 < (lg_cmp x y)) ↔ y < x := by
  rw [Int64.lt_iff_toInt_lt]
  rcases lc_c x y with ⟨h, e⟩ | ⟨h, e⟩ | ⟨h, e⟩ <;> rw [e]
  · exact ⟨fun z => by first | omega | exact absurd z (by decide), fun z => by first | decide | omega⟩
  · exact ⟨fun z => by first | omega | exact absurd z (by decide), fun z => by first | decide | omega⟩
  · exact ⟨fun z => by first | omega | exact absurd z (by decide), fun z => by first | decide | omega⟩
theorem r_lcmp_gt (g : G_ p s m args meth c cc nL own D M0) {x y : Int64} {off : Int} {tgt : Nat} (hd0 : decode cc pc = .ok (.lcmp, 1)) (hd : decode cc (pc + 1) = .ok (.ifCond .gt off, 3)) (ht : ((pc + 1 : Nat) : Int) + off = (tgt : Int)) (kt : y < x → V_ p l e R s m args below meth c nL D M0 Q tgt L S M n k) (kf : ¬ (y < x) → V_ p l e R s m args below meth c nL D M0 Q (pc + 1 + 3) L S M n k) : V_ p l e R s m args below meth c nL D M0 Q pc L (.long y :: .long x :: S) M n k := fun H locs ls hR hN hl hS => W.lcmp g.1 g.2.1 hd0 (lv_if_gt g.1 g.2.1 hd ht (fun h => kt ((lc_gt x y).mp h) H locs ls hR hN hl hS) (fun h => kf (fun z => h ((lc_gt x y).mpr z)) H locs ls hR hN hl hS))
theorem V_.sub (h : V_ p l e R s m args below meth c nL D M0 Q pc L' S M n k) (is : List Nat) (hp : lv_pick L is = L') : V_ p l e R s m args below meth c nL D M0 Q pc L S M n k := fun H locs ls hR hN hl hS => h H locs ls hR hN (lv_sub hl is hp) hS
theorem V_.widen {n2 k2 : Nat} (h1 : n ≤ n2) (h2 : k ≤ k2) (h : V_ p l e R s m args below meth c nL D M0 Q pc L S M n2 k2) : V_ p l e R s m args below meth c nL D M0 Q pc L S M n k := fun H locs ls hR hN hl hS => W.widen h1 h2 (h H locs ls hR hN hl hS)
theorem r_ldc (g : G_ p s m args meth c cc nL own D M0) {i : Nat} {v : Int32} (hw : Cond.constant own i v ∈ tbG_) (hd : decode cc pc = .ok (.ldc i, 2)) (kk : V_ p l e R s m args below meth c nL D M0 Q (pc + 2) L (.int v :: S) M n k) : V_ p l e R s m args below meth c nL D M0 Q pc L S M n k := fun H locs ls hR hN hl hS => lv_ldc g.1 g.2.1 g.2.2.2.1 (g.2.2.2.2.1 _ hw) hd (kk H locs ls hR hN hl hS)
theorem r_ldc2 (g : G_ p s m args meth c cc nL own D M0) {i : Nat} {v : Int64} (hw : Cond.constantLong own i v ∈ tbG_) (hd : decode cc pc = .ok (.ldc2_w i, 3)) (kk : V_ p l e R s m args below meth c nL D M0 Q (pc + 3) L (.long v :: S) M n k) : V_ p l e R s m args below meth c nL D M0 Q pc L S M n k := fun H locs ls hR hN hl hS => lv_ldc2 g.1 g.2.1 g.2.2.2.1 (g.2.2.2.2.1 _ hw) hd (kk H locs ls hR hN hl hS)
theorem r_gt (g : G_ p s m args meth c cc nL own D M0) {C ref : String} {T : u_T} {N ci a i : Nat} {v : Value} (hc : vwCl[ci]? = some (C, T, N)) (hin : ∀ w ∈ u_ws C T N, w ∈ tbG_) (hk : kd_ M a = ci + 1) (j : Nat) (hj : j < N) (hlink : Cond.fieldLink own i ref (T j).2.1 (T j).2.2.1 ∈ tbG_) (hsame : ∀ x, s.fieldFound? (T j).1 (T j).2.1 (T j).2.2.1 = some x → s.fieldFound? ref (T j).2.1 (T j).2.2.1 = some x) (hv : fv_ M ci a j = v) (hd : decode cc pc = .ok (.getfield i, 3))
    (kk : V_ p l e R s m args below meth c nL D M0 Q (pc + 3) L (v :: S) M n k) : V_ p l e R s m args below meth c nL D M0 Q pc L (.ref a :: S) M n k := fun H locs ls hR hN hl hS => by
  obtain ⟨gx, gb, -, go, gt, gK, -⟩ := g
  have hci : ci < 12 := (List.getElem?_eq_some_iff.mp hc).1
  have hnf : nf_ ci = N := by unfold nf_; rw [hc]
  obtain ⟨cell, q1, q2, q3, q4⟩ := hR.obj hci hk
  rw [hnf] at q4
  obtain ⟨hSl, hfc, kC, hkC, hkind⟩ := gK.cls hc
  obtain ⟨cf, kf, fi, f, hi, hsl⟩ := hSl j hj
  refine W.getf gx gb go (gt _ hlink) (hsame _ hi) (u_facts hfc hkC (u_lays gt hin hj) hi).1 q1 (by rw [q3]; exact fun h => by cases h) (v := v) ?_ rfl rfl hd (kk H locs ls hR hN hl hS)
  rw [hsl, q4 j hj, hv]
theorem r_ptI (g : G_ p s m args meth c cc nL own D M0) {C ref : String} {T : u_T} {N ci a i : Nat} {x : Int32} (hc : vwCl[ci]? = some (C, T, N)) (hin : ∀ w ∈ u_ws C T N, w ∈ tbG_) (ty0 : Nat → FieldType) (hty : ∀ k, k < N → parseFieldDescriptor (T k).2.2.1 = some (ty0 k)) (hnm : ∀ a, a < N → ∀ b, b < N → a ≠ b → (T a).2.1 ≠ (T b).2.1) (hk : kd_ M a = ci + 1) (j : Nat) (hj : j < N) (hlink : Cond.fieldLink own i ref (T j).2.1 (T j).2.2.1 ∈ tbG_) (hsame : ∀ x, s.fieldFound? (T j).1 (T j).2.1 (T j).2.2.1 = some x → s.fieldFound? ref (T j).2.1 (T j).2.2.1 = some x) (hfin : (T j).2.2.2 = false) (hft : ft_ ci j = 0)  (hn : narrow (ty0 j) (.int x) = .int x) (hf : fits (ty0 j) (.int x) = true) (hd : decode cc pc = .ok (.putfield i, 3))
    (kk : V_ p l e R s m args below meth c nL D M0 Q (pc + 3) L S (sI_ M a j x) n k) : V_ p l e R s m args below meth c nL D M0 Q pc L (.int x :: .ref a :: S) M n k := fun H locs ls hR hN hl hS => by
  obtain ⟨gx, gb, -, go, gt, gK, -⟩ := g
  have hci : ci < 12 := (List.getElem?_eq_some_iff.mp hc).1
  have hnf : nf_ ci = N := by unfold nf_; rw [hc]
  have hlt := hR.lt (a := a) (by omega)
  obtain ⟨cell, q1, q2, q3, q4⟩ := hR.obj hci hk
  rw [hnf] at q4
  obtain ⟨hSl, hfc, kC, hkC, hkind⟩ := gK.cls hc
  have hap : ∀ x y, x < N → y < N → x ≠ y → D.1.2 ci x ≠ D.1.2 ci y := by
    intro x y hx hy hne
    obtain ⟨_, _, _, fa, hia, ea⟩ := hSl x hx
    obtain ⟨_, _, _, fb, hib, eb⟩ := hSl y hy
    rw [← ea, ← eb]
    refine u_apart (u_lays gt hin hx) (u_lays gt hin hy) hia hib ?_
    rw [(State.fieldFound?_type hia (hty x hx)).1, (State.fieldFound?_type hib (hty y hy)).1]
    exact hnm x hx y hy hne
  obtain ⟨cf, kf, fi, f, hi, hsl⟩ := hSl j hj
  have hlay := gt _ (hin _ (u_in_lay hj))
  unfold u_lay at hlay
  have hst := (u_facts hfc hkC (u_lays gt hin hj) hi).1
  have hb0 := (hR.2.2.2.2 a).1.1 ci hci hk
  rw [if_neg (by rw [hfin]; decide)] at hlay
  have h6 := u_store hfc hkC hkind hlay hi (hty j hj) hn hf
  refine W.putK gx gb (f := f) ⟨go, gt _ hlink, ⟨_, _, _, hsame _ hi⟩, hst⟩ (by rw [q2]; exact h6) q1 q3 (by rw [hsl]; exact k2_hasslot (q4 j hj)) rfl rfl hd fun H' e1 e2 e3 => ?_
  rw [hsl] at e1 ⊢
  have hcO : cO_ D (sI_ M a j x) H' a := by
    intro ci' hci' hk'
    have hk2 : kd_ M a = ci' + 1 := hk'
    have hcc : ci' = ci := by omega
    subst hcc
    rw [hnf]
    refine ⟨⟨_, e1, q2, q3, fun z hz => (t_set q4 hap hj _ z hz).trans ?_⟩, ?_⟩
    · by_cases hzj : z = j
      · subst hzj
        simp [updV, fv_, hft, it_sI]
      · simp [updV, fv_, hzj, rf_, it_, lg_, sR_, sI_, sL_, up2_]; rfl
    · intro z hz
      have := hb0.2 z hz
      by_cases hzj : z = j
      · subst hzj
        rw [it_sI, if_pos ⟨rfl, rfl⟩]
        omega
      · rw [it_sI, if_neg (fun h => hzj h.2)]
        exact this
  have hcA : cA_ D (sI_ M a j x) H' a := by
    intro t ht hk'
    have hk2 : kd_ M a = 20 + t := hk'
    omega
  have hagg : ag_ M (sI_ M a j x) a := ag_sI _ _ _ _
  refine kk H' _ ls (hR.set (a := a) (by omega) hagg e2 e3 (fun cell2 h2 => ?_) ⟨hcO, hcA⟩) (hN.same rfl) hl (hS.put e2 e3 ?_)
  · rw [q1] at h2
    cases h2
    rw [q3]
    rfl
  · exact hN.aw hS.1 (Or.inl ⟨by omega, by omega⟩)
theorem r_ptZ (g : G_ p s m args meth c cc nL own D M0) {C ref : String} {T : u_T} {N ci a i : Nat} {x : Int32} (hc : vwCl[ci]? = some (C, T, N)) (hin : ∀ w ∈ u_ws C T N, w ∈ tbG_) (ty0 : Nat → FieldType) (hty : ∀ k, k < N → parseFieldDescriptor (T k).2.2.1 = some (ty0 k)) (hnm : ∀ a, a < N → ∀ b, b < N → a ≠ b → (T a).2.1 ≠ (T b).2.1) (hk : kd_ M a = ci + 1) (j : Nat) (hj : j < N) (hlink : Cond.fieldLink own i ref (T j).2.1 (T j).2.2.1 ∈ tbG_) (hsame : ∀ x, s.fieldFound? (T j).1 (T j).2.1 (T j).2.2.1 = some x → s.fieldFound? ref (T j).2.1 (T j).2.2.1 = some x) (hfin : (T j).2.2.2 = false) (hft : ft_ ci j = 3) (hbz : bz_ x) (hn : narrow (ty0 j) (.int x) = .int x) (hf : fits (ty0 j) (.int x) = true) (hd : decode cc pc = .ok (.putfield i, 3))
    (kk : V_ p l e R s m args below meth c nL D M0 Q (pc + 3) L S (sI_ M a j x) n k) : V_ p l e R s m args below meth c nL D M0 Q pc L (.int x :: .ref a :: S) M n k := fun H locs ls hR hN hl hS => by
  obtain ⟨gx, gb, -, go, gt, gK, -⟩ := g
  have hci : ci < 12 := (List.getElem?_eq_some_iff.mp hc).1
  have hnf : nf_ ci = N := by unfold nf_; rw [hc]
  have hlt := hR.lt (a := a) (by omega)
  obtain ⟨cell, q1, q2, q3, q4⟩ := hR.obj hci hk
  rw [hnf] at q4
  obtain ⟨hSl, hfc, kC, hkC, hkind⟩ := gK.cls hc
  have hap : ∀ x y, x < N → y < N → x ≠ y → D.1.2 ci x ≠ D.1.2 ci y := by
    intro x y hx hy hne
    obtain ⟨_, _, _, fa, hia, ea⟩ := hSl x hx
    obtain ⟨_, _, _, fb, hib, eb⟩ := hSl y hy
    rw [← ea, ← eb]
    refine u_apart (u_lays gt hin hx) (u_lays gt hin hy) hia hib ?_
    rw [(State.fieldFound?_type hia (hty x hx)).1, (State.fieldFound?_type hib (hty y hy)).1]
    exact hnm x hx y hy hne
  obtain ⟨cf, kf, fi, f, hi, hsl⟩ := hSl j hj
  have hlay := gt _ (hin _ (u_in_lay hj))
  unfold u_lay at hlay
  have hst := (u_facts hfc hkC (u_lays gt hin hj) hi).1
  have hb0 := (hR.2.2.2.2 a).1.1 ci hci hk
  rw [if_neg (by rw [hfin]; decide)] at hlay
  have h6 := u_store hfc hkC hkind hlay hi (hty j hj) hn hf
  refine W.putK gx gb (f := f) ⟨go, gt _ hlink, ⟨_, _, _, hsame _ hi⟩, hst⟩ (by rw [q2]; exact h6) q1 q3 (by rw [hsl]; exact k2_hasslot (q4 j hj)) rfl rfl hd fun H' e1 e2 e3 => ?_
  rw [hsl] at e1 ⊢
  have hcO : cO_ D (sI_ M a j x) H' a := by
    intro ci' hci' hk'
    have hk2 : kd_ M a = ci' + 1 := hk'
    have hcc : ci' = ci := by omega
    subst hcc
    rw [hnf]
    refine ⟨⟨_, e1, q2, q3, fun z hz => (t_set q4 hap hj _ z hz).trans ?_⟩, ?_⟩
    · by_cases hzj : z = j
      · subst hzj
        simp [updV, fv_, hft, it_sI]
      · simp [updV, fv_, hzj, rf_, it_, lg_, sR_, sI_, sL_, up2_]; rfl
    · intro z hz
      have := hb0.2 z hz
      by_cases hzj : z = j
      · subst hzj
        rw [it_sI, if_pos ⟨rfl, rfl⟩]
        exact hbz
      · rw [it_sI, if_neg (fun h => hzj h.2)]
        exact this
  have hcA : cA_ D (sI_ M a j x) H' a := by
    intro t ht hk'
    have hk2 : kd_ M a = 20 + t := hk'
    omega
  have hagg : ag_ M (sI_ M a j x) a := ag_sI _ _ _ _
  refine kk H' _ ls (hR.set (a := a) (by omega) hagg e2 e3 (fun cell2 h2 => ?_) ⟨hcO, hcA⟩) (hN.same rfl) hl (hS.put e2 e3 ?_)
  · rw [q1] at h2
    cases h2
    rw [q3]
    rfl
  · exact hN.aw hS.1 (Or.inl ⟨by omega, by omega⟩)
theorem r_ptL (g : G_ p s m args meth c cc nL own D M0) {C ref : String} {T : u_T} {N ci a i : Nat} {x : Int64} (hc : vwCl[ci]? = some (C, T, N)) (hin : ∀ w ∈ u_ws C T N, w ∈ tbG_) (ty0 : Nat → FieldType) (hty : ∀ k, k < N → parseFieldDescriptor (T k).2.2.1 = some (ty0 k)) (hnm : ∀ a, a < N → ∀ b, b < N → a ≠ b → (T a).2.1 ≠ (T b).2.1) (hk : kd_ M a = ci + 1) (j : Nat) (hj : j < N) (hlink : Cond.fieldLink own i ref (T j).2.1 (T j).2.2.1 ∈ tbG_) (hsame : ∀ x, s.fieldFound? (T j).1 (T j).2.1 (T j).2.2.1 = some x → s.fieldFound? ref (T j).2.1 (T j).2.2.1 = some x) (hfin : (T j).2.2.2 = false) (hft : ft_ ci j = 1)  (hn : narrow (ty0 j) (.long x) = .long x) (hf : fits (ty0 j) (.long x) = true) (hd : decode cc pc = .ok (.putfield i, 3))
    (kk : V_ p l e R s m args below meth c nL D M0 Q (pc + 3) L S (sL_ M a j x) n k) : V_ p l e R s m args below meth c nL D M0 Q pc L (.long x :: .ref a :: S) M n k := fun H locs ls hR hN hl hS => by
  obtain ⟨gx, gb, -, go, gt, gK, -⟩ := g
  have hci : ci < 12 := (List.getElem?_eq_some_iff.mp hc).1
  have hnf : nf_ ci = N := by unfold nf_; rw [hc]
  have hlt := hR.lt (a := a) (by omega)
  obtain ⟨cell, q1, q2, q3, q4⟩ := hR.obj hci hk
  rw [hnf] at q4
  obtain ⟨hSl, hfc, kC, hkC, hkind⟩ := gK.cls hc
  have hap : ∀ x y, x < N → y < N → x ≠ y → D.1.2 ci x ≠ D.1.2 ci y := by
    intro x y hx hy hne
    obtain ⟨_, _, _, fa, hia, ea⟩ := hSl x hx
    obtain ⟨_, _, _, fb, hib, eb⟩ := hSl y hy
    rw [← ea, ← eb]
    refine u_apart (u_lays gt hin hx) (u_lays gt hin hy) hia hib ?_
    rw [(State.fieldFound?_type hia (hty x hx)).1, (State.fieldFound?_type hib (hty y hy)).1]
    exact hnm x hx y hy hne
  obtain ⟨cf, kf, fi, f, hi, hsl⟩ := hSl j hj
  have hlay := gt _ (hin _ (u_in_lay hj))
  unfold u_lay at hlay
  have hst := (u_facts hfc hkC (u_lays gt hin hj) hi).1
  have hb0 := (hR.2.2.2.2 a).1.1 ci hci hk
  rw [if_neg (by rw [hfin]; decide)] at hlay
  have h6 := u_store hfc hkC hkind hlay hi (hty j hj) hn hf
  refine W.putK gx gb (f := f) ⟨go, gt _ hlink, ⟨_, _, _, hsame _ hi⟩, hst⟩ (by rw [q2]; exact h6) q1 q3 (by rw [hsl]; exact k2_hasslot (q4 j hj)) rfl rfl hd fun H' e1 e2 e3 => ?_
  rw [hsl] at e1 ⊢
  have hcO : cO_ D (sL_ M a j x) H' a := by
    intro ci' hci' hk'
    have hk2 : kd_ M a = ci' + 1 := hk'
    have hcc : ci' = ci := by omega
    subst hcc
    rw [hnf]
    refine ⟨⟨_, e1, q2, q3, fun z hz => (t_set q4 hap hj _ z hz).trans ?_⟩, ?_⟩
    · by_cases hzj : z = j
      · subst hzj
        simp [updV, fv_, hft, lg_sL]
      · simp [updV, fv_, hzj, rf_, it_, lg_, sR_, sI_, sL_, up2_]; rfl
    · intro z hz
      have := hb0.2 z hz
      exact this
  have hcA : cA_ D (sL_ M a j x) H' a := by
    intro t ht hk'
    have hk2 : kd_ M a = 20 + t := hk'
    omega
  have hagg : ag_ M (sL_ M a j x) a := ag_sL _ _ _ _
  refine kk H' _ ls (hR.set (a := a) (by omega) hagg e2 e3 (fun cell2 h2 => ?_) ⟨hcO, hcA⟩) (hN.same rfl) hl (hS.put e2 e3 ?_)
  · rw [q1] at h2
    cases h2
    rw [q3]
    rfl
  · exact hN.aw hS.1 (Or.inl ⟨by omega, by omega⟩)
theorem r_ptR (g : G_ p s m args meth c cc nL own D M0) {C ref : String} {T : u_T} {N ci a i : Nat} {x : Nat} (hc : vwCl[ci]? = some (C, T, N)) (hin : ∀ w ∈ u_ws C T N, w ∈ tbG_) (ty0 : Nat → FieldType) (hty : ∀ k, k < N → parseFieldDescriptor (T k).2.2.1 = some (ty0 k)) (hnm : ∀ a, a < N → ∀ b, b < N → a ≠ b → (T a).2.1 ≠ (T b).2.1) (hk : kd_ M a = ci + 1) (j : Nat) (hj : j < N) (hlink : Cond.fieldLink own i ref (T j).2.1 (T j).2.2.1 ∈ tbG_) (hsame : ∀ x, s.fieldFound? (T j).1 (T j).2.1 (T j).2.2.1 = some x → s.fieldFound? ref (T j).2.1 (T j).2.2.1 = some x) (hfin : (T j).2.2.2 = false) (hft : ft_ ci j = 2) (hx0 : x ≠ nz_ M) (hn : narrow (ty0 j) (.ref x) = .ref x) (hf : fits (ty0 j) (.ref x) = true) (hd : decode cc pc = .ok (.putfield i, 3))
    (kk : V_ p l e R s m args below meth c nL D M0 Q (pc + 3) L S (sR_ M a j x) n k) : V_ p l e R s m args below meth c nL D M0 Q pc L (.ref x :: .ref a :: S) M n k := fun H locs ls hR hN hl hS => by
  obtain ⟨gx, gb, -, go, gt, gK, -⟩ := g
  have hci : ci < 12 := (List.getElem?_eq_some_iff.mp hc).1
  have hnf : nf_ ci = N := by unfold nf_; rw [hc]
  have hlt := hR.lt (a := a) (by omega)
  obtain ⟨cell, q1, q2, q3, q4⟩ := hR.obj hci hk
  rw [hnf] at q4
  obtain ⟨hSl, hfc, kC, hkC, hkind⟩ := gK.cls hc
  have hap : ∀ x y, x < N → y < N → x ≠ y → D.1.2 ci x ≠ D.1.2 ci y := by
    intro x y hx hy hne
    obtain ⟨_, _, _, fa, hia, ea⟩ := hSl x hx
    obtain ⟨_, _, _, fb, hib, eb⟩ := hSl y hy
    rw [← ea, ← eb]
    refine u_apart (u_lays gt hin hx) (u_lays gt hin hy) hia hib ?_
    rw [(State.fieldFound?_type hia (hty x hx)).1, (State.fieldFound?_type hib (hty y hy)).1]
    exact hnm x hx y hy hne
  obtain ⟨cf, kf, fi, f, hi, hsl⟩ := hSl j hj
  have hlay := gt _ (hin _ (u_in_lay hj))
  unfold u_lay at hlay
  have hst := (u_facts hfc hkC (u_lays gt hin hj) hi).1
  have hb0 := (hR.2.2.2.2 a).1.1 ci hci hk
  rw [if_neg (by rw [hfin]; decide)] at hlay
  have h6 := u_store hfc hkC hkind hlay hi (hty j hj) hn hf
  refine W.putK gx gb (f := f) ⟨go, gt _ hlink, ⟨_, _, _, hsame _ hi⟩, hst⟩ (by rw [q2]; exact h6) q1 q3 (by rw [hsl]; exact k2_hasslot (q4 j hj)) rfl rfl hd fun H' e1 e2 e3 => ?_
  rw [hsl] at e1 ⊢
  have hcO : cO_ D (sR_ M a j x) H' a := by
    intro ci' hci' hk'
    have hk2 : kd_ M a = ci' + 1 := hk'
    have hcc : ci' = ci := by omega
    subst hcc
    rw [hnf]
    refine ⟨⟨_, e1, q2, q3, fun z hz => (t_set q4 hap hj _ z hz).trans ?_⟩, ?_⟩
    · by_cases hzj : z = j
      · subst hzj
        simp [updV, fv_, hft, rf_sR, rv_, nz_sR, hx0]
      · simp [updV, fv_, hzj, rf_, it_, lg_, sR_, sI_, sL_, up2_]; rfl
    · intro z hz
      have := hb0.2 z hz
      exact this
  have hcA : cA_ D (sR_ M a j x) H' a := by
    intro t ht hk'
    have hk2 : kd_ M a = 20 + t := hk'
    omega
  have hagg : ag_ M (sR_ M a j x) a := ag_sR _ _ _ _
  refine kk H' _ ls (hR.set (a := a) (by omega) hagg e2 e3 (fun cell2 h2 => ?_) ⟨hcO, hcA⟩) (hN.same rfl) hl (hS.put e2 e3 ?_)
  · rw [q1] at h2
    cases h2
    rw [q3]
    rfl
  · exact hN.aw hS.1 (Or.inl ⟨by omega, by omega⟩)
theorem r_ptF (g : G_ p s m args meth c cc nL own D M0) {C ref : String} {T : u_T} {N ci a i : Nat} {x : Nat} (hc : vwCl[ci]? = some (C, T, N)) (hin : ∀ w ∈ u_ws C T N, w ∈ tbG_) (ty0 : Nat → FieldType) (hty : ∀ k, k < N → parseFieldDescriptor (T k).2.2.1 = some (ty0 k)) (hnm : ∀ a, a < N → ∀ b, b < N → a ≠ b → (T a).2.1 ≠ (T b).2.1) (hk : kd_ M a = ci + 1) (j : Nat) (hj : j < N) (hlink : Cond.fieldLink own i ref (T j).2.1 (T j).2.2.1 ∈ tbG_) (hsame : ∀ x, s.fieldFound? (T j).1 (T j).2.1 (T j).2.2.1 = some x → s.fieldFound? ref (T j).2.1 (T j).2.2.1 = some x) (hfin : (T j).2.2.2 = true) (hin2 : meth.name = "<init>") (hdecl : (T j).1 = own) (hft : ft_ ci j = 2) (hx0 : x ≠ nz_ M) (hn : narrow (ty0 j) (.ref x) = .ref x) (hf : fits (ty0 j) (.ref x) = true) (hd : decode cc pc = .ok (.putfield i, 3))
    (kk : V_ p l e R s m args below meth c nL D M0 Q (pc + 3) L S (sR_ M a j x) n k) : V_ p l e R s m args below meth c nL D M0 Q pc L (.ref x :: .ref a :: S) M n k := fun H locs ls hR hN hl hS => by
  obtain ⟨gx, gb, -, go, gt, gK, -⟩ := g
  have hci : ci < 12 := (List.getElem?_eq_some_iff.mp hc).1
  have hnf : nf_ ci = N := by unfold nf_; rw [hc]
  have hlt := hR.lt (a := a) (by omega)
  obtain ⟨cell, q1, q2, q3, q4⟩ := hR.obj hci hk
  rw [hnf] at q4
  obtain ⟨hSl, hfc, kC, hkC, hkind⟩ := gK.cls hc
  have hap : ∀ x y, x < N → y < N → x ≠ y → D.1.2 ci x ≠ D.1.2 ci y := by
    intro x y hx hy hne
    obtain ⟨_, _, _, fa, hia, ea⟩ := hSl x hx
    obtain ⟨_, _, _, fb, hib, eb⟩ := hSl y hy
    rw [← ea, ← eb]
    refine u_apart (u_lays gt hin hx) (u_lays gt hin hy) hia hib ?_
    rw [(State.fieldFound?_type hia (hty x hx)).1, (State.fieldFound?_type hib (hty y hy)).1]
    exact hnm x hx y hy hne
  obtain ⟨cf, kf, fi, f, hi, hsl⟩ := hSl j hj
  have hlay := gt _ (hin _ (u_in_lay hj))
  unfold u_lay at hlay
  have hst := (u_facts hfc hkC (u_lays gt hin hj) hi).1
  have hb0 := (hR.2.2.2.2 a).1.1 ci hci hk
  rw [if_pos hfin] at hlay
  have hcf : m.cls = cf := by
    obtain ⟨_, _, c', _, _, _, -, -, hf', -, -, -, hown2, -⟩ := Cond.laysFinal_spec hlay
    have e1 : c' = cf := by have := hi.symm.trans hf'; simp at this; exact this.1.symm
    rw [hdecl] at hown2
    rw [← e1]; exact Option.some.inj (go.symm.trans hown2)
  have h6 := u_fits hfc hkC hkind (Or.inr hlay) hi (hty j hj) hn hf
  refine W.putFinK gx gb go (gt _ hlink) (hsame _ hi) hst hcf hin2 (by rw [q2]; exact h6) q1 q3 (by rw [hsl]; exact k2_hasslot (q4 j hj)) rfl rfl hd fun H' e1 e2 e3 => ?_
  rw [hsl] at e1 ⊢
  have hcO : cO_ D (sR_ M a j x) H' a := by
    intro ci' hci' hk'
    have hk2 : kd_ M a = ci' + 1 := hk'
    have hcc : ci' = ci := by omega
    subst hcc
    rw [hnf]
    refine ⟨⟨_, e1, q2, q3, fun z hz => (t_set q4 hap hj _ z hz).trans ?_⟩, ?_⟩
    · by_cases hzj : z = j
      · subst hzj
        simp [updV, fv_, hft, rf_sR, rv_, nz_sR, hx0]
      · simp [updV, fv_, hzj, rf_, it_, lg_, sR_, sI_, sL_, up2_]; rfl
    · intro z hz
      have := hb0.2 z hz
      exact this
  have hcA : cA_ D (sR_ M a j x) H' a := by
    intro t ht hk'
    have hk2 : kd_ M a = 20 + t := hk'
    omega
  have hagg : ag_ M (sR_ M a j x) a := ag_sR _ _ _ _
  refine kk H' _ ls (hR.set (a := a) (by omega) hagg e2 e3 (fun cell2 h2 => ?_) ⟨hcO, hcA⟩) (hN.same rfl) hl (hS.put e2 e3 ?_)
  · rw [q1] at h2
    cases h2
    rw [q3]
    rfl
  · exact hN.aw hS.1 (Or.inl ⟨by omega, by omega⟩)
theorem r_alen (g : G_ p s m args meth c cc nL own D M0) {a t : Nat} (ht : t < 7) (hk : kd_ M a = 20 + t ∨ kd_ M a = 30 + t) (hd : decode cc pc = .ok (.arraylength, 1)) (kk : V_ p l e R s m args below meth c nL D M0 Q (pc + 1) L (.int (Int32.ofNat (ln_ M a)) :: S) M n k) : V_ p l e R s m args below meth c nL D M0 Q pc L (.ref a :: S) M n k := fun H locs ls hR hN hl hS => by
  obtain ⟨gx, gb, -, go, gt, gK, -⟩ := g
  rcases hk with hk | hk
  · exact W.alen (n := Int32.ofNat (ln_ M a)) gx gb (hR.arr ht hk) ((gK.2.1 t ht).1 _ _) (by rw [arrV_size] <;> rfl) rfl rfl hd (kk H locs ls hR hN hl hS)
  · obtain ⟨cell, q1, q2, q3, q4, q5⟩ := (hR.2.2.2.2 a).1.2.2 t ht hk
    exact W.alen (n := Int32.ofNat (ln_ M a)) gx gb q1 q2 (by rw [q4] <;> rfl) rfl rfl hd (kk H locs ls hR hN hl hS)
theorem r_iald (g : G_ p s m args meth c cc nL own D M0) {a : Nat} {i : Int32} (hk : kd_ M a = 20 ∨ kd_ M a = 30) (hin : vp_in i (ln_ M a)) (hd : decode cc pc = .ok (.iaload, 1)) (kk : V_ p l e R s m args below meth c nL D M0 Q (pc + 1) L (.int (it_ M a (ix_ i)) :: S) M n k) : V_ p l e R s m args below meth c nL D M0 Q pc L (.int i :: .ref a :: S) M n k := fun H locs ls hR hN hl hS => by
  obtain ⟨gx, gb, -, go, gt, gK, -⟩ := g
  have hlt : i.toNatClampNeg < ln_ M a := Nat.not_le.mp fun q => hin (Or.inr q)
  rcases hk with hk | hk
  · exact W.iald (v := .int (it_ M a (ix_ i))) gx gb (hR.arr (t := 0) (by decide) hk) ((gK.2.1 0 (by decide)).1 _ _) (fun q => by cases q) (by rw [arrV_size]; exact hin) (by rw [arrV_read _ _ hlt]; rfl) rfl rfl hd (kk H locs ls hR hN hl hS)
  · obtain ⟨cell, q1, q2, q3, q4, q5⟩ := (hR.2.2.2.2 a).1.2.2 0 (by decide) hk
    exact W.iald (v := .int (it_ M a (ix_ i))) gx gb q1 q2 q3 (by rw [q4]; exact hin) (q5 _ hlt) rfl rfl hd (kk H locs ls hR hN hl hS)
theorem r_zald (g : G_ p s m args meth c cc nL own D M0) {a : Nat} {i : Int32} (hk : kd_ M a = 21) (hin : vp_in i (ln_ M a)) (hd : decode cc pc = .ok (.baload, 1)) (kk : bz_ (it_ M a (ix_ i)) → V_ p l e R s m args below meth c nL D M0 Q (pc + 1) L (.int (it_ M a (ix_ i)) :: S) M n k) : V_ p l e R s m args below meth c nL D M0 Q pc L (.int i :: .ref a :: S) M n k := fun H locs ls hR hN hl hS => by
  obtain ⟨gx, gb, -, go, gt, gK, -⟩ := g
  have hlt : i.toNatClampNeg < ln_ M a := Nat.not_le.mp fun q => hin (Or.inr q)
  exact W.zald (v := .int (it_ M a (ix_ i))) gx gb (hR.arr (t := 1) (by decide) hk) ((gK.2.1 1 (by decide)).1 _ _) (fun q => by cases q) (by rw [arrV_size]; exact hin) (by rw [arrV_read _ _ hlt]; rfl) rfl rfl hd (kk (((hR.2.2.2.2 a).1.2.1 1 (by decide) hk).2 rfl _ hlt) H locs ls hR hN hl hS)
theorem r_lald (g : G_ p s m args meth c cc nL own D M0) {a : Nat} {i : Int32} (hk : kd_ M a = 22) (hin : vp_in i (ln_ M a)) (hd : decode cc pc = .ok (.laload, 1)) (kk : V_ p l e R s m args below meth c nL D M0 Q (pc + 1) L (.long (lg_ M a (ix_ i)) :: S) M n k) : V_ p l e R s m args below meth c nL D M0 Q pc L (.int i :: .ref a :: S) M n k := fun H locs ls hR hN hl hS => by
  obtain ⟨gx, gb, -, go, gt, gK, -⟩ := g
  have hlt : i.toNatClampNeg < ln_ M a := Nat.not_le.mp fun q => hin (Or.inr q)
  exact W.lald (v := .long (lg_ M a (ix_ i))) gx gb (hR.arr (t := 2) (by decide) hk) ((gK.2.1 2 (by decide)).1 _ _) (fun q => by cases q) (by rw [arrV_size]; exact hin) (by rw [arrV_read _ _ hlt]; rfl) rfl rfl hd (kk H locs ls hR hN hl hS)
theorem r_aald (g : G_ p s m args meth c cc nL own D M0) {a t : Nat} {i : Int32} (h3 : 3 ≤ t) (ht : t < 7) (hk : kd_ M a = 20 + t) (hin : vp_in i (ln_ M a)) (hd : decode cc pc = .ok (.aaload, 1)) (kk : V_ p l e R s m args below meth c nL D M0 Q (pc + 1) L (rv_ M (rf_ M a (ix_ i)) :: S) M n k) : V_ p l e R s m args below meth c nL D M0 Q pc L (.int i :: .ref a :: S) M n k := fun H locs ls hR hN hl hS => by
  obtain ⟨gx, gb, -, go, gt, gK, -⟩ := g
  have hlt : i.toNatClampNeg < ln_ M a := Nat.not_le.mp fun q => hin (Or.inr q)
  have hav : av_ M t a i.toNatClampNeg = rv_ M (rf_ M a (ix_ i)) := by
    unfold av_
    rw [if_neg (by omega), if_neg (by omega)]
    rfl
  have hr : (ty_ t).isReference = true := by
    rcases (show t = 3 ∨ t = 4 ∨ t = 5 ∨ t = 6 by omega) with rfl | rfl | rfl | rfl <;> rfl
  exact W.aald (v := rv_ M (rf_ M a (ix_ i))) (ty := ty_ t) gx gb (hR.arr ht hk) ((gK.2.1 t ht).1 _ _) hr (fun q => by cases q) (by rw [arrV_size]; exact hin) (by rw [arrV_read _ _ hlt, hav]) rfl rfl hd (kk H locs ls hR hN hl hS)
theorem r_iast (g : G_ p s m args meth c cc nL own D M0) {a : Nat} {i : Int32} {x : Int32} (hk : kd_ M a = 20) (hin : vp_in i (ln_ M a)) (hd : decode cc pc = .ok (.iastore, 1)) (kk : V_ p l e R s m args below meth c nL D M0 Q (pc + 1) L S (sI_ M a (ix_ i) x) n k) : V_ p l e R s m args below meth c nL D M0 Q pc L (.int x :: .int i :: .ref a :: S) M n k := fun H locs ls hR hN hl hS => by
  obtain ⟨gx, gb, -, go, gt, gK, -⟩ := g
  have hlt : i.toNatClampNeg < ln_ M a := Nat.not_le.mp fun q => hin (Or.inr q)
  obtain ⟨q1, q2⟩ := (hR.2.2.2.2 a).1.2.1 0 (by decide) hk
  refine W.iast gx gb q1 ((gK.2.1 0 (by decide)).1 _ _) (fun q => by cases q) (by rw [arrV_size]; exact hin) rfl rfl hd fun H' e1 e2 e3 => ?_
  rw [arrV_store] at e1
  have hcO : cO_ D (sI_ M a (ix_ i) x) H' a := by
    intro ci hci hk'
    have hk2 : kd_ M a = ci + 1 := hk'
    omega
  have hcA : cA_ D (sI_ M a (ix_ i) x) H' a := by
    intro t ht hk'
    have hk2 : kd_ M a = 20 + t := hk'
    have htt : t = 0 := by omega
    subst htt
    refine ⟨e1.trans ?_, ?_⟩
    · show some (arrV _ (ln_ M a) _) = some (arrV _ (ln_ M a) _)
      congr 2
      funext z
      by_cases hz : z = i.toNatClampNeg
      · subst hz
        simp [updV, av_, it_, lg_, sI_, sL_, up2_, ix_]
      · simp [updV, av_, it_, lg_, rf_, sI_, sL_, up2_, ix_, hz]
    · intro ht1 z hz
      omega
  refine kk H' _ ls (hR.set (a := a) (by omega) (ag_sI _ _ _ _) e2 e3 (fun cell2 h2 => ?_) ⟨hcO, hcA⟩) (hN.same rfl) hl (hS.put e2 e3 ?_)
  · rw [q1] at h2
    cases h2
    rfl
  · exact hN.aw hS.1 (Or.inl ⟨by omega, by omega⟩)
theorem r_zast (g : G_ p s m args meth c cc nL own D M0) {a : Nat} {i : Int32} {x : Int32} (hk : kd_ M a = 21) (hin : vp_in i (ln_ M a)) (hbz : bz_ x) (hd : decode cc pc = .ok (.bastore, 1)) (kk : V_ p l e R s m args below meth c nL D M0 Q (pc + 1) L S (sI_ M a (ix_ i) x) n k) : V_ p l e R s m args below meth c nL D M0 Q pc L (.int x :: .int i :: .ref a :: S) M n k := fun H locs ls hR hN hl hS => by
  obtain ⟨gx, gb, -, go, gt, gK, -⟩ := g
  have hlt : i.toNatClampNeg < ln_ M a := Nat.not_le.mp fun q => hin (Or.inr q)
  obtain ⟨q1, q2⟩ := (hR.2.2.2.2 a).1.2.1 1 (by decide) hk
  refine W.zast gx gb q1 ((gK.2.1 1 (by decide)).1 _ _) (fun q => by cases q) (by rw [arrV_size]; exact hin) rfl rfl hd fun H' e1 e2 e3 => ?_
  rw [arrV_store] at e1
  have hcO : cO_ D (sI_ M a (ix_ i) x) H' a := by
    intro ci hci hk'
    have hk2 : kd_ M a = ci + 1 := hk'
    omega
  have hcA : cA_ D (sI_ M a (ix_ i) x) H' a := by
    intro t ht hk'
    have hk2 : kd_ M a = 20 + t := hk'
    have htt : t = 1 := by omega
    subst htt
    refine ⟨e1.trans ?_, ?_⟩
    · show some (arrV _ (ln_ M a) _) = some (arrV _ (ln_ M a) _)
      congr 2
      funext z
      by_cases hz : z = i.toNatClampNeg
      · subst hz
        rcases hbz with rfl | rfl <;> simp [updV, av_, it_, lg_, sI_, sL_, up2_, ix_, narrow]
      · simp [updV, av_, it_, lg_, rf_, sI_, sL_, up2_, ix_, hz]
    · intro ht1 z hz
      have := q2 rfl z hz
      by_cases hzi : z = ix_ i
      · subst hzi
        rw [it_sI, if_pos ⟨rfl, rfl⟩]
        exact hbz
      · rw [it_sI, if_neg (fun h => hzi h.2)]
        exact this
  refine kk H' _ ls (hR.set (a := a) (by omega) (ag_sI _ _ _ _) e2 e3 (fun cell2 h2 => ?_) ⟨hcO, hcA⟩) (hN.same rfl) hl (hS.put e2 e3 ?_)
  · rw [q1] at h2
    cases h2
    rfl
  · exact hN.aw hS.1 (Or.inl ⟨by omega, by omega⟩)
theorem r_last (g : G_ p s m args meth c cc nL own D M0) {a : Nat} {i : Int32} {x : Int64} (hk : kd_ M a = 22) (hin : vp_in i (ln_ M a)) (hd : decode cc pc = .ok (.lastore, 1)) (kk : V_ p l e R s m args below meth c nL D M0 Q (pc + 1) L S (sL_ M a (ix_ i) x) n k) : V_ p l e R s m args below meth c nL D M0 Q pc L (.long x :: .int i :: .ref a :: S) M n k := fun H locs ls hR hN hl hS => by
  obtain ⟨gx, gb, -, go, gt, gK, -⟩ := g
  have hlt : i.toNatClampNeg < ln_ M a := Nat.not_le.mp fun q => hin (Or.inr q)
  obtain ⟨q1, q2⟩ := (hR.2.2.2.2 a).1.2.1 2 (by decide) hk
  refine W.last gx gb q1 ((gK.2.1 2 (by decide)).1 _ _) (fun q => by cases q) (by rw [arrV_size]; exact hin) rfl rfl hd fun H' e1 e2 e3 => ?_
  rw [arrV_store] at e1
  have hcO : cO_ D (sL_ M a (ix_ i) x) H' a := by
    intro ci hci hk'
    have hk2 : kd_ M a = ci + 1 := hk'
    omega
  have hcA : cA_ D (sL_ M a (ix_ i) x) H' a := by
    intro t ht hk'
    have hk2 : kd_ M a = 20 + t := hk'
    have htt : t = 2 := by omega
    subst htt
    refine ⟨e1.trans ?_, ?_⟩
    · show some (arrV _ (ln_ M a) _) = some (arrV _ (ln_ M a) _)
      congr 2
      funext z
      by_cases hz : z = i.toNatClampNeg
      · subst hz
        simp [updV, av_, it_, lg_, sI_, sL_, up2_, ix_]
      · simp [updV, av_, it_, lg_, rf_, sI_, sL_, up2_, ix_, hz]
    · intro ht1 z hz
      omega
  refine kk H' _ ls (hR.set (a := a) (by omega) (ag_sL _ _ _ _) e2 e3 (fun cell2 h2 => ?_) ⟨hcO, hcA⟩) (hN.same rfl) hl (hS.put e2 e3 ?_)
  · rw [q1] at h2
    cases h2
    rfl
  · exact hN.aw hS.1 (Or.inl ⟨by omega, by omega⟩)
end ROWS
