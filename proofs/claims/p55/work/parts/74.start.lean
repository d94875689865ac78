/-! THE START: the memory and the numbers of the start's state -/
section ST
variable {s : State} {args : Array Value}
theorem ws_in : ∀ q ∈ vwCl, (∀ w ∈ u_ws q.1 q.2.1 q.2.2, w ∈ lw_tbl) ∧ Cond.instantiable q.1 q.2.2 ∈ lw_tbl := by
  have h : ∀ q ∈ vwCl, (∀ w ∈ u_ws q.1 q.2.1 q.2.2, w ∈ tables_1) ∧ Cond.instantiable q.1 q.2.2 ∈ tables_1 := by decide +kernel
  exact fun q hq => ⟨fun w hw => List.mem_append_right _ ((h q hq).1 w hw), List.mem_append_right _ (h q hq).2⟩
theorem ws_cls (hts : ∀ w ∈ lw_tbl, w.before args s = true) : ∃ (dC : Nat → ClassId) (dI : Nat → Nat → Nat), ∀ (c : Nat) (q : vw_C), vwCl[c]? = some q → u_Kn s q.1 q.2.1 q.2.2 (dC c) (dI c) := by
  have h : ∀ c : Nat, ∃ x : ClassId × (Nat → Nat), ∀ q : vw_C, vwCl[c]? = some q → u_Kn s q.1 q.2.1 q.2.2 x.1 x.2 := by
    intro c
    by_cases hc : ∃ q : vw_C, vwCl[c]? = some q
    · obtain ⟨q, hq⟩ := hc
      obtain ⟨h1, h2⟩ := ws_in q (List.mem_of_getElem? hq)
      obtain ⟨cC, iS, hK⟩ := u_known (n := q.2.2) hts h1 (hts _ h2)
      refine ⟨(cC, iS), fun q' h => ?_⟩
      cases hq.symm.trans h
      exact hK
    · exact ⟨(0, fun _ => 0), fun q hq => absurd ⟨q, hq⟩ hc⟩
  exact ⟨fun c => (Classical.choose (h c)).1, fun c => (Classical.choose (h c)).2, fun c => Classical.choose_spec (h c)⟩
theorem ws_prim {ty : FieldType} (h : (Cond.arrayClass ty).before args s = true) (hp : ∀ C, ty ≠ .object C) : ∃ cA : ClassId, ArrOfT s cA ty ∧ va_RA s cA ty := by
  obtain ⟨cA, kA, comp, h1, h2, h3⟩ := Cond.arrayClass_spec h
  refine ⟨cA, fun N z => ⟨(fun k h => by cases h), kA, h2, comp, h3⟩, ?_⟩
  cases ty with
  | object C => exact absurd rfl (hp C)
  | _ => exact h1
theorem ws_obj {C : String} (h : (Cond.arrayOver (.object C)).before args s = true) : ∃ cA : ClassId, ArrOfT s cA (.object C) ∧ va_RA s cA (.object C) := by
  obtain ⟨comp, cA, kA, h1, -, h2, h3, h4⟩ := Cond.arrayOver_spec h
  exact ⟨cA, fun N z => ⟨(fun k h => by cases h), kA, h2, comp, h3⟩, kA, comp, h2, h3, h1, h4⟩
theorem ws_arr (hts : ∀ w ∈ lw_tbl, w.before args s = true) : ∃ dA : Nat → ClassId, ∀ t, t < 7 → ArrOfT s (dA t) (ty_ t) ∧ va_RA s (dA t) (ty_ t) := by
  have h : ∀ t : Nat, ∃ cA : ClassId, t < 7 → ArrOfT s cA (ty_ t) ∧ va_RA s cA (ty_ t) := by
    intro t
    match t with
    | 0 =>
      obtain ⟨cA, h⟩ := ws_prim (s := s) (args := args) (hts (.arrayClass .int) (List.mem_filter.mp tw_81).1) (fun C e => by cases e)
      exact ⟨cA, fun _ => h⟩
    | 1 =>
      obtain ⟨cA, h⟩ := ws_prim (s := s) (args := args) (hts (.arrayClass .boolean) (List.mem_filter.mp tw_80).1) (fun C e => by cases e)
      exact ⟨cA, fun _ => h⟩
    | 2 =>
      obtain ⟨cA, h⟩ := ws_prim (s := s) (args := args) (hts (.arrayClass .long) (List.mem_filter.mp tw_82).1) (fun C e => by cases e)
      exact ⟨cA, fun _ => h⟩
    | 3 =>
      obtain ⟨cA, h⟩ := ws_obj (s := s) (args := args) (hts _ (List.mem_filter.mp tx_90).1)
      exact ⟨cA, fun _ => h⟩
    | 4 =>
      obtain ⟨cA, h⟩ := ws_obj (s := s) (args := args) (hts _ (List.mem_filter.mp tx_224).1)
      exact ⟨cA, fun _ => h⟩
    | 5 =>
      obtain ⟨cA, h⟩ := ws_obj (s := s) (args := args) (hts _ (List.mem_filter.mp tx_217).1)
      exact ⟨cA, fun _ => h⟩
    | 6 =>
      obtain ⟨cA, h⟩ := ws_obj (s := s) (args := args) (hts _ (List.mem_filter.mp tx_517).1)
      exact ⟨cA, fun _ => h⟩
    | t + 7 => exact ⟨0, fun z => by omega⟩
  exact ⟨fun t => Classical.choose (h t), fun t => Classical.choose_spec (h t)⟩
/-- the empty row of the lists -/
theorem ws_row {tm : Term} {ty : FieldType} (harr : (Cond.arrayOf tm ty).before args s = true) (hlen : (Cond.eq (.length tm) (.int 0)).before args s = true) : ∃ (t : Nat) (cell : Cell), tm.eval args s none [] s = some (.ref t) ∧ s.heap[t]? = some cell ∧ s.isArrayOf cell ty ∧ cell.vm ≠ .unknown ∧ cell.slots.size = 0 := by
  have hv := va_eqt hlen
  obtain ⟨t, cell, ht, hat, h0⟩ := Term.length_spec hv
  obtain ⟨hcell, -, -, -⟩ := State.arrayAt?_spec hat
  obtain ⟨hof, hkn⟩ := Cond.arrayOf_spec harr ht hcell
  refine ⟨t, cell, ht, hcell, hof, hkn, ?_⟩
  have hsz : cell.slots.size < 2147483648 := by
    simp only [Term.eval, ht, hat, Option.bind_eq_bind, Option.bind_some] at hv
    by_cases hlt : cell.slots.size < 2147483648
    · exact hlt
    · simp [hlt] at hv
  have e : nI 0 = nI cell.slots.size := Value.int.inj h0
  exact (nI_inj (by omega) hsz e).symm
theorem ws_str {k : Nat} {tx : String} (h1 : (Cond.stringRef "ColdFrame" k tx).before args s = true) (h2 : (Cond.exactly (.string "ColdFrame" k) "java/lang/String").before args s = true) : ∃ sa : Nat, vk_R "ColdFrame" k tx sa s := by
  obtain ⟨a, c, cell, kc, ht, -⟩ := Cond.exactly_spec h2
  exact ⟨a, vk_R.of h1 ht⟩
theorem ws_words (hts : ∀ w ∈ lw_tbl, w.before args s = true) : ∀ w ∈ xw_, va_Nw w s := by
  intro w hw
  have hx := (List.mem_filter.mp hw).2
  have hz := hts w (List.mem_filter.mp hw).1
  cases w <;> first | (simp [xk_] at hx; done) | exact va_Nw.of rfl hz | skip
  rename_i ty
  cases ty <;> first | (simp [xk_] at hx; done) | exact va_AO.of hz
end ST
