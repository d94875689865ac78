/-! moves of the table: what is kept where only blocks' cells, the sorter's and home's are written -/
def AK_ (ow : Nat → Nat × Nat) (M : Mm) (T b : Nat) : Prop := kd_ M b = 2 ∨ kd_ M b = 11 ∨ (kd_ M b = 22 ∧ kd_ M (ow b).1 = 9) ∨ (kd_ M b = 20 ∧ (kd_ M (ow b).1 = 2 ∨ kd_ M (ow b).1 = 9 ∨ kd_ M (ow b).1 = 10 ∨ kd_ M (ow b).1 = 11)) ∨ b = rf_ M T 1 ∨ b = rf_ M (rf_ M T 1) 1
theorem own_AK {ow : Nat → Nat × Nat} {M : Mm} {T a k n : Nat} (h : own_ ow M a k 20 n) (ha : kd_ M a = 2 ∨ kd_ M a = 9 ∨ kd_ M a = 10 ∨ kd_ M a = 11) : AK_ ow M T (rf_ M a k) := by
  unfold AK_
  rw [h.2.2, h.1]
  exact Or.inr (Or.inr (Or.inr (Or.inl ⟨rfl, ha⟩)))
section MV
variable {ow : Nat → Nat × Nat} {M M' : Mm} {T nc m R sz : Nat} {kk : Nat → Nat}
theorem TS_.ar1 (h : TS_ ow M T nc m) : (kd_ M (rf_ M (rf_ M T 1) 1) = 26 ∧ ow (rf_ M (rf_ M T 1) 1) = (rf_ M T 1, 1)) ∨ kd_ M (rf_ M (rf_ M T 1) 1) = 36 := by
  rcases h.lf.2.2.2.1 with z | z
  · exact Or.inr z.2.1
  · exact Or.inl ⟨z.1, z.2.2.2.2⟩
theorem TS_.ar0 (h : TS_ ow M T nc m) (hn : 0 < nc) : kd_ M (rf_ M (rf_ M T 0) 1) = 26 ∧ ow (rf_ M (rf_ M T 0) 1) = (rf_ M T 0, 1) := ⟨(h.lc.arr hn).1, (h.lc.arr hn).2.2.2.2⟩
theorem AK_.ta (hS : TS_ ow M T nc m) {b : Nat} (h : AK_ ow M T b) : TA_ ow M b := by
  unfold TA_
  rcases h with h | h | h | h | h | h
  · exact Or.inr (Or.inl h)
  · exact Or.inr (Or.inr (Or.inr (Or.inr (Or.inr (Or.inl h)))))
  · exact Or.inr (Or.inr (Or.inr (Or.inr (Or.inr (Or.inr (Or.inr (Or.inr ⟨Or.inr (Or.inr h.1), Or.inr (Or.inr (Or.inl h.2))⟩)))))))
  · exact Or.inr (Or.inr (Or.inr (Or.inr (Or.inr (Or.inr (Or.inr (Or.inr ⟨Or.inl h.1, by omega⟩)))))))
  · rw [h]; exact Or.inl hS.t.2.1.1
  · rw [h]
    rcases hS.ar1 with z | z
    · exact Or.inr (Or.inr (Or.inr (Or.inr (Or.inr (Or.inr (Or.inl z.1))))))
    · exact Or.inr (Or.inr (Or.inr (Or.inr (Or.inr (Or.inr (Or.inr (Or.inl z)))))))
theorem TS_.nT (hS : TS_ ow M T nc m) : ¬ AK_ ow M T T := by
  have := hS.kT
  have t := hS.t.2.1.1
  have a := hS.ar1
  have e1 : T ≠ rf_ M T 1 := fun e => by rw [← e] at t; omega
  have e2 : T ≠ rf_ M (rf_ M T 1) 1 := fun e => by rw [← e] at a; omega
  unfold AK_
  rintro (h | h | h | h | h | h)
  · omega
  · omega
  · omega
  · omega
  · exact e1 h
  · exact e2 h
theorem TS_.nl (hS : TS_ ow M T nc m) : ¬ AK_ ow M T (rf_ M T 2) := by
  have := hS.t.2.2.1.1
  have t := hS.t.2.1.1
  have a := hS.ar1
  have e1 : rf_ M T 2 ≠ rf_ M T 1 := fun e => by rw [← e] at t; omega
  have e2 : rf_ M T 2 ≠ rf_ M (rf_ M T 1) 1 := fun e => by rw [← e] at a; omega
  unfold AK_
  rintro (h | h | h | h | h | h)
  · omega
  · omega
  · omega
  · omega
  · exact e1 h
  · exact e2 h
theorem TS_.nc0 (hS : TS_ ow M T nc m) : ¬ AK_ ow M T (rf_ M T 0) := by
  have := hS.t.1
  have t := hS.t.2.1
  have a := hS.ar1
  have e1 : rf_ M T 0 ≠ rf_ M T 1 := own_ne this t (Or.inr (by decide))
  have e2 : rf_ M T 0 ≠ rf_ M (rf_ M T 1) 1 := fun e => by rw [← e] at a; have := this.1; omega
  have := this.1
  unfold AK_
  rintro (h | h | h | h | h | h)
  · omega
  · omega
  · omega
  · omega
  · exact e1 h
  · exact e2 h
theorem TS_.nca (hS : TS_ ow M T nc m) (hn : 0 < nc) : ¬ AK_ ow M T (rf_ M (rf_ M T 0) 1) := by
  obtain ⟨this, o⟩ := hS.ar0 hn
  have t := hS.t.2.1
  have t0 := hS.t.1
  have a := hS.ar1
  have e1 : rf_ M (rf_ M T 0) 1 ≠ rf_ M T 1 := fun e => by rw [e] at this; have := t.1; omega
  have e2 : rf_ M (rf_ M T 0) 1 ≠ rf_ M (rf_ M T 1) 1 := fun e => by
    rcases a with a | a
    · rw [e, a.2] at o
      exact own_ne t0 t (Or.inr (by decide)) (Prod.mk.inj o).1.symm
    · rw [e] at this; omega
  unfold AK_
  rintro (h | h | h | h | h | h)
  · omega
  · omega
  · omega
  · omega
  · exact e1 h
  · exact e2 h
theorem TS_.ncc (hS : TS_ ow M T nc m) {c : Nat} (hc : c < nc) : ¬ AK_ ow M T (cl_ M T c) ∧ ¬ AK_ ow M T (rf_ M (cl_ M T c) 0) ∧ ¬ AK_ ow M T (rf_ M (cl_ M T c) 1) := by
  have k := hS.cl hc
  obtain ⟨o0, o1⟩ := hS.co hc
  have t := hS.t.2.1.1
  have a := hS.ar1
  have w0 : kd_ M (ow (rf_ M (cl_ M T c) 0)).1 = 3 := by rw [o0.2.2]; exact k
  have w1 : kd_ M (rf_ M (cl_ M T c) 0) = 20 := o0.1
  have w2 : kd_ M (rf_ M (cl_ M T c) 1) = 21 := o1.1
  have d : ∀ b, kd_ M b ≠ 1 → kd_ M b ≠ 26 → kd_ M b ≠ 36 → b ≠ rf_ M T 1 ∧ b ≠ rf_ M (rf_ M T 1) 1 := fun b b1 b2 b3 => ⟨fun e => b1 (by rw [e]; exact t), fun e => by rw [← e] at a; omega⟩
  have d0 := d (cl_ M T c) (by omega) (by omega) (by omega)
  have d1 := d (rf_ M (cl_ M T c) 0) (by omega) (by omega) (by omega)
  have d2 := d (rf_ M (cl_ M T c) 1) (by omega) (by omega) (by omega)
  unfold AK_
  refine ⟨?_, ?_, ?_⟩
  · rintro (h | h | h | h | h | h)
    · omega
    · omega
    · omega
    · omega
    · exact d0.1 h
    · exact d0.2 h
  · rintro (h | h | h | h | h | h)
    · omega
    · omega
    · omega
    · omega
    · exact d1.1 h
    · exact d1.2 h
  · rintro (h | h | h | h | h | h)
    · omega
    · omega
    · omega
    · omega
    · exact d2.1 h
    · exact d2.2 h
theorem ak_T (hX : Gw_ (AK_ ow M T) M M') (hS : TS_ ow M T nc m) : ∀ k, rf_ M' T k = rf_ M T k ∧ it_ M' T k = it_ M T k ∧ lg_ M' T k = lg_ M T k := hX.2 T (by rw [hS.kT]; decide) hS.nT
theorem ak_al (hX : Gw_ (AK_ ow M T) M M') (hS : TS_ ow M T nc m) (r : Nat) : al_ M' T r = al_ M T r := by
  unfold al_
  rw [(ak_T hX hS 2).1]
  exact hX.it (by rw [hS.t.2.2.1.1]; decide) hS.nl r
theorem ak_cl (hX : Gw_ (AK_ ow M T) M M') (hS : TS_ ow M T nc m) {c : Nat} (hc : c < nc) : cl_ M' T c = cl_ M T c := by
  unfold cl_
  rw [(ak_T hX hS 0).1]
  exact hX.el hS.lc hS.nc0 (hS.nca (by omega)) hc
theorem ak_lc (hX : Gw_ (AK_ ow M T) M M') (hS : TS_ ow M T nc m) {ow' : Nat → Nat × Nat} (hw : ∀ b, kd_ M b ≠ 0 → ow' b = ow b) : Ls_ ow' M' (rf_ M' T 0) nc 3 := by
  rw [(ak_T hX hS 0).1]
  refine hX.ls hw hS.nc0 (fun h26 => ?_) (by decide) hS.lc
  by_cases h0 : nc = 0
  · rcases hS.lc.2.2.2.1 with z | z
    · omega
    · have o := z.2.2.2.2
      have t := hS.t.2.1
      have a := hS.ar1
      unfold AK_
      rintro (h | h | h | h | h | h)
      · omega
      · omega
      · omega
      · omega
      · rw [h] at h26; have := t.1; omega
      · rcases a with a | a
        · rw [h, a.2] at o
          exact own_ne hS.t.1 t (Or.inr (by decide)) (Prod.mk.inj o).1.symm
        · rw [h] at h26; omega
  · exact hS.nca (by omega)
theorem ak_cc (hX : Gw_ (AK_ ow M T) M M') (hS : TS_ ow M T nc m) {c : Nat} (hc : c < nc) : (∀ k, rf_ M' (cl_ M T c) k = rf_ M (cl_ M T c) k ∧ it_ M' (cl_ M T c) k = it_ M (cl_ M T c) k) ∧ (∀ r, it_ M' (rf_ M (cl_ M T c) 0) r = it_ M (rf_ M (cl_ M T c) 0) r) ∧ ∀ r, it_ M' (rf_ M (cl_ M T c) 1) r = it_ M (rf_ M (cl_ M T c) 1) r := by
  obtain ⟨n0, n1, n2⟩ := hS.ncc hc
  obtain ⟨o0, o1⟩ := hS.co hc
  have k := hS.cl hc
  exact ⟨fun k' => ⟨hX.rf (by rw [k]; decide) n0 k', hX.it (by rw [k]; decide) n0 k'⟩, hX.it (by rw [o0.1]; decide) n1, hX.it (by rw [o1.1]; decide) n2⟩
theorem TN_.ak (hX : Gw_ (AK_ ow M T) M M') (hS : TS_ ow M T nc m) (h : TN_ M T R sz) : TN_ M' T R sz := by
  have t := ak_T hX hS
  obtain ⟨h1, h2, h3, h4, h5, h6, h7⟩ := h
  exact ⟨by rw [(t 7).2.1]; exact h1, h2, by rw [(t 6).2.1]; exact h3, h4, h5, fun r hr => by rw [ak_al hX hS]; exact h6 r hr, by rw [(t 8).2.1, lvn_congr (fun r _ => ak_al hX hS r)]; exact h7⟩
theorem TC_.ak (hX : Gw_ (AK_ ow M T) M M') (hS : TS_ ow M T nc m) (h : TC_ M T nc R) : TC_ M' T nc R := by
  intro c r hc hr hl
  obtain ⟨q1, q2, q3⟩ := ak_cc hX hS hc
  rw [ak_cl hX hS hc, (q1 1).1, q3] at hl
  rw [ak_cl hX hS hc, (q1 0).1, q2]
  exact h c r hc hr hl
/-- zones of a block none of whose cells is written -/
theorem FZ_.ak (hX : Gw_ (AK_ ow M T) M M') (hS : TS_ ow M T nc m) {b k : Nat} (hb : Sa_ M M' b) (hb0 : ∀ j, j < k → it_ M' (rf_ M b 0) j = it_ M (rf_ M b 0) j) (hb1 : Sa_ M M' (rf_ M b 1)) (hz : ∀ c, c < 8 → Sa_ M M' (rf_ M (rf_ M b 1) c)) (h : FZ_ M b k nc (cl_ M T)) : FZ_ M' b k nc (cl_ M' T) := by
  have n8 := hS.nc8
  have e : ∀ c, c < nc → cl_ M' T c = cl_ M T c := fun c hc => ak_cl hX hS hc
  have g := FZ_.keep (nc := nc) (C := cl_ M T) hb hb1 (fun c hc => hz c (by omega)) hb0 (fun c hc => ⟨((ak_cc hX hS hc).1 0).1, ((ak_cc hX hS hc).1 1).1⟩) (fun c j r hc _ _ _ => ⟨(ak_cc hX hS hc).2.1 r, (ak_cc hX hS hc).2.2 r⟩) h
  exact ⟨fun c hc => by rw [e c hc]; exact g.1 c hc, g.2⟩
end MV
