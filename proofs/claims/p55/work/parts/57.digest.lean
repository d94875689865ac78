/-! the digest, as a plain function of the memory -/
def fl_ (g : Int64 → Nat → Int64) : Nat → Int64 → Int64
  | 0, d => d
  | n + 1, d => g (fl_ g n d) n
theorem fl_congr {g g' : Int64 → Nat → Int64} {n : Nat} (h : ∀ i d, i < n → g d i = g' d i) (d : Int64) : fl_ g n d = fl_ g' n d := by
  induction n with
  | zero => rfl
  | succ n ih =>
    unfold fl_
    rw [ih (fun i d hi => h i d (by omega)), h n _ (by omega)]
def mx_ (d x : Int64) : Int64 := d * 31 + x
def b01_ (x : Int32) : Int64 := if x = 0 then 0 else 1
def gC_ (M : Mm) (T r : Nat) : Int64 → Nat → Int64 := fun d c => mx_ (mx_ d (b01_ (nu_ M T c r))) (vl_ M T c r).toInt64
def gR_ (M : Mm) (T nc : Nat) : Int64 → Nat → Int64 := fun d r => fl_ (gC_ M T r) nc (mx_ (mx_ d (b01_ (al_ M T r))) (hm_ M T r).toInt64)
def gZ_ (M : Mm) (z : Nat) (d : Int64) : Int64 := mx_ (mx_ (mx_ (mx_ (mx_ (mx_ d (it_ M z 6).toInt64) (it_ M z 1).toInt64) (it_ M z 2).toInt64) (it_ M z 3).toInt64) (it_ M z 4).toInt64) (it_ M z 5).toInt64
def gJ_ (M : Mm) (a : Nat) : Int64 → Nat → Int64 := fun d j => mx_ d (it_ M a j).toInt64
def gB_ (M : Mm) (T m nc : Nat) (kk : Nat → Nat) : Int64 → Nat → Int64 := fun d f => fl_ (fun d c => gZ_ M (zo_ M T f c) d) nc (mx_ (fl_ (gJ_ M (rf_ M (bk_ M T m f) 0)) (kk f) (mx_ d (it_ M (bk_ M T m f) 2).toInt64)) (it_ M (bk_ M T m f) 3).toInt64)
def g0_ (M : Mm) (F nc m R n : Nat) : Int64 := mx_ (mx_ (mx_ (mx_ (mx_ (mx_ (mx_ (mx_ (mx_ 58023 (nI nc).toInt64) (nI R).toInt64) (it_ M (rf_ M F 0) 8).toInt64) (nI m).toInt64) (it_ M (rf_ M (rf_ M F 0) 5) 2).toInt64) (bmt_ M (rf_ M F 0) m nc).toInt64) (it_ M F 4).toInt64) (it_ M F 5).toInt64) (nI n).toInt64
def dg_ (M : Mm) (F nc m R n : Nat) (kk : Nat → Nat) : Int64 := fl_ (gB_ M (rf_ M F 0) m nc kk) m (fl_ (gR_ M (rf_ M F 0) nc) R (fl_ (gJ_ M (rf_ M (rf_ M F 3) 0)) n (g0_ M F nc m R n)))
section DG
variable {ow : Nat → Nat × Nat} {M M' : Mm} {F nc m R sz : Nat} {kk : Nat → Nat} {K : Mm → Int64 → Prop}
theorem sp_mixed {d x : Int64} (hK : K M (mx_ d x)) : wp_X10_mixed d x M K := hK
/-- the result's rows -/
def RI_ (M : Mm) (Re R n : Nat) : Prop := n ≤ 600 ∧ it_ M Re 1 = nI n ∧ ∀ j, j < n → ∃ r, r < R ∧ it_ M (rf_ M Re 0) j = nI r
theorem sp_digestOfCounts (hF : kd_ M F = 12) (h : TI_ ow M (rf_ M F 0) nc m R sz kk (fun j => j < m)) {n : Nat} (hr : RI_ M (rf_ M F 3) R n) (hK : K M (fl_ (gJ_ M (rf_ M (rf_ M F 3) 0)) n (g0_ M F nc m R n))) : wp_X10_digestOfCounts F 58023 M K := by
  have hS := h.1
  have t := hS.t
  have f := hS.sh.cfr hF
  have q := hS.sh.res f.2.2.2.1
  have n6 := hr.1
  refine ⟨hF, hS.kT, t.1.1, sp_size hS.lc (fun _ => sp_mixed (fun _ => ⟨hS.kT, sp_mixed (fun _ => ⟨hS.kT, sp_mixed (fun _ => ⟨hS.kT, t.2.1.1, sp_size hS.lf (fun _ => sp_mixed (fun _ => ⟨hS.kT, hS.kb, sp_mixed (fun _ => ⟨hS.kT, sp_bob h (fun _ => sp_mixed (fun _ => sp_mixed (fun _ => sp_mixed (fun _ => ⟨f.2.2.2.1, sp_mixed (fun _ => ⟨n + 1, ?_⟩)⟩))))⟩)⟩))⟩)⟩)⟩))⟩
  rw [h.2.2.2.1.1, hr.2.1]
  have key : ∀ (n' i : Nat), i ≤ n → n - i < n' → lp_X10_digestOfCounts_123 F K (fun yv96 M94 => Nk_ M M94 → (K M94 yv96)) n' (fl_ (gJ_ M (rf_ M (rf_ M F 3) 0)) i (g0_ M F nc m R n)) (nI i) M := by
    intro n'
    induction n' with
    | zero => intro i _ h; omega
    | succ n' ih =>
      intro i hi hn
      have q1 : i < n → n - (i + 1) < n' := by omega
      unfold lp_X10_digestOfCounts_123
      rw [hr.2.1, le_nI (by omega) (by omega)]
      refine ⟨f.2.2.2.1, fun hh => ?_, fun hh => ⟨q.1.1, by rw [q.1.2.1]; exact vi_ (by omega) (by decide), sp_mixed (fun _ => ?_)⟩⟩
      · have : i = n := by omega
        rw [this]
        exact fun _ => hK
      · rw [ix_nI (by omega), nI_p1]
        exact ih (i + 1) (by omega) (q1 (by omega))
  exact key (n + 1) 0 (by omega) (by omega)
theorem sp_digestOfRows (hF : kd_ M F = 12) (h : TI_ ow M (rf_ M F 0) nc m R sz kk (fun j => j < m)) {d : Int64} (hK : K M (fl_ (gR_ M (rf_ M F 0) nc) R d)) : wp_X10_digestOfRows F d M K := by
  have hS := h.1
  have t := hS.t
  have n8 := hS.nc8
  have hR := h.2.2.2.1.2.1
  have key1 : ∀ (E : Int64 → Mm → Prop) (r : Nat) (d0 : Int64), r < R → E (fl_ (gC_ M (rf_ M F 0) r) nc d0) M → ∀ (n c : Nat), c ≤ nc → nc - c < n → lp_X10_digestOfRows_59 F (nI r) K E n (fl_ (gC_ M (rf_ M F 0) r) c d0) (nI c) M := by
    intro E r d0 hr hE n
    induction n with
    | zero => intro c _ h; omega
    | succ n ih =>
      intro c hc hn
      have q1 : c < nc → nc - (c + 1) < n := by omega
      unfold lp_X10_digestOfRows_59
      refine ⟨hS.kT, t.1.1, sp_size hS.lc (fun _ => ?_)⟩
      rw [le_nI (by omega) (by omega)]
      refine ⟨fun hh => ?_, fun hh => ?_⟩
      · have : c = nc := by omega
        rw [this]
        exact hE
      have hcn : c < nc := by omega
      have o := hS.co hcn
      have next := ih (c + 1) (by omega) (q1 hcn)
      rw [← nI_p1] at next
      refine ⟨hS.kT, t.1.1, sp_get hS.lc hcn (by decide) (fun _ => ?_)⟩
      have k3 := hS.cl hcn
      have o0 := o.1.2.1
      have o1 := o.2.2.1
      have p0 := o.1.1
      have p1 := o.2.1
      have eg : fl_ (gC_ M (rf_ M F 0) r) (c + 1) d0 = mx_ (mx_ (fl_ (gC_ M (rf_ M F 0) r) c d0) (b01_ (nu_ M (rf_ M F 0) c r))) (vl_ M (rf_ M F 0) c r).toInt64 := rfl
      rw [eg] at next
      unfold nu_ vl_ at next
      unfold cl_ at k3 o0 o1 p0 p1 next
      refine ⟨k3, p1, by rw [o1]; exact vi_ (by omega) (by decide), fun _ => ?_⟩
      rw [ix_nI (by omega)]
      refine ⟨fun h0 => sp_mixed (fun _ => ⟨p0, by rw [o0]; exact vi_ (by omega) (by decide), sp_mixed (fun _ => ?_)⟩), fun h0 => sp_mixed (fun _ => ⟨p0, by rw [o0]; exact vi_ (by omega) (by decide), sp_mixed (fun _ => ?_)⟩)⟩
      · rw [show b01_ (it_ M (rf_ M (el_ M (rf_ M (rf_ M F 0) 0) c) 1) r) = 0 from if_pos h0] at next
        exact next
      · rw [show b01_ (it_ M (rf_ M (el_ M (rf_ M (rf_ M F 0) 0) c) 1) r) = 1 from if_neg h0] at next
        exact next
  have key2 : ∀ (n r : Nat), r ≤ R → R - r < n → lp_X10_digestOfRows_5 F K (fun yv105 M103 => Nk_ M M103 → (K M103 yv105)) n (fl_ (gR_ M (rf_ M F 0) nc) r d) (nI r) M := by
    intro n
    induction n with
    | zero => intro c _ h; omega
    | succ n ih =>
      intro r hr hn
      have q1 : r < R → R - (r + 1) < n := by omega
      unfold lp_X10_digestOfRows_5
      rw [h.2.2.2.1.1, le_nI (by omega) (by omega)]
      refine ⟨hS.kT, fun hh => ?_, fun hh => ?_⟩
      · have : r = R := by omega
        rw [this]
        exact fun _ => hK
      have hrR : r < R := by omega
      have next := ih (r + 1) (by omega) (q1 hrR)
      rw [← nI_p1] at next
      have eg : fl_ (gR_ M (rf_ M F 0) nc) (r + 1) d = fl_ (gC_ M (rf_ M F 0) r) nc (mx_ (mx_ (fl_ (gR_ M (rf_ M F 0) nc) r d) (b01_ (al_ M (rf_ M F 0) r))) (hm_ M (rf_ M F 0) r).toInt64) := rfl
      rw [eg] at next
      refine ⟨t.2.2.1.1, by rw [t.2.2.1.2.1]; exact vi_ (by omega) (by decide), fun _ => ?_⟩
      rw [ix_nI (by omega)]
      refine ⟨fun h0 => sp_mixed (fun _ => ⟨hS.kT, t.2.2.2.1.1, by rw [t.2.2.2.1.2.1]; exact vi_ (by omega) (by decide), sp_mixed (fun _ => ⟨nc + 1, ?_⟩)⟩), fun h0 => sp_mixed (fun _ => ⟨hS.kT, t.2.2.2.1.1, by rw [t.2.2.2.1.2.1]; exact vi_ (by omega) (by decide), sp_mixed (fun _ => ⟨nc + 1, ?_⟩)⟩)⟩
      · rw [show b01_ (al_ M (rf_ M F 0) r) = 0 from if_pos h0] at next
        exact key1 _ r _ hrR (fun _ => next) (nc + 1) 0 (by omega) (by omega)
      · rw [show b01_ (al_ M (rf_ M F 0) r) = 1 from if_neg h0] at next
        exact key1 _ r _ hrR (fun _ => next) (nc + 1) 0 (by omega) (by omega)
  exact ⟨hF, R + 1, key2 (R + 1) 0 (by omega) (by omega)⟩
theorem sp_digestOfZone {z : Nat} {d : Int64} (hz : kd_ M z = 11) (hK : K M (gZ_ M z d)) : wp_X10_digestOfZone d z M K := ⟨hz, sp_mixed (fun _ => sp_mixed (fun _ => sp_mixed (fun _ => sp_mixed (fun _ => sp_mixed (fun _ => sp_mixed (fun _ => hK))))))⟩
theorem sp_digestOfFrames (hF : kd_ M F = 12) (h : TI_ ow M (rf_ M F 0) nc m R sz kk (fun j => j < m)) {d : Int64} (hK : K M (fl_ (gB_ M (rf_ M F 0) m nc kk) m d)) : wp_X10_digestOfFrames F d M K := by
  have hS := h.1
  have t := hS.t
  have n8 := hS.nc8
  have m2 := hS.m2
  have key1 : ∀ (E : Int64 → Mm → Prop) (f : Nat) (x5 : Int32) (d0 : Int64), f < m → E (fl_ (gJ_ M (rf_ M (bk_ M (rf_ M F 0) m f) 0)) (kk f) d0) M → ∀ (n j : Nat), j ≤ kk f → kk f - j < n → lp_X10_digestOfFrames_51 F x5 (bk_ M (rf_ M F 0) m f) K E n (fl_ (gJ_ M (rf_ M (bk_ M (rf_ M F 0) m f) 0)) j d0) (nI j) M := by
    intro E f x5 d0 hf hE n
    have hB := h.2.1.1 f (by omega)
    have b0 := (hS.bo f).1
    have hk6 := hB.2.1
    induction n with
    | zero => intro c _ h; omega
    | succ n ih =>
      intro j hj hn
      have q1 : j < kk f → kk f - (j + 1) < n := by omega
      unfold lp_X10_digestOfFrames_51
      rw [hB.1, le_nI (by omega) (by omega)]
      refine ⟨fun hh => ?_, fun hh => ⟨b0.1, by rw [b0.2.1]; exact vi_ (by omega) (by decide), sp_mixed (fun _ => ?_)⟩⟩
      · have : j = kk f := by omega
        rw [this]
        exact hE
      · rw [ix_nI (by omega), nI_p1]
        exact ih (j + 1) (by omega) (q1 (by omega))
  have key2 : ∀ (E : Int64 → Mm → Prop) (f : Nat) (x5 : Int32) (d0 : Int64), f < m → E (fl_ (fun d c => gZ_ M (zo_ M (rf_ M F 0) f c) d) nc d0) M → ∀ (n c : Nat), c ≤ nc → nc - c < n → lp_X10_digestOfFrames_95 F x5 (el_ M (rf_ M (rf_ M F 0) 1) f) K E n (fl_ (fun d c => gZ_ M (zo_ M (rf_ M F 0) f c) d) c d0) (nI c) M := by
    intro E f x5 d0 hf hE n
    have b1 := (hS.bo f).2.1
    have e : bk_ M (rf_ M F 0) m f = el_ M (rf_ M (rf_ M F 0) 1) f := if_pos hf
    rw [e] at b1
    induction n with
    | zero => intro c _ h; omega
    | succ n ih =>
      intro c hc hn
      have q1 : c < nc → nc - (c + 1) < n := by omega
      unfold lp_X10_digestOfFrames_95
      refine ⟨hS.kT, t.1.1, sp_size hS.lc (fun _ => ?_)⟩
      rw [le_nI (by omega) (by omega)]
      refine ⟨fun hh => ?_, fun hh => ?_⟩
      · have : c = nc := by omega
        rw [this]
        exact hE
      have hcn : c < nc := by omega
      rw [ix_nI (by omega), nI_p1]
      have zk := zo_k hS hf hcn
      refine ⟨b1.1, by rw [b1.2.1]; exact vi_ (by omega) (by decide), zk, sp_digestOfZone zk (fun _ => ih (c + 1) (by omega) (q1 hcn))⟩
  have key3 : ∀ (n f : Nat), f ≤ m → m - f < n → lp_X10_digestOfFrames_5 F K (fun yv80 M78 => Nk_ M M78 → (K M78 yv80)) n (fl_ (gB_ M (rf_ M F 0) m nc kk) f d) (nI f) M := by
    intro n
    induction n with
    | zero => intro c _ h; omega
    | succ n ih =>
      intro f hf hn
      have q1 : f < m → m - (f + 1) < n := by omega
      unfold lp_X10_digestOfFrames_5
      refine ⟨hS.kT, t.2.1.1, sp_size hS.lf (fun _ => ?_)⟩
      rw [le_nI (by omega) (by omega)]
      refine ⟨fun hh => ?_, fun hh => ?_⟩
      · have : f = m := by omega
        rw [this]
        exact fun _ => hK
      have hfm : f < m := by omega
      have next := ih (f + 1) (by omega) (q1 hfm)
      rw [← nI_p1] at next
      have e : bk_ M (rf_ M F 0) m f = el_ M (rf_ M (rf_ M F 0) 1) f := if_pos hfm
      refine ⟨hS.kT, t.2.1.1, sp_get hS.lf hfm (by decide) (fun _ => ⟨hS.lf.el hfm, sp_mixed (fun _ => ⟨kk f + 1, ?_⟩)⟩)⟩
      have k1 := key1 (fun yv40 M38 => Nk_ M M38 → (wp_X10_mixed yv40 ((it_ M38 (el_ M (rf_ M (rf_ M F 0) 1) f) 3).toInt64) M38 (fun M44 r45 => Nk_ M38 M44 → (∃ n71 : Nat, lp_X10_digestOfFrames_95 F (nI f) (el_ M (rf_ M (rf_ M F 0) 1) f) K (fun yv74 M72 => Nk_ M44 M72 → lp_X10_digestOfFrames_5 F K (fun yv80 M78 => Nk_ M M78 → (K M78 yv80)) n yv74 ((nI f) + (1 : Int32)) M72) n71 r45 (0 : Int32) M44)))) f (nI f) (mx_ (fl_ (gB_ M (rf_ M F 0) m nc kk) f d) (it_ M (bk_ M (rf_ M F 0) m f) 2).toInt64) hfm (fun _ => sp_mixed (fun _ => ⟨nc + 1, ?_⟩)) (kk f + 1) 0 (by omega) (by omega)
      · rw [e] at k1
        exact k1
      · refine key2 _ f (nI f) _ hfm (fun _ => ?_) (nc + 1) 0 (by omega) (by omega)
        have eg : fl_ (gB_ M (rf_ M F 0) m nc kk) (f + 1) d = gB_ M (rf_ M F 0) m nc kk (fl_ (gB_ M (rf_ M F 0) m nc kk) f d) f := rfl
        rw [eg] at next
        unfold gB_ at next ⊢
        rw [e] at next ⊢
        exact next
  exact ⟨hF, m + 1, key3 (m + 1) 0 (by omega) (by omega)⟩
theorem sp_digest (hF : kd_ M F = 12) (h : TI_ ow M (rf_ M F 0) nc m R sz kk (fun j => j < m)) {n : Nat} (hr : RI_ M (rf_ M F 3) R n) (hK : K M (dg_ M F nc m R n kk)) : wp_X10_digest F M K := ⟨hF, sp_digestOfCounts hF h hr (fun _ => sp_digestOfRows hF h (fun _ => sp_digestOfFrames hF h (fun _ => hK)))⟩
end DG
