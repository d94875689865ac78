/-! a row of objects takes a block or a column -/
section ROWS
variable {p : Program} {l : Launch} {e : Env} {R : Room} {s : State} {m : MethodId} {args : Array Value} {below : List Frame} {meth : Method} {c : Code} {cc : ByteArray} {nL : Nat} {own : String} {D : Dd_} {M0 : Mm} {Q : State → Prop}
variable {pc : Nat} {L L' : List (Nat × Value)} {S : List Value} {M : Mm} {n k : Nat}

theorem r_aastA (g : G_ p s m args meth c cc nL own D M0) {a v : Nat} {i : Int32} (hkv : kd_ M v = 2 ∨ kd_ M v = 3) (hk : kd_ M a = 26) (hin : vp_in i (ln_ M a)) (hd : decode cc pc = .ok (.aastore, 1))
    (kk : V_ p l e R s m args below meth c nL D M0 Q (pc + 1) L S (sR_ M a (ix_ i) v) n k) : V_ p l e R s m args below meth c nL D M0 Q pc L (rv_ M v :: .int i :: .ref a :: S) M n k := by
  rcases hkv with hkv | hkv
  · exact r_rv (k_ne hkv (by decide)) (r_aastO (ci := 1) (C := RX0) (T := TX0) (N := 4) g rfl tx_1120 hk hkv hin hd kk)
  · exact r_rv (k_ne hkv (by decide)) (r_aastO (ci := 2) (C := RX1) (T := TX1) (N := 5) g rfl tx_1125 hk hkv hin hd kk)
end ROWS
