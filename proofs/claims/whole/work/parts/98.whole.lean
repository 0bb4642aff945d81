/-- what is left to show, of numbers alone: the law's mirror comes to its end on every script -/
theorem pure_main {L : Nat} (hL : L ≤ 2048) (xs : Nat → Int32) : ∃ μ', L_law_L xs L 600 0 μ0 = some μ' := pure_all hL xs
theorem whole_start {p : Program} {e : Env} {s : State} {m : MethodId} {below : List Frame} {meth : Method} {c : Code} (l : Launch) (hflags : l.flags = flags0) {b L : Nat} {xs : Nat → Int32} (hL : L ≤ 2048) (C0 : lw_At p s m meth c b L xs) : W p l e room_1 s m #[Value.ref b] below meth c s.heap [] 0 0 (lw_Z below #[Value.ref b] s) (entryFrame m ([Value.ref b] : List Value).toArray 9) :=
  law_start l hflags C0 (pure_main hL xs)
