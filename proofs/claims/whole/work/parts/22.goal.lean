/-! WHAT IS LEFT: a statement on the small machine alone -/
theorem zgoal {L : Nat} (xs : Nat → Int32) (hL : L ≤ 2048) : ∃ (n : Nat) (h' : zH), zrun (zxv L xs) n 300 (0, 0, [(0, .ref 0)], []) ([], 0, 0) = some (.inl (some (.int 1)), h') ∧ h'.2.1 ≤ 601024 ∧ h'.2.2 ≤ 7293034 := sorry
theorem whole_start {p : Program} {e : Env} {s : State} {m : MethodId} {below : List Frame} {meth : Method} {c : Code} (l : Launch) (hst : l.stackTraces = false) (htab : c.exceptionTable.toList = []) {b L : Nat} {xs : Nat → Int32} (hL : L ≤ 2048) (C0 : lw_At p s m meth c b L xs) : W p l e room_1 s m #[Value.ref b] below meth c s.heap [] 0 0 (lw_Z below #[Value.ref b] s) (entryFrame m ([Value.ref b] : List Value).toArray 7) := by
  obtain ⟨n, h', h1, h2, h3⟩ := zgoal xs hL
  exact zstart l hst C0 htab h1 h2 h3
