/-! WHAT WAS LEFT: a statement on the small machine alone -/
theorem zgoal {L : Nat} (xs : Nat → Int32) (hL : L ≤ 4) : ∃ (n : Nat) (h' : zH), zrun (zxv L xs) n 300 (0, 0, [(0, .ref 0)], []) ([], 0, 0) = some (.inl (some (.int 1)), h') ∧ h'.2.1 ≤ 600002 ∧ h'.2.2 ≤ 7302232 := by
  have hlen : (zxv L xs).length = L := by unfold zxv; rw [List.length_map, List.length_range]
  have main : zG (zxv L xs) 300 (0, 0, lv_args 0 [zo (some 0)], []) ([], 0, 0) (fun o h' => o = .inl (some (.int 1)) ∧ h'.2.1 ≤ 600002 ∧ h'.2.2 ≤ 7302232) := by
    refine zm_0 (fun n l0 l1 l2 l3 l4 h => l0 = some 0 ∧ ((n = 1 ∧ l1 = some 3 ∧ l2 = some 10 ∧ l3 = some 53 ∧ l4 = 0 ∧ h = zh0) ∨ (n = 0 ∧ l4 = 4 ∧ h.2.1 ≤ 1000 ∧ h.2.2 ≤ 30000))) ?_ (zcon (d := 298) ⟨1, rfl, Or.inl ⟨rfl, rfl, rfl, rfl, rfl, rfl⟩⟩)
    rintro n l0 l1 l2 l3 l4 h ⟨rfl, (⟨rfl, rfl, rfl, rfl, rfl, rfl⟩ | ⟨rfl, rfl, h1, h2⟩)⟩
    · by_cases h4 : L = 4
      · subst h4
        refine zP1_step (a := xs 0) (b := xs 1) (c := xs 2) (e := xs 3) rfl (by decide) ?_
        intro h h1 h2
        exact ⟨0, by decide, rfl, Or.inr ⟨rfl, rfl, h1, h2⟩⟩
      · refine ⟨0, 0, zxv L xs, rfl, rfl, by decide, ?_⟩
        rw [hlen]
        refine ⟨fun _ => ⟨Or.inr rfl, rfl, by decide, by decide⟩, fun z => absurd ?_ z⟩
        have h5 : L = 0 ∨ L = 1 ∨ L = 2 ∨ L = 3 := by omega
        rcases h5 with rfl | rfl | rfl | rfl <;> decide
    · refine ⟨0, 0, zxv L xs, rfl, rfl, by decide, ?_⟩
      rw [hlen]
      refine ⟨fun _ => ⟨Or.inr rfl, rfl, by omega, by omega⟩, fun z => absurd ?_ z⟩
      have h5 : L = 0 ∨ L = 1 ∨ L = 2 ∨ L = 3 ∨ L = 4 := by omega
      rcases h5 with rfl | rfl | rfl | rfl | rfl <;> decide
  obtain ⟨n, o, h', hr, rfl, h1, h2⟩ := main
  exact ⟨n, h', hr, h1, h2⟩
theorem whole_start {p : Program} {e : Env} {s : State} {m : MethodId} {below : List Frame} {meth : Method} {c : Code} (l : Launch) (hst : l.stackTraces = false) (htab : c.exceptionTable.toList = []) {b L : Nat} {xs : Nat → Int32} (hL : L ≤ 4) (C0 : lw_At p s m meth c b L xs) : W p l e room_1 s m #[Value.ref b] below meth c s.heap [] 0 0 (lw_Z below #[Value.ref b] s) (entryFrame m ([Value.ref b] : List Value).toArray 7) := by
  obtain ⟨n, h', h1, h2, h3⟩ := zgoal xs hL
  exact zstart l hst C0 htab h1 h2 h3
