/-! THE LAW OUT OF THE SMALL MACHINE -/
def zxv (L : Nat) (xs : Nat → Int32) : List Value := (List.range L).map (fun j => .int (xs j))
theorem zxv_len {L : Nat} {xs : Nat → Int32} : (zxv L xs).length = L := by unfold zxv; rw [List.length_map, List.length_range]
theorem zxv_at {L : Nat} {xs : Nat → Int32} {j : Nat} (h : j < L) : (zxv L xs)[j]? = some (.int (xs j)) := by
  unfold zxv
  rw [List.getElem?_map, List.getElem?_range h]; rfl
set_option maxRecDepth 100000 in
theorem zin_k : ∀ k, k < 13 → Cond.instantiable (zCn k) (zNn k) ∈ lw_tbl := by decide +kernel
def zFl : List Cond := flatC (Jvm.Cond.and given_1 narrow_1)
set_option maxRecDepth 100000 in
theorem zsp_k : ∀ j, j < z_sp.length → Cond.arrayOf (.static (zSn j).1 (zSn j).2.1 (zSn j).2.2) .int ∈ zFl ∧ Cond.eq (.length (.static (zSn j).1 (zSn j).2.1 (zSn j).2.2)) (.int (Int32.ofNat (z_sp.getD j (0, [])).2.length)) ∈ zFl ∧ (z_sp.getD j (0, [])).1 = 0 ∧ Cond.laysStatic (zSn j).1 (zSn j).2.1 (zSn j).2.2 ∈ lw_tbl ∧ Cond.initialized (zSn j).1 ∈ lw_tbl := by decide +kernel
set_option maxRecDepth 100000 in
theorem zse_k : ∀ j, j < z_sp.length → ∀ i, i < (z_sp.getD j (0, [])).2.length → ∃ z : Int32, (z_sp.getD j (0, [])).2.getD i .null = .int z ∧ Cond.eq (.elem (.static (zSn j).1 (zSn j).2.1 (zSn j).2.2) (.int (Int32.ofNat i))) (.int z) ∈ zFl := by
  have h : ∀ j, j < z_sp.length → ∀ i, i < (z_sp.getD j (0, [])).2.length → (z_sp.getD j (0, [])).2.getD i .null = .int (zvI ((z_sp.getD j (0, [])).2.getD i .null)) ∧ Cond.eq (.elem (.static (zSn j).1 (zSn j).2.1 (zSn j).2.2) (.int (Int32.ofNat i))) (.int (zvI ((z_sp.getD j (0, [])).2.getD i .null))) ∈ zFl := by decide +kernel
  exact fun j hj i hi => ⟨_, h j hj i hi⟩
set_option maxRecDepth 100000 in
theorem znc_k : ∀ a, a < z_exc.length → ∀ b, b < z_exc.length → a ≠ b → Cond.not (.castable (zEn a) (zEn b)) ∈ zFl := by decide +kernel
set_option maxRecDepth 100000 in
theorem zth_k : Cond.isRef (.static Bundle.tN "UNASSIGNED_STACK" Bundle.steD) ∈ zFl ∧ Cond.isRef (.static Bundle.tN "SUPPRESSED_SENTINEL" Bundle.listD) ∈ zFl ∧ Cond.laysStatic Bundle.tN "UNASSIGNED_STACK" Bundle.steD ∈ lw_tbl ∧ Cond.laysStatic Bundle.tN "SUPPRESSED_SENTINEL" Bundle.listD ∈ lw_tbl ∧ Cond.initialized Bundle.tN ∈ lw_tbl := by decide +kernel
set_option maxRecDepth 100000 in
theorem zao_k : ∀ t, t < z_aty.length → ¬ t < 5 → Cond.arrayOver (.object (zCn (z_acl.getD t 0))) ∈ lw_tbl := by decide +kernel
theorem zatyp {s : State} {args : Array Value} (hts : ∀ w ∈ lw_tbl, w.before args s = true) {t : Nat} {ty : FieldType} (h : z_aty[t]? = some ty) : ∃ cA : ClassId, ArrOfT s cA ty ∧ va_RA s cA ty := by
  have hl : t < z_aty.length := (List.getElem?_eq_some_iff.mp h).1
  by_cases h5 : t < 5
  · have hm : ty ∈ ([.int, .long, .byte, .short, .boolean] : List FieldType) := by
      have h9 : z_aty.take 5 = [.int, .long, .byte, .short, .boolean] := rfl
      rw [← h9]
      exact List.mem_of_getElem? (i := t) (by rw [List.getElem?_take_of_lt h5]; exact h)
    obtain ⟨cA, kA, comp, h1, h2, h3⟩ := Cond.arrayClass_spec (hts _ (zna_w0 ty hm))
    refine ⟨cA, fun n z => ⟨fun k h => (by cases h), kA, h2, comp, h3⟩, ?_⟩
    simp only [List.mem_cons, List.not_mem_nil, or_false] at hm
    rcases hm with rfl | rfl | rfl | rfl | rfl <;> exact h1
  · have h1 := z_ato t hl h5
    rw [h] at h1
    cases h1
    obtain ⟨comp, cA, kA, f1, f2, f3, f4, f5⟩ := Cond.arrayOver_spec (hts _ (zao_k t hl h5))
    exact ⟨cA, fun n z => ⟨fun k h => (by cases h), kA, f3, comp, f4⟩, kA, comp, f3, f4, f1, f5⟩
set_option maxHeartbeats 4000000 in
theorem zstart {p : Program} {e : Env} {s : State} {m : MethodId} {below : List Frame} {meth : Method} {c : Code} (l : Launch) (hst : l.stackTraces = false) {b L : Nat} {xs : Nat → Int32} (C0 : lw_At p s m meth c b L xs)
    (htab : c.exceptionTable.toList = []) {n : Nat} {h' : zH} (hrun : zrun (zxv L xs) n 300 (0, 0, [(0, .ref 0)], []) ([], 0, 0) = some (.inl (some (.int 1)), h')) (hc : h'.2.1 ≤ 601024) (hs : h'.2.2 ≤ 7293034) :
    W p l e room_1 s m #[Value.ref b] below meth c s.heap [] 0 0 (lw_Z below #[Value.ref b] s) (entryFrame m ([Value.ref b] : List Value).toArray 7) := by
  obtain ⟨hx, hb, hr, hml, hown, hts, hX, hbl, hlocks, hgv⟩ := id C0
  have hfl := flat_of_before _ hgv
  have hts2 : ∀ w ∈ zTl, w.before #[Value.ref b] s = true := fun w hw => hts w (List.mem_filter.mp hw).1
  -- the classes
  have hD : ∀ k, ∃ q : ClassId × (Nat → Nat), k < 13 → u_Kn s (zCn k) (zTt k) (zNn k) q.1 q.2 := by
    intro k
    by_cases hk : k < 13
    · obtain ⟨cC, iS, h1⟩ := u_known (C := zCn k) (T := zTt k) (N := zNn k) (n := zNn k) hts (z_uw k hk) (hts _ (zin_k k hk))
      exact ⟨(cC, iS), fun _ => h1⟩
    · exact ⟨((0 : Nat), fun _ => 0), fun q => absurd q hk⟩
  have hDs : ∃ D : va_G, ∀ (k : Nat) (q : vw_C), z_cls[k]? = some q → u_Kn s q.1 q.2.1 q.2.2 (D.1 k) (D.2 k) := by
    refine ⟨(fun k => (Classical.choose (hD k)).1, fun k => (Classical.choose (hD k)).2), fun k q hq => ?_⟩
    have hk : k < 13 := (List.getElem?_eq_some_iff.mp hq).1
    have h1 := Classical.choose_spec (hD k) hk
    rw [z_clq k hk] at hq
    cases hq
    exact h1
  obtain ⟨D, hDk⟩ := hDs
  -- the array classes
  have hT : ∀ t : Nat, ∃ cA : ClassId, ∀ ty, z_aty[t]? = some ty → ArrOfT s cA ty ∧ va_RA s cA ty := by
    intro t
    cases ht : z_aty[t]? with
    | none => exact ⟨(0 : Nat), fun ty h => by cases h⟩
    | some ty =>
      obtain ⟨cA, h1⟩ := zatyp hts ht
      exact ⟨cA, fun ty9 h9 => by cases h9; exact h1⟩
  obtain ⟨F, hF⟩ : ∃ F : Nat → ClassId, ∀ (t : Nat) (ty : FieldType), z_aty[t]? = some ty → ArrOfT s (F t) ty ∧ va_RA s (F t) ty := ⟨fun t => Classical.choose (hT t), fun t => Classical.choose_spec (hT t)⟩
  have hTs : ∃ tys : List (ClassId × FieldType), tys.map (fun q => q.2) = z_aty ∧ ∀ (k : Nat) (q : ClassId × FieldType), tys[k]? = some q → ArrOfT s q.1 q.2 ∧ va_RA s q.1 q.2 := by
    refine ⟨z_aty.mapIdx (fun t ty => (F t, ty)), ?_, fun k q hq => ?_⟩
    · apply List.ext_getElem?
      intro i
      rw [List.getElem?_map, List.getElem?_mapIdx, Option.map_map]
      cases z_aty[i]? <;> rfl
    · rw [List.getElem?_mapIdx] at hq
      cases hk : z_aty[k]? with
      | none => rw [hk] at hq; cases hq
      | some ty =>
        rw [hk] at hq
        cases hq
        exact hF k ty hk
  obtain ⟨tys, hty, htk⟩ := hTs
  have hK : va_K D z_cls tys s := ⟨hDk, htk⟩
  have hA0 : ∀ a : Nat, a < s.heap.size → ¬ s.heap.size ≤ a := fun a h1 h2 => by omega
  -- the constant arrays
  have hsp : ∀ j : Nat, ∃ t : Nat, ∀ vs9, z_sp[j]? = some vs9 → va_T .int t vs9.2.length (fun i => vs9.2.getD i .null) (fun q => s.heap.size ≤ q) s s.heap ∧ va_Z (zSn j).1 (zSn j).2.1 (zSn j).2.2 (.ref t) (fun q => s.heap.size ≤ q) s s.heap := by
    intro j
    cases hj : z_sp[j]? with
    | none => exact ⟨0, fun vs h => by cases h⟩
    | some q =>
      have hjl : j < z_sp.length := (List.getElem?_eq_some_iff.mp hj).1
      have hgd : z_sp.getD j (0, []) = q := by rw [List.getD_eq_getElem?_getD, hj]; rfl
      obtain ⟨k1, k2, k3, k4, k5⟩ := zsp_k j hjl
      have k6 := zse_k j hjl
      rw [hgd] at k2 k6
      have hN : q.2.length < 2 ^ 31 := by
        have h9 : z_sp.all (fun q => decide (q.2.length < 100)) = true := by decide +kernel
        have h8 := of_decide_eq_true (List.all_eq_true.mp h9 q (List.mem_of_getElem? hj))
        omega
      obtain ⟨t, ht, hTt⟩ := va_Tof (f := fun i => q.2.getD i .null) hN (hfl _ k1) (va_eqt (hfl _ k2)) (fun i hi => by obtain ⟨z, z1, z2⟩ := k6 i hi; rw [z1]; exact va_eqt (hfl _ z2)) hA0
      exact ⟨t, fun vs h => by cases h; exact ⟨hTt, va_Zref (hts _ k4) (hts _ k5) ht hA0⟩⟩
  let ad : Nat → Nat := fun k => if k = 0 then b else Classical.choose (hsp (k - 1))
  have hold : zold s.heap.size ad (zxv L xs) s s.heap := by
    refine ⟨⟨xs, by rw [zxv_len]; exact hX, fun j hj => zxv_at (by rw [zxv_len] at hj; exact hj)⟩, hbl, fun j t vs hj => ?_, ?_, ?_, fun a b9 ha hb9 hab => va_Nc.of (hfl _ (znc_k a ha b9 hb9 hab))⟩
    · have h1 := Classical.choose_spec (hsp j) (t, vs) hj
      have hjl : j < z_sp.length := (List.getElem?_eq_some_iff.mp hj).1
      have hgd : z_sp.getD j (0, []) = (t, vs) := by rw [List.getD_eq_getElem?_getD, hj]; rfl
      have k3 := (zsp_k j hjl).2.2.1
      rw [hgd] at k3
      exact ⟨k3, h1⟩
    · exact vx_Zqof (hts _ zth_k.2.2.1) (hts _ zth_k.2.2.2.2) (hfl _ zth_k.1) hA0
    · exact vx_Zqof (hts _ zth_k.2.2.2.1) (hts _ zth_k.2.2.2.2) (hfl _ zth_k.2.1) hA0
  have hP : va_P D z_cls (zws ad tys []) s.heap := fun k q h => by simp [zws] at h
  have hDd : va_D (fun q => s.heap.size ≤ q) (zws ad tys []) := ⟨fun i j p q h => by simp [zws] at h, fun k q h => by simp [zws] at h⟩
  have hl := lv_entry ([.ref b]) (n := 7) (Nat.le_of_ble_eq_true rfl)
  rw [lg_entry_eq]
  generalize (lg_sl ([.ref b]) ++ List.replicate (7 - (lg_sl ([.ref b])).length) Slot.unset).toArray = ls at hl ⊢
  obtain ⟨mt, hm⟩ : ∃ mt, z_meth[0]? = some mt := ⟨_, rfl⟩
  have hmt : mt = (⟨"PactLedgerLaw", "law", "([I)Z"⟩, code, 7, some .boolean, z_code_0) := (Option.some.inj hm).symm
  subst hmt
  have h0 : ad 0 = b := rfl
  refine zmain hst n s.heap.size D tys (zxv L xs) 300 0 _ 0 [(0, .ref 0)] [] ([], 0, 0) _ h' p e room_1 s m _ below meth c s.heap [] 0 0 _ ls ad zK0 ad 0 0 hrun hm ⟨hx, hb, hml, hown, hts2, (fun q => absurd q (by decide)), hr, hlocks, htab⟩ hty ⟨⟨hP, hDd, hK, fun e he => absurd he List.not_mem_nil, Nat.le_refl _⟩, hold, Nat.le_refl _, va_S.rf, hl, ?_, fun v hv => absurd hv List.not_mem_nil⟩ zAg.refl (Nat.le_add_left _ _) rfl rfl (by decide) (by decide) (Nat.le_trans hc (Nat.le_add_right _ _)) (Nat.le_trans hs (Nat.le_add_right _ _)) ?_ ?_ ?_
  · intro q hq
    rw [List.mem_singleton.mp hq]
    exact Nat.lt_of_lt_of_le zK0_pos (Nat.le_add_left _ _)
  · intro pc' i len ad' H' locs' ls' st' v cells' slots' hd hlen hz ho' hag hW' hS hw' hc9 hs9
    cases ho'
    have hst1 : st' = [.int 1] ∧ i = .ireturn := by
      unfold zret at hz
      split at hz
      all_goals first | (cases hz; done) | skip
      all_goals first | (split at hz <;> cases hz <;> exact ⟨rfl, rfl⟩) | (cases hz; exact ⟨rfl, rfl⟩)
    obtain ⟨rfl, rfl⟩ := hst1
    have hlen : len = 1 := by rcases hlen with q | q <;> cases q <;> rfl
    subst hlen
    refine va_forget (fun q hq => hS.2.2 q hq) ?_
    refine W.widen (k := 601024) (n := 7293034) (by omega) (by omega) ?_
    exact lw_ret hx hb hr hlocks hd
  · intro pc' x ic ev h1 ad' H' locs' ls' st' cells' slots' _ _ _ _ _ ho'
    cases ho'
  · intro pc' ev ad' H' locs' ls' rest q ce cells' slots' ho'
    cases ho'
