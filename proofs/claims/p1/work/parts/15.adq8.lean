/-! ADEQUACY, eighth part: what is to be shown, and a callee's contract out of it -/
abbrev zM : Type := MethodName × ByteArray × Nat × Option FieldType × List (Nat × Instr × Nat)
/-- the method mi stands here -/
def zCx (mi : Nat) (mt : zM) (p : Program) (s : State) (m : MethodId) (args : Array Value) (meth : Method) (c : Code) : Prop :=
  p.tables.exec = Jvm.exec ∧ c.code = mt.2.1 ∧ c.maxLocals = mt.2.2.1 ∧ s.vm.findClass (zOwn mi) = some m.cls ∧ (∀ w ∈ zTl, w.before args s = true) ∧ (z_ini.getD mi false = true → meth.name = "<init>") ∧ meth.sig.returnType = mt.2.2.2.1 ∧ meth.locks = false ∧ c.exceptionTable.toList = tableOf (z_hh.getD mi [])
def zPt (B : Nat) (D : va_G) (tys : List (ClassId × FieldType)) (xs : List Value) (s : State) (nL : Nat) (ad : Nat → Nat) (h : zH) (lv : List (Nat × Value)) (st : List Value) (H : Heap) (locs : List Loc) (ls : Array Slot) : Prop :=
  zW B D tys ad h s H ∧ zold B ad xs s s.heap ∧ B ≤ s.heap.size ∧ va_S (fun q => B ≤ q) s.heap H locs ∧ lv_has ls nL (zcl ad lv) ∧ zwL (h.1.length + zK0) lv ∧ zwS (h.1.length + zK0) st
/-- what fuel n is worth -/
def zMain (l : Launch) (n : Nat) : Prop :=
  ∀ (B : Nat) (D : va_G) (tys : List (ClassId × FieldType)) (xs : List Value) (d mi : Nat) (mt : zM) (pc : Nat) (lv : List (Nat × Value)) (st : List Value) (h : zH) (o : zO) (h' : zH) (p : Program) (e : Env) (R : Room) (s : State) (m : MethodId) (args : Array Value) (below : List Frame) (meth : Method) (c : Code) (H : Heap) (locs : List Loc) (cells slots : Nat) (Q : State → Prop) (ls : Array Slot) (ad : Nat → Nat) (n0 : Nat) (ad0 : Nat → Nat) (c0 s0 : Nat),
    zrun xs n d (mi, pc, lv, st) h = some (o, h') → z_meth[mi]? = some mt → zCx mi mt p s m args meth c → tys.map (fun q => q.2) = z_aty → zPt B D tys xs s mt.2.2.1 ad h lv st H locs ls →
    zAg n0 ad0 ad → n0 ≤ h.1.length + zK0 → cells + c0 = h.2.1 → slots + s0 = h.2.2 → d + 1 ≤ R.frames → 100 * (d + 1) ≤ R.locals → h'.2.1 ≤ R.cells + c0 → h'.2.2 ≤ R.slots + s0 →
    (∀ (pc' : Nat) (i : Instr) (len : Nat) (ad' : Nat → Nat) (H' : Heap) (locs' : List Loc) (ls' : Array Slot) (st' : List Value) (v : Option Value) (cells' slots' : Nat), decode mt.2.1 pc' = .ok (i, len) → (zlen i = len ∨ zlen i = 0) → zret mt.2.2.2.1 i st' = some v → o = .inl v → zAg n0 ad0 ad' → zW B D tys ad' h' s H' → va_S (fun q => B ≤ q) s.heap H' locs' → zwS (h'.1.length + zK0) st' → cells' + c0 = h'.2.1 → slots' + s0 = h'.2.2 →
      W p l e R s m args below meth c H' locs' cells' slots' Q (F0 m pc' ls' (st'.map (zcv ad')))) →
    (∀ (pc' x ic ev : Nat) (h1 : zH) (ad' : Nat → Nat) (H' : Heap) (locs' : List Loc) (ls' : Array Slot) (st' : List Value) (cells' slots' : Nat), decode mt.2.1 pc' = .ok (.new x, 3) → decode mt.2.1 (pc' + 3) = .ok (.dup, 1) → decode mt.2.1 (pc' + 4) = .ok (.invokespecial ic, 3) → decode mt.2.1 (pc' + 7) = .ok (.athrow, 1) → zlink mi x = some (4, ev, ic) → o = .inr ev → h' = (h1.1, h1.2.1 + 1, h1.2.2 + 6) → 8 ≤ d → z_hh.getD mi [] = [] → (st'.map fun v => v.category).sum ≤ 8 → zAg n0 ad0 ad' → zW B D tys ad' h1 s H' → va_S (fun q => B ≤ q) s.heap H' locs' → ls'.size = mt.2.2.1 → cells' + c0 = h1.2.1 → slots' + s0 = h1.2.2 →
      W p l e R s m args below meth c H' locs' cells' slots' Q (F0 m pc' ls' (st'.map (zcv ad')))) →
    (∀ (pc' ev : Nat) (ad' : Nat → Nat) (H' : Heap) (locs' : List Loc) (ls' : Array Slot) (rest : List Value) (q : Addr) (ce : Cell) (cells' slots' : Nat), o = .inr ev → zesc mi pc' ev = true → ev < z_exc.length → zAg n0 ad0 ad' → zW B D tys ad' h' s H' → va_S (fun q => B ≤ q) s.heap H' locs' → H'[q]? = some ce → ce.vm = .none → s.vm.findClass (zEn ev) = some ce.cls → cells' + c0 = h'.2.1 → slots' + s0 = h'.2.2 →
      vx_W p l e R s m args below meth c H' locs' cells' slots' Q (F0 m pc' ls' rest) q) →
    W p l e R s m args below meth c H locs cells slots Q (F0 m pc ls (st.map (zcv ad)))
/-- a callee's start and end -/
def zPc (B : Nat) (D : va_G) (tys : List (ClassId × FieldType)) (ad : Nat → Nat) (xs : List Value) (h : zH) (as : List Value) : Array Value → State → Prop :=
  va_Pc (as.map (zcv ad)) (fun U => zW B D tys ad h U U.heap ∧ zold B ad xs U U.heap ∧ zwS (h.1.length + zK0) as)
def zQc (B : Nat) (D : va_G) (tys : List (ClassId × FieldType)) (ad : Nat → Nat) (h : zH) (o : zO) (h' : zH) : Array Value → State → Outcome → State → Prop := fun _ st oc t =>
  ∃ (v : Option Value) (ad' : Nat → Nat), o = .inl v ∧ oc = .returned (v.map (zcv ad')) ∧ zAg (h.1.length + zK0) ad ad' ∧ zW B D tys ad' h' t t.heap ∧ (∀ x, v = some x → zwv (h'.1.length + zK0) x) ∧ va_F (fun q => B ≤ q) st t
def zXC (B : Nat) (D : va_G) (tys : List (ClassId × FieldType)) (ad : Nat → Nat) (h : zH) (o : zO) (h' : zH) : String → State → State → Prop := fun E st t =>
  ∃ (ev : Nat) (ad' : Nat → Nat), o = .inr ev ∧ ev < z_exc.length ∧ E = zEn ev ∧ zAg (h.1.length + zK0) ad ad' ∧ zW B D tys ad' h' t t.heap ∧ va_F (fun q => B ≤ q) st t
theorem zPc_blind {B : Nat} {D : va_G} {tys : List (ClassId × FieldType)} {ad : Nat → Nat} {xs : List Value} {h : zH} {as : List Value} : FrameBlind (zPc B D tys ad xs h as) := by
  intro a U g mk q
  obtain ⟨q0, q1, q2, q3⟩ := q
  exact ⟨q0, zW_moved (u := U) (U := U.calling g mk a) (Vm.Alike.refl U.vm) q1, zold_moved (u := U) (U := U.calling g mk a) (Vm.Alike.refl U.vm) q2, q3⟩
theorem zargs_cl (ad : Nat → Nat) : ∀ (as : List Value) (k : Nat), lv_args k (as.map (zcv ad)) = zcl ad (lv_args k as)
  | [], _ => rfl
  | v :: as, k => by
    show (k, zcv ad v) :: lv_args (if (zcv ad v).category = 2 then k + 2 else k + 1) (as.map (zcv ad)) = (k, zcv ad v) :: zcl ad (lv_args (if v.category = 2 then k + 2 else k + 1) as)
    rw [zcv_cat, zargs_cl]
theorem zargs_wf {n : Nat} : ∀ (as : List Value) (k : Nat), zwS n as → zwL n (lv_args k as)
  | [], _, _ => fun q hq => absurd hq List.not_mem_nil
  | v :: as, k, h => by
    intro q hq
    rcases List.mem_cons.mp hq with rfl | hq
    · exact h _ List.mem_cons_self
    · exact zargs_wf as _ (zwS_tail h) q hq
theorem zsl_len (ad : Nat → Nat) : ∀ as : List Value, (lg_sl (as.map (zcv ad))).length = (lg_sl as).length
  | [] => rfl
  | v :: as => by
    show ((if (zcv ad v).category = 2 then [Slot.val (zcv ad v), .second] else [.val (zcv ad v)]) ++ lg_sl (as.map (zcv ad))).length = ((if v.category = 2 then [Slot.val v, .second] else [.val v]) ++ lg_sl as).length
    rw [zcv_cat, List.length_append, List.length_append, zsl_len]
    split <;> rfl
/-- the tables agree on each method's class, name, and that it is a plain one -/
def zmok (j : Nat) : Bool := match z_meth[j]? with
  | some mt => decide (mt.1.cls = zOwn j) && (!(z_ini.getD j false) || decide (mt.1.name = "<init>")) && (Jvm.plainName mt.1.cls || decide (j = zMx)) && decide (mt.1.cls ≠ "java/lang/invoke/MethodHandle") && decide (mt.1.cls ≠ "java/lang/invoke/VarHandle") && decide (mt.2.2.1 ≤ 60)
  | none => true
set_option maxRecDepth 100000 in
theorem zmok_all : (List.range 232).all zmok = true := by decide +kernel
theorem zmeth_lt {j : Nat} {mt : zM} (h : z_meth[j]? = some mt) : j < 232 := (List.getElem?_eq_some_iff.mp h).1
theorem zmok_of {j : Nat} {mt : zM} (h : z_meth[j]? = some mt) (hj : j ≠ zMx) : mt.1.cls = zOwn j ∧ (z_ini.getD j false = true → mt.1.name = "<init>") ∧ Jvm.plainName mt.1.cls = true ∧ (mt.1.cls ≠ "java/lang/invoke/MethodHandle" ∧ mt.1.cls ≠ "java/lang/invoke/VarHandle") ∧ mt.2.2.1 ≤ 60 := by
  have h1 := List.all_eq_true.mp zmok_all j (List.mem_range.mpr (zmeth_lt h))
  unfold zmok at h1
  rw [h] at h1
  simp only [Bool.and_eq_true, decide_eq_true_eq, Bool.or_eq_true, Bool.not_eq_true'] at h1
  obtain ⟨⟨⟨⟨⟨a1, a2⟩, a3⟩, a4⟩, a5⟩, a6⟩ := h1
  exact ⟨a1, fun q => a2.elim (fun z => by rw [z] at q; cases q) id, a3.elim id (fun z => absurd z hj), ⟨a4, a5⟩, a6⟩
theorem zdec {mi pc len : Nat} {mt : zM} {i : Instr} (hm : z_meth[mi]? = some mt) (h : zfetch mi pc = some (i, len)) : decode mt.2.1 pc = .ok (i, len) ∧ (zlen i = len ∨ zlen i = 0) ∧ zoff pc i = true := by
  unfold zfetch at h
  rw [hm] at h
  dsimp only at h
  have h1 := List.all_eq_true.mp z_dec_all mt (List.mem_of_getElem? hm)
  cases hf : mt.2.2.2.2.find? (fun q => q.1 == pc) with
  | none => rw [hf] at h; cases h
  | some q =>
    rw [hf] at h
    have h2 := List.mem_of_find?_eq_some hf
    have h3 := List.find?_some hf
    simp only [beq_iff_eq] at h3
    have h4 := List.all_eq_true.mp h1 q h2
    obtain ⟨a, b⟩ := q
    have h5 : b = (i, len) := Option.some.inj h
    subst h5
    subst h3
    simp only [Bool.and_eq_true, decide_eq_true_eq, Bool.or_eq_true, beq_iff_eq] at h4
    exact ⟨h4.1.1, h4.1.2, h4.2⟩
