/-! ADEQUACY, fifth part: arrays, what is made, and all steps on the heap together -/
theorem zgd_set {vs : List Value} {i j : Nat} {v : Value} (hi : i < vs.length) : (vs.set i v).getD j .null = if j = i then v else vs.getD j .null := by
  rw [List.getD_eq_getElem?_getD, List.getD_eq_getElem?_getD]
  by_cases hj : j = i
  · subst hj
    rw [List.getElem?_set_self hi, if_pos rfl]; rfl
  · rw [List.getElem?_set_ne (fun q => hj q.symm), if_neg hj]
theorem zgd_of {vs : List Value} {i : Nat} {v : Value} (h : vs[i]? = some v) : vs.getD i .null = v := by
  rw [List.getD_eq_getElem?_getD, h]; rfl
theorem zupI {vs : List Value} {i : Nat} {x : Int32} (hi : i < vs.length) : upd (fun j => zvI (vs.getD j .null)) i x = fun j => zvI ((vs.set i (.int x)).getD j .null) := by
  funext j
  rw [zgd_set hi]
  unfold upd
  split <;> rfl
theorem zupL {vs : List Value} {i : Nat} {x : Int64} (hi : i < vs.length) : vp_updL (fun j => zvL (vs.getD j .null)) i x = fun j => zvL ((vs.set i (.long x)).getD j .null) := by
  funext j
  rw [zgd_set hi]
  unfold vp_updL
  split <;> rfl
theorem zupR {ad : Nat → Nat} {vs : List Value} {i : Nat} {v : Value} {r : Option Nat} (hi : i < vs.length) (hr : zvR ad v = r) : va_up (fun j => zvR ad (vs.getD j .null)) i r = fun j => zvR ad ((vs.set i v).getD j .null) := by
  funext j
  rw [zgd_set hi]
  unfold va_up
  split
  · exact hr.symm
  · rfl
theorem zcA_I {ad : Nat → Nat} {t : Nat} (ht : t < 5) (h1 : t ≠ 1) (vs : List Value) : zcA ad t vs = (vs.length, .inl (fun j => zvI (vs.getD j .null))) := by
  unfold zcA
  rw [if_neg h1, if_pos ht]
theorem zcA_L {ad : Nat → Nat} (vs : List Value) : zcA ad 1 vs = (vs.length, .inr (.inl (fun j => zvL (vs.getD j .null)))) := rfl
theorem zcA_R {ad : Nat → Nat} {t : Nat} (ht : ¬ t < 5) (vs : List Value) : zcA ad t vs = (vs.length, .inr (.inr (.inr (.inr (fun j => zvR ad (vs.getD j .null)))))) := by
  unfold zcA
  rw [if_neg (by omega), if_neg ht]
theorem zvp_in {j : Int32} {n : Nat} (h0 : ¬ j < 0) (h : j.toNatClampNeg < n) : vp_in j n := fun q => q.elim h0 (fun z => by omega)
theorem zlt_of {vs : List Value} {i : Nat} {v : Value} (h : vs[i]? = some v) : i < vs.length := (List.getElem?_eq_some_iff.mp h).1
theorem zwv_in {n : Nat} {vs : List Value} {i : Nat} {v : Value} (hw : ∀ x ∈ vs, zwv n x) (h : vs[i]? = some v) : zwv n v := hw v (List.mem_of_getElem? h)
/-- what was there before, and stays: the script, the constant arrays, two statics of Throwable -/
def zold (B : Nat) (ad : Nat → Nat) (xs : List Value) (U : State) (H : Heap) : Prop :=
  (∃ xf : Nat → Int32, va_X (ad 0) xs.length xf U H ∧ ∀ j, j < xs.length → xs[j]? = some (.int (xf j))) ∧ ad 0 < B ∧
  (∀ (j t : Nat) (vs : List Value), z_sp[j]? = some (t, vs) → t = 0 ∧ va_T .int (ad (j + 1)) vs.length (fun i => vs.getD i .null) (fun q => B ≤ q) U H ∧ va_Z (zSn j).1 (zSn j).2.1 (zSn j).2.2 (.ref (ad (j + 1))) (fun q => B ≤ q) U H) ∧
  vx_Zq Bundle.tN "UNASSIGNED_STACK" Bundle.steD (fun q => B ≤ q) U H ∧ vx_Zq Bundle.tN "SUPPRESSED_SENTINEL" Bundle.listD (fun q => B ≤ q) U H ∧
  ∀ a b : Nat, a < z_exc.length → b < z_exc.length → a ≠ b → va_Nc (zEn a) (zEn b) U
section ZG
variable {p : Program} {l : Launch} {e : Env} {R : Room} {s : State} {m : MethodId} {args : Array Value} {below : List Frame} {meth : Method} {c : Code} {H : Heap} {locs : List Loc} {cells slots : Nat} {Q : State → Prop}
variable {cc : ByteArray} {pc : Nat} {ls : Array Slot} {rest : List Value} {ad : Nat → Nat} {B : Nat} {D : va_G} {tys : List (ClassId × FieldType)} {h : zH} {mi : Nat} {H0 : Heap}
theorem zw_size {k : Nat} {ws : va_W} {q : Nat × va_E} {x : va_E} {H1 : Heap} (h1 : ws[k]? = some q) (q1 : va_P D z_cls (ws.set k (q.1, x)) H1) (q2 : va_D (fun q => B ≤ q) (ws.set k (q.1, x))) : B ≤ H1.size := by
  have hlen : k < ws.length := (List.getElem?_eq_some_iff.mp h1).1
  have h9 := List.getElem?_set_self (a := (q.1, x)) hlen
  exact Nat.le_trans (q2.2 _ _ h9) (Nat.le_of_lt (q1 _ _ h9).lt)
/-- an array of ints, bytes, shorts, booleans: a place read -/
theorem za_ldI {t k : Nat} {vs : List Value} {ty : FieldType} {j v : Int32} (ht : t < 5) (h1 : t ≠ 1) (hty : tys.map (fun q => q.2) = z_aty) (hz : z_aty[t]? = some ty) (hW : zW B D tys ad h s H) (hk : zown h k = some (.inl (t, vs))) (hv : vs[j.toNatClampNeg]? = some (.int v)) :
    ∃ f : Nat → Int32, (zws ad tys h.1)[k - zK0]? = some (ad k, .inl (zty tys t, vs.length, .inl f)) ∧ tys[t]? = some (zty tys t, ty) ∧ f j.toNatClampNeg = v := by
  obtain ⟨h2, -, -⟩ := zown_at hk (ad := ad) (tys := tys)
  refine ⟨fun j => zvI (vs.getD j .null), ?_, ztys hty hz, ?_⟩
  · rw [h2]
    show some (ad k, Sum.inl (zty tys t, zcA ad t vs)) = _
    rw [zcA_I ht h1]
  · show zvI (vs.getD j.toNatClampNeg .null) = v
    rw [zgd_of hv]; rfl
theorem zty_new {t : Nat} {ty : FieldType} {cA : ClassId} (hz : tys[t]? = some (zty tys t, ty)) (h : va_K D z_cls (tys ++ [(cA, ty)]) s) : cA = zty tys t := by
  have hl : t < tys.length := (List.getElem?_eq_some_iff.mp hz).1
  have h1 := (h.2 t _ (by rw [List.getElem?_append_left hl]; exact hz)).2
  have h2 := (h.2 tys.length (cA, ty) (by simp)).2
  cases ty with
  | object C =>
    obtain ⟨-, -, -, -, -, a1⟩ := h1
    obtain ⟨-, -, -, -, -, a2⟩ := h2
    exact Option.some.inj (a2.symm.trans a1)
  | _ => exact Option.some.inj ((show s.vm.findClass _ = some cA from h2).symm.trans h1)
theorem zrep_wf {n N : Nat} {v : Value} (hv : zwv n v) : ∀ x ∈ List.replicate N v, zwv n x := fun x hx => by rw [(List.mem_replicate.mp hx).2]; exact hv
theorem zrepI {N : Nat} : (fun j => zvI ((List.replicate N (Value.int 0)).getD j .null)) = fun _ => 0 := by
  funext j
  rw [List.getD_eq_getElem?_getD]
  cases hj : (List.replicate N (Value.int 0))[j]? with
  | none => rfl
  | some v =>
    have h1 := (List.mem_replicate.mp (List.mem_of_getElem? hj)).2
    rw [h1]; rfl
theorem zrepL {N : Nat} : (fun j => zvL ((List.replicate N (Value.long 0)).getD j .null)) = fun _ => 0 := by
  funext j
  rw [List.getD_eq_getElem?_getD]
  cases hj : (List.replicate N (Value.long 0))[j]? with
  | none => rfl
  | some v =>
    have h1 := (List.mem_replicate.mp (List.mem_of_getElem? hj)).2
    rw [h1]; rfl
theorem zrepR {N : Nat} {ad : Nat → Nat} : (fun j => zvR ad ((List.replicate N Value.null).getD j .null)) = fun _ => none := by
  funext j
  rw [List.getD_eq_getElem?_getD]
  cases hj : (List.replicate N Value.null)[j]? with
  | none => rfl
  | some v =>
    have h1 := (List.mem_replicate.mp (List.mem_of_getElem? hj)).2
    rw [h1]; rfl
/-- a place of an array of ints, bytes, shorts, booleans written: the world behind it -/
theorem zW_stI {t k j : Nat} {vs : List Value} {x : Int32} {H1 : Heap} (ht : t < 5) (h1 : t ≠ 1) (hW : zW B D tys ad h s H) (hk : zown h k = some (.inl (t, vs))) (hj : j < vs.length)
    (hP : va_P D z_cls ((zws ad tys h.1).set (k - zK0) (ad k, .inl (zty tys t, vs.length, .inl (upd (fun j => zvI (vs.getD j .null)) j x)))) H1) (hD : va_D (fun q => B ≤ q) ((zws ad tys h.1).set (k - zK0) (ad k, .inl (zty tys t, vs.length, .inl (upd (fun j => zvI (vs.getD j .null)) j x))))) : zW B D tys ad (zput h k (.inl (t, vs.set j (.int x)))) s H1 := by
  obtain ⟨h2, -, -⟩ := zown_at hk (ad := ad) (tys := tys)
  have hz := zw_size h2 hP hD
  have e1 : (Sum.inl (zty tys t, vs.length, .inl (upd (fun j => zvI (vs.getD j .null)) j x)) : va_E) = zcE ad tys (.inl (t, vs.set j (.int x))) := by
    show _ = Sum.inl (zty tys t, zcA ad t (vs.set j (.int x)))
    rw [zcA_I ht h1, List.length_set, zupI hj]
  rw [e1] at hP hD
  refine zW_set hW hk ?_ hP hD hz
  intro z hz
  rcases List.mem_or_eq_of_mem_set hz with h9 | h9
  · exact zown_wf hk hW.2.2.2.1 z h9
  · rw [h9]; trivial
theorem zW_stL {k j : Nat} {vs : List Value} {x : Int64} {H1 : Heap} (hW : zW B D tys ad h s H) (hk : zown h k = some (.inl (1, vs))) (hj : j < vs.length)
    (hP : va_P D z_cls ((zws ad tys h.1).set (k - zK0) (ad k, .inl (zty tys 1, vs.length, .inr (.inl (vp_updL (fun j => zvL (vs.getD j .null)) j x))))) H1) (hD : va_D (fun q => B ≤ q) ((zws ad tys h.1).set (k - zK0) (ad k, .inl (zty tys 1, vs.length, .inr (.inl (vp_updL (fun j => zvL (vs.getD j .null)) j x)))))) : zW B D tys ad (zput h k (.inl (1, vs.set j (.long x)))) s H1 := by
  obtain ⟨h2, -, -⟩ := zown_at hk (ad := ad) (tys := tys)
  have hz := zw_size h2 hP hD
  have e1 : (Sum.inl (zty tys 1, vs.length, .inr (.inl (vp_updL (fun j => zvL (vs.getD j .null)) j x))) : va_E) = zcE ad tys (.inl (1, vs.set j (.long x))) := by
    show _ = Sum.inl (zty tys 1, zcA ad 1 (vs.set j (.long x)))
    rw [zcA_L, List.length_set, zupL hj]
  rw [e1] at hP hD
  refine zW_set hW hk ?_ hP hD hz
  intro z hz
  rcases List.mem_or_eq_of_mem_set hz with h9 | h9
  · exact zown_wf hk hW.2.2.2.1 z h9
  · rw [h9]; trivial
theorem zW_stR {t k j : Nat} {vs : List Value} {v : Value} {r : Option Nat} {H1 : Heap} (ht : ¬ t < 5) (hW : zW B D tys ad h s H) (hk : zown h k = some (.inl (t, vs))) (hj : j < vs.length) (hr : zvR ad v = r) (hv : zwv (h.1.length + zK0) v)
    (hP : va_P D z_cls ((zws ad tys h.1).set (k - zK0) (ad k, .inl (zty tys t, vs.length, .inr (.inr (.inr (.inr (va_up (fun j => zvR ad (vs.getD j .null)) j r))))))) H1) (hD : va_D (fun q => B ≤ q) ((zws ad tys h.1).set (k - zK0) (ad k, .inl (zty tys t, vs.length, .inr (.inr (.inr (.inr (va_up (fun j => zvR ad (vs.getD j .null)) j r)))))))) : zW B D tys ad (zput h k (.inl (t, vs.set j v))) s H1 := by
  obtain ⟨h2, -, -⟩ := zown_at hk (ad := ad) (tys := tys)
  have hz := zw_size h2 hP hD
  have e1 : (Sum.inl (zty tys t, vs.length, .inr (.inr (.inr (.inr (va_up (fun j => zvR ad (vs.getD j .null)) j r))))) : va_E) = zcE ad tys (.inl (t, vs.set j v)) := by
    show _ = Sum.inl (zty tys t, zcA ad t (vs.set j v))
    rw [zcA_R ht, List.length_set, zupR hj hr]
  rw [e1] at hP hD
  refine zW_set hW hk ?_ hP hD hz
  intro z hz
  rcases List.mem_or_eq_of_mem_set hz with h9 | h9
  · exact zown_wf hk hW.2.2.2.1 z h9
  · rw [h9]; exact hv
theorem zpush_size {e1 : va_E} {ws : va_W} {q : Nat} {H1 : Heap} (hP : va_P D z_cls (ws ++ [(q, e1)]) H1) (hD : va_D (fun q => B ≤ q) (ws ++ [(q, e1)])) : B ≤ H1.size := by
  have h9 : (ws ++ [(q, e1)])[ws.length]? = some (q, e1) := by simp
  exact Nat.le_trans (hD.2 _ _ h9) (Nat.le_of_lt (hP _ _ h9).lt)
end ZG
