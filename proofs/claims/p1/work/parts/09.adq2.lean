/-! ADEQUACY, second part: the world of a heap of labels -/
def zvI (v : Value) : Int32 := match v with
  | .int x => x
  | _ => 0
def zvL (v : Value) : Int64 := match v with
  | .long x => x
  | _ => 0
def zvR (ad : Nat → Nat) (v : Value) : Option Nat := match v with
  | .ref k => some (ad k)
  | _ => none
/-- the number of an array class -/
def zty (tys : List (ClassId × FieldType)) (t : Nat) : ClassId := (tys.getD t ((0 : Nat), .int)).1
def zcA (ad : Nat → Nat) (t : Nat) (vs : List Value) : vp_A :=
  (vs.length, if t = 1 then .inr (.inl (fun j => zvL (vs.getD j .null))) else if t < 5 then .inl (fun j => zvI (vs.getD j .null)) else .inr (.inr (.inr (.inr (fun j => zvR ad (vs.getD j .null))))))
def zcE (ad : Nat → Nat) (tys : List (ClassId × FieldType)) (e : zE) : va_E := match e with
  | .inl a => .inl (zty tys a.1, zcA ad a.1 a.2)
  | .inr o => .inr (o.1, o.2.map (zcv ad))
def zws (ad : Nat → Nat) (tys : List (ClassId × FieldType)) (h : List zE) : va_W := h.mapIdx (fun k e => (ad (k + zK0), zcE ad tys e))
/-- labels that are there -/
def zwv (n : Nat) (v : Value) : Prop := match v with
  | .ref k => k < n
  | _ => True
def zwE (n : Nat) (e : zE) : Prop := match e with
  | .inl a => ∀ v ∈ a.2, zwv n v
  | .inr o => ∀ v ∈ o.2, zwv n v
def zwH (h : List zE) : Prop := ∀ e ∈ h, zwE (h.length + zK0) e
def zwL (n : Nat) (lv : List (Nat × Value)) : Prop := ∀ q ∈ lv, zwv n q.2
def zwS (n : Nat) (st : List Value) : Prop := ∀ v ∈ st, zwv n v
theorem zwv_mono {n m : Nat} (h : n ≤ m) {v : Value} (hv : zwv n v) : zwv m v := by
  cases v <;> first | trivial | exact Nat.lt_of_lt_of_le hv h
theorem zwE_mono {n m : Nat} (h : n ≤ m) {e : zE} (he : zwE n e) : zwE m e := by
  cases e <;> exact fun v hv => zwv_mono h (he v hv)
theorem zcv_ad {n : Nat} {ad ad' : Nat → Nat} (ha : ∀ k, k < n → ad' k = ad k) {v : Value} (hv : zwv n v) : zcv ad' v = zcv ad v := by
  cases v with
  | ref k => show Value.ref (ad' k) = .ref (ad k); rw [ha k hv]
  | _ => rfl
theorem zvR_ad {n : Nat} {ad ad' : Nat → Nat} (ha : ∀ k, k < n → ad' k = ad k) {v : Value} (hv : zwv n v) : zvR ad' v = zvR ad v := by
  cases v with
  | ref k => show some (ad' k) = some (ad k); rw [ha k hv]
  | _ => rfl
theorem zst_ad {n : Nat} {ad ad' : Nat → Nat} (ha : ∀ k, k < n → ad' k = ad k) {st : List Value} (hv : zwS n st) : st.map (zcv ad') = st.map (zcv ad) :=
  List.map_congr_left fun v h => zcv_ad ha (hv v h)
theorem zcl_ad {n : Nat} {ad ad' : Nat → Nat} (ha : ∀ k, k < n → ad' k = ad k) {lv : List (Nat × Value)} (hv : zwL n lv) : zcl ad' lv = zcl ad lv :=
  List.map_congr_left fun q h => by rw [zcv_ad ha (hv q h)]
theorem zwv_getD {n : Nat} {vs : List Value} (h : ∀ v ∈ vs, zwv n v) (j : Nat) : zwv n (vs.getD j .null) := by
  rw [List.getD_eq_getElem?_getD]
  cases hj : vs[j]? with
  | none => trivial
  | some v => exact h v (List.mem_of_getElem? hj)
theorem zcE_ad {n : Nat} {ad ad' : Nat → Nat} (ha : ∀ k, k < n → ad' k = ad k) {tys : List (ClassId × FieldType)} {e : zE} (he : zwE n e) : zcE ad' tys e = zcE ad tys e := by
  cases e with
  | inl a =>
    have hf : (fun j => zvR ad' (a.2.getD j .null)) = (fun j => zvR ad (a.2.getD j .null)) := funext fun j => zvR_ad ha (zwv_getD he j)
    show Sum.inl (_, zcA ad' a.1 a.2) = Sum.inl (_, zcA ad a.1 a.2)
    unfold zcA
    rw [hf]
  | inr o =>
    show Sum.inr (o.1, o.2.map (zcv ad')) = Sum.inr (o.1, o.2.map (zcv ad))
    rw [List.map_congr_left (fun v h => zcv_ad ha (he v h))]
theorem zws_at {ad : Nat → Nat} {tys : List (ClassId × FieldType)} {h : List zE} {k : Nat} {e : zE} (hk : h[k]? = some e) : (zws ad tys h)[k]? = some (ad (k + zK0), zcE ad tys e) := by
  unfold zws
  rw [List.getElem?_mapIdx, hk]
  rfl
theorem zws_len {ad : Nat → Nat} {tys : List (ClassId × FieldType)} {h : List zE} : (zws ad tys h).length = h.length := by
  unfold zws
  rw [List.length_mapIdx]
theorem zws_set {ad : Nat → Nat} {tys : List (ClassId × FieldType)} {h : List zE} {k : Nat} {e : zE} : (zws ad tys h).set k (ad (k + zK0), zcE ad tys e) = zws ad tys (h.set k e) := by
  apply List.ext_getElem?
  intro j
  by_cases hj : k = j
  · subst hj
    by_cases hl : k < h.length
    · rw [List.getElem?_set_self (by rw [zws_len]; exact hl), zws_at (List.getElem?_set_self hl)]
    · rw [List.getElem?_eq_none (by rw [List.length_set, zws_len]; omega), List.getElem?_eq_none (by rw [zws_len, List.length_set]; omega)]
  · rw [List.getElem?_set_ne hj]
    unfold zws
    rw [List.getElem?_mapIdx, List.getElem?_mapIdx, List.getElem?_set_ne hj]
/-- a cell more -/
def zad (ad : Nat → Nat) (n q : Nat) : Nat → Nat := fun k => if k = n then q else ad k
theorem zad_old {ad : Nat → Nat} {n q k : Nat} (h : k < n) : zad ad n q k = ad k := by
  unfold zad
  rw [if_neg (by omega)]
theorem zad_new {ad : Nat → Nat} {n q : Nat} : zad ad n q n = q := by
  unfold zad
  rw [if_pos rfl]
theorem zws_push {ad : Nat → Nat} {tys : List (ClassId × FieldType)} {h : List zE} {e : zE} {q : Nat} (hw : zwH h) : zws ad tys h ++ [(q, zcE (zad ad (h.length + zK0) q) tys e)] = zws (zad ad (h.length + zK0) q) tys (h ++ [e]) := by
  apply List.ext_getElem?
  intro j
  rcases Nat.lt_trichotomy j h.length with hj | hj | hj
  · rw [List.getElem?_append_left (by rw [zws_len]; exact hj)]
    have h1 : h[j]? = some h[j] := List.getElem?_eq_getElem hj
    have h2 : (h ++ [e])[j]? = some h[j] := by rw [List.getElem?_append_left hj]; exact h1
    rw [zws_at h1, zws_at h2, zad_old (by omega : j + zK0 < h.length + zK0), zcE_ad (fun k hk => zad_old hk) (hw _ (List.getElem_mem hj))]
  · subst hj
    have h2 : (h ++ [e])[h.length]? = some e := by simp
    rw [zws_at h2, zad_new, List.getElem?_append_right (by rw [zws_len]; exact Nat.le_refl _), zws_len, Nat.sub_self]
    rfl
  · rw [List.getElem?_eq_none (by rw [List.length_append, zws_len]; simp; omega), List.getElem?_eq_none (by rw [zws_len, List.length_append]; simp; omega)]
/-- the world: the cells at their addresses, from B on; the classes -/
def zW (B : Nat) (D : va_G) (tys : List (ClassId × FieldType)) (ad : Nat → Nat) (h : zH) (U : State) (H : Heap) : Prop :=
  va_P D z_cls (zws ad tys h.1) H ∧ va_D (fun q => B ≤ q) (zws ad tys h.1) ∧ va_K D z_cls tys U ∧ zwH h.1 ∧ B ≤ H.size
theorem zwE_set {n : Nat} {e : zE} {h : List zE} {k : Nat} (hw : ∀ x ∈ h, zwE n x) (he : zwE n e) : ∀ x ∈ h.set k e, zwE n x := by
  intro x hx
  rcases List.mem_or_eq_of_mem_set hx with h1 | h1
  · exact hw x h1
  · rw [h1]; exact he
theorem zwH_set {e : zE} {h : List zE} {k : Nat} (hw : zwH h) (he : zwE (h.length + zK0) e) : zwH (h.set k e) := by
  unfold zwH
  rw [List.length_set]
  exact zwE_set hw he
theorem zwH_push {e : zE} {h : List zE} (hw : zwH h) (he : zwE (h.length + zK0) e) : zwH (h ++ [e]) := by
  intro x hx
  have hl : (h ++ [e]).length + zK0 = h.length + zK0 + 1 := by simp; omega
  rw [hl]
  rcases List.mem_append.mp hx with h1 | h1
  · exact zwE_mono (by omega) (hw x h1)
  · rw [List.mem_singleton.mp h1]
    exact zwE_mono (by omega) he
