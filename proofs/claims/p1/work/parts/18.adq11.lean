/-! ADEQUACY, eleventh part: calls -/
/-- how many parameters each method has -/
def z_pn : List Nat := [1, 0, 0, 0, 0, 1, 1, 2, 1, 0, 0, 0, 0, 1, 1, 1, 1, 4, 2, 2, 2, 0, 0, 1, 2, 1, 0, 2, 0, 2, 2, 2, 2, 3, 1, 7, 5, 1, 1, 2, 1, 1, 2, 3, 0, 1, 1, 2, 0, 2, 3, 0, 2, 1, 3, 1, 4, 0, 0, 3, 2, 1, 1, 2, 0, 1, 0, 2, 0, 2, 4, 4, 2, 4, 2, 2, 1, 1, 1, 2, 2, 0, 2, 2, 2, 1, 0, 2, 1, 2, 2, 0, 4, 5, 3, 0, 2, 3, 1, 1, 1, 1, 1, 0, 1, 1, 1, 0, 1, 0, 1, 1, 2, 1, 1, 0, 1, 1, 1, 1, 0, 0, 2, 1, 1, 2, 2, 1, 1, 0, 2, 0, 2, 2, 0, 1, 1, 1, 1, 1, 2, 2, 1, 1, 3, 1, 3, 1, 0, 3, 1, 0, 0, 0, 2, 0, 2, 3, 1, 2, 2, 0, 2, 1, 2, 3, 1, 0, 1, 1, 2, 3, 2, 1, 3, 1, 1, 1, 1, 1, 1, 4, 2, 1, 3, 2, 1, 3, 1, 3, 4, 2, 1, 4, 1, 0, 0, 3, 1, 1, 1, 0, 1, 1, 1, 1, 1, 4, 3, 1, 3, 2, 2, 2, 4, 2, 3, 3, 3, 1, 2, 2, 1, 2, 2, 2, 2, 1, 1, 1, 2, 1]
set_option maxRecDepth 100000 in
theorem zpn_0 : ((List.range 20).all (fun k => decide (232 ≤ 20 * 0 + k) || decide ((parseMethodDescriptor (zY (20 * 0 + k)).desc).map (fun d => d.parameters.length) = some (z_pn.getD (20 * 0 + k) 0)))) = true := by decide +kernel
set_option maxRecDepth 100000 in
theorem zpn_1 : ((List.range 20).all (fun k => decide (232 ≤ 20 * 1 + k) || decide ((parseMethodDescriptor (zY (20 * 1 + k)).desc).map (fun d => d.parameters.length) = some (z_pn.getD (20 * 1 + k) 0)))) = true := by decide +kernel
set_option maxRecDepth 100000 in
theorem zpn_2 : ((List.range 20).all (fun k => decide (232 ≤ 20 * 2 + k) || decide ((parseMethodDescriptor (zY (20 * 2 + k)).desc).map (fun d => d.parameters.length) = some (z_pn.getD (20 * 2 + k) 0)))) = true := by decide +kernel
set_option maxRecDepth 100000 in
theorem zpn_3 : ((List.range 20).all (fun k => decide (232 ≤ 20 * 3 + k) || decide ((parseMethodDescriptor (zY (20 * 3 + k)).desc).map (fun d => d.parameters.length) = some (z_pn.getD (20 * 3 + k) 0)))) = true := by decide +kernel
set_option maxRecDepth 100000 in
theorem zpn_4 : ((List.range 20).all (fun k => decide (232 ≤ 20 * 4 + k) || decide ((parseMethodDescriptor (zY (20 * 4 + k)).desc).map (fun d => d.parameters.length) = some (z_pn.getD (20 * 4 + k) 0)))) = true := by decide +kernel
set_option maxRecDepth 100000 in
theorem zpn_5 : ((List.range 20).all (fun k => decide (232 ≤ 20 * 5 + k) || decide ((parseMethodDescriptor (zY (20 * 5 + k)).desc).map (fun d => d.parameters.length) = some (z_pn.getD (20 * 5 + k) 0)))) = true := by decide +kernel
set_option maxRecDepth 100000 in
theorem zpn_6 : ((List.range 20).all (fun k => decide (232 ≤ 20 * 6 + k) || decide ((parseMethodDescriptor (zY (20 * 6 + k)).desc).map (fun d => d.parameters.length) = some (z_pn.getD (20 * 6 + k) 0)))) = true := by decide +kernel
set_option maxRecDepth 100000 in
theorem zpn_7 : ((List.range 20).all (fun k => decide (232 ≤ 20 * 7 + k) || decide ((parseMethodDescriptor (zY (20 * 7 + k)).desc).map (fun d => d.parameters.length) = some (z_pn.getD (20 * 7 + k) 0)))) = true := by decide +kernel
set_option maxRecDepth 100000 in
theorem zpn_8 : ((List.range 20).all (fun k => decide (232 ≤ 20 * 8 + k) || decide ((parseMethodDescriptor (zY (20 * 8 + k)).desc).map (fun d => d.parameters.length) = some (z_pn.getD (20 * 8 + k) 0)))) = true := by decide +kernel
set_option maxRecDepth 100000 in
theorem zpn_9 : ((List.range 20).all (fun k => decide (232 ≤ 20 * 9 + k) || decide ((parseMethodDescriptor (zY (20 * 9 + k)).desc).map (fun d => d.parameters.length) = some (z_pn.getD (20 * 9 + k) 0)))) = true := by decide +kernel
set_option maxRecDepth 100000 in
theorem zpn_10 : ((List.range 20).all (fun k => decide (232 ≤ 20 * 10 + k) || decide ((parseMethodDescriptor (zY (20 * 10 + k)).desc).map (fun d => d.parameters.length) = some (z_pn.getD (20 * 10 + k) 0)))) = true := by decide +kernel
set_option maxRecDepth 100000 in
theorem zpn_11 : ((List.range 20).all (fun k => decide (232 ≤ 20 * 11 + k) || decide ((parseMethodDescriptor (zY (20 * 11 + k)).desc).map (fun d => d.parameters.length) = some (z_pn.getD (20 * 11 + k) 0)))) = true := by decide +kernel
theorem zpn_all {j : Nat} (hj : j < 232) : (parseMethodDescriptor (zY j).desc).map (fun d => d.parameters.length) = some (z_pn.getD j 0) := by
  have h0 : ∀ i, i < 12 → ((List.range 20).all (fun k => decide (232 ≤ 20 * i + k) || decide ((parseMethodDescriptor (zY (20 * i + k)).desc).map (fun d => d.parameters.length) = some (z_pn.getD (20 * i + k) 0)))) = true := by
    intro i hi
    have hi2 : i = 0 ∨ i = 1 ∨ i = 2 ∨ i = 3 ∨ i = 4 ∨ i = 5 ∨ i = 6 ∨ i = 7 ∨ i = 8 ∨ i = 9 ∨ i = 10 ∨ i = 11 := by omega
    rcases hi2 with rfl | rfl | rfl | rfl | rfl | rfl | rfl | rfl | rfl | rfl | rfl | rfl
    · exact zpn_0
    · exact zpn_1
    · exact zpn_2
    · exact zpn_3
    · exact zpn_4
    · exact zpn_5
    · exact zpn_6
    · exact zpn_7
    · exact zpn_8
    · exact zpn_9
    · exact zpn_10
    · exact zpn_11
  have h1 := List.all_eq_true.mp (h0 (j / 20) (by omega)) (j % 20) (List.mem_range.mpr (Nat.mod_lt _ (by decide)))
  rw [show 20 * (j / 20) + j % 20 = j by omega, Bool.or_eq_true] at h1
  rcases h1 with h1 | h1
  · have := of_decide_eq_true h1
    omega
  · exact of_decide_eq_true h1
set_option maxRecDepth 100000 in
theorem zpl_k : z_link.all (fun l => l.all (fun q => !(decide (5 ≤ q.2.1 ∧ q.2.1 ≤ 10)) || decide (q.2.2.1 < 232 ∧ z_pn.getD q.2.2.1 0 = q.2.2.2))) = true := by decide +kernel
theorem zpd {mi x t j k : Nat} (h : zlink mi x = some (t, j, k)) (ht : 5 ≤ t ∧ t ≤ 10) : ∀ sig, parseMethodDescriptor (zY j).desc = some sig → k = sig.parameters.length := by
  intro sig hs
  have h1 := zlink_mem h
  rw [List.getD_eq_getElem?_getD] at h1
  cases hc : z_link[z_mc.getD mi 0]? with
  | none => rw [hc] at h1; exact absurd h1 List.not_mem_nil
  | some l =>
    rw [hc] at h1
    have h2 := List.all_eq_true.mp (List.all_eq_true.mp zpl_k l (List.mem_of_getElem? hc)) _ h1
    simp only [Bool.or_eq_true, Bool.not_eq_true', decide_eq_false_iff_not, decide_eq_true_eq] at h2
    rcases h2 with h2 | h2
    · exact absurd ht h2
    · have h3 := zpn_all h2.1
      rw [hs] at h3
      exact h2.2.symm.trans (Option.some.inj h3).symm
theorem zY_of {j : Nat} {mt : zM} (hm : z_meth[j]? = some mt) : zY j = mt.1 := by unfold zY; rw [hm]
theorem zcw_kw {j : Nat} {mt : zM} (hm : z_meth[j]? = some mt) : zkw (zcw j) = true := by
  unfold zcw
  rw [hm]
  dsimp only
  split <;> rfl
theorem zcw_in {j : Nat} {mt : zM} (hm : z_meth[j]? = some mt) (h0 : 0 < j) : zcw j ∈ zTl := zTl_in (z_cw h0 (zmeth_lt hm)) (zcw_kw hm)
section ZC
variable {p : Program} {l : Launch} {e : Env} {R : Room} {s : State} {m : MethodId} {args : Array Value} {below : List Frame} {meth : Method} {c : Code} {H : Heap} {locs : List Loc} {cells slots mc ms : Nat} {Q : State → Prop}
variable {pc : Nat} {ls : Array Slot} {st0 rest : List Value} {ad : Nat → Nat} {B : Nat} {D : va_G} {tys : List (ClassId × FieldType)} {h h1 : zH} {o : zO} {a : Array Value} {xs : List Value}
theorem zcall_go (hr : vx_Run p l e R s m args below meth c H locs cells slots mc ms (F0 m pc ls st0) rest (zQc B D tys ad h o h1 a) (zXC B D tys ad h o h1) (fun q => B ≤ q)) (hS : va_S (fun q => B ≤ q) s.heap H locs)
    (kret : ∀ (v : Option Value) (ad' : Nat → Nat) (H1 : Heap) (locs1 : List Loc), o = .inl v → zAg (h.1.length + zK0) ad ad' → zW B D tys ad' h1 s H1 → (∀ x, v = some x → zwv (h1.1.length + zK0) x) → va_S (fun q => B ≤ q) s.heap H1 locs1 → W p l e R s m args below meth c H1 locs1 (cells + mc) (slots + ms) Q (F0 m (pc + 3) ls ((v.map (zcv ad')).toList ++ rest)))
    (kthr : ∀ (ev : Nat) (ad' : Nat → Nat) (H1 : Heap) (locs1 : List Loc) (q : Addr) (ce : Cell), o = .inr ev → ev < z_exc.length → zAg (h.1.length + zK0) ad ad' → zW B D tys ad' h1 s H1 → va_S (fun q => B ≤ q) s.heap H1 locs1 → H1[q]? = some ce → ce.vm = .none → s.vm.findClass (zEn ev) = some ce.cls → vx_W p l e R s m args below meth c H1 locs1 (cells + mc) (slots + ms) Q (F0 m pc ls rest) q) :
    W p l e R s m args below meth c H locs cells slots Q (F0 m pc ls st0) := by
  intro T hT X
  rcases hr T hT X with ⟨v, st₀, t, T', L, h0, X', hL, e1, e2, ⟨v9, ad', ho, hoc, hag, hW, hwf, hF⟩, st⟩ | ⟨q, st₀, t, T', L, E, ce, h0, X', hL, e1, e2, ⟨ev, ad', ho, hev, rfl, hag, hW, hF⟩, hce, hcv, hcl, st⟩
  · cases hoc
    obtain ⟨k1, k2, k3⟩ := vx_keep h0 e1 hS (fun _ _ z => z) (fun _ z => z) hL hF
    have hvm : t.vm.Alike s.vm := by rw [← e2]; exact X'.warmed.alike.symm
    obtain ⟨t2, a1, b1⟩ := kret v9 ad' T'.heap (locs ++ L) ho hag (by rw [e1]; exact zW_moved hvm hW) hwf k3 T' rfl X'
    exact ⟨t2, st t2 a1, b1⟩
  · obtain ⟨k1, k2, k3⟩ := vx_keep h0 e1 hS (fun _ _ z => z) (fun _ z => z) hL hF
    have hvm : t.vm.Alike s.vm := by rw [← e2]; exact X'.warmed.alike.symm
    obtain ⟨t2, a1, b1⟩ := kthr ev ad' T'.heap (locs ++ L) q ce ho hev hag (by rw [e1]; exact zW_moved hvm hW) k3 (by rw [e1]; exact hce) hcv hcl T' rfl X'
    exact ⟨t2, st.trans a1, b1⟩
theorem zcall_goI (hr : va_Run p l e R s m args below meth c H locs cells slots mc ms (F0 m pc ls st0) rest (zQc B D tys ad h o h1 a) (fun q => B ≤ q)) (hS : va_S (fun q => B ≤ q) s.heap H locs)
    (kret : ∀ (v : Option Value) (ad' : Nat → Nat) (H1 : Heap) (locs1 : List Loc), o = .inl v → zAg (h.1.length + zK0) ad ad' → zW B D tys ad' h1 s H1 → (∀ x, v = some x → zwv (h1.1.length + zK0) x) → va_S (fun q => B ≤ q) s.heap H1 locs1 → W p l e R s m args below meth c H1 locs1 (cells + mc) (slots + ms) Q (F0 m (pc + 3) ls ((v.map (zcv ad')).toList ++ rest))) :
    W p l e R s m args below meth c H locs cells slots Q (F0 m pc ls st0) := by
  intro T hT X
  obtain ⟨v, st₀, t, T', L, h0, X', hL, e1, e2, ⟨v9, ad', ho, hoc, hag, hW, hwf, hF⟩, st⟩ := hr T hT X
  cases hoc
  obtain ⟨k1, k2, k3⟩ := vx_keep h0 e1 hS (fun _ _ z => z) (fun _ z => z) hL hF
  have hvm : t.vm.Alike s.vm := by rw [← e2]; exact X'.warmed.alike.symm
  obtain ⟨t2, a1, b1⟩ := kret v9 ad' T'.heap (locs ++ L) ho hag (by rw [e1]; exact zW_moved hvm hW) hwf k3 T' rfl X'
  exact ⟨t2, st t2 a1, b1⟩
/-- what holds where a callee begins -/
theorem zpre {as : List Value} (hB : B ≤ s.heap.size) (hW : zW B D tys ad h s H) (ho : zold B ad xs s s.heap) (hS : va_S (fun q => B ≤ q) s.heap H locs) (hws : zwS (h.1.length + zK0) as) : ∀ U : State, U.heap = H → s.WarmedH U.vm → zPc B D tys ad xs h as (as.map (zcv ad)).toArray U := by
  intro U hU hWm
  refine ⟨rfl, ?_, ?_, hws⟩
  · rw [hU]; exact zW_moved hWm.alike hW
  · rw [hU]; exact zold_moved hWm.alike (zold_kept hB hS.2.1 ho)
end ZC
section ZD
variable {l : Launch} {n : Nat} {B : Nat} {D : va_G} {tys : List (ClassId × FieldType)} {xs : List Value} {d j : Nat} {mt : zM} {as : List Value} {h h' : zH} {v : Option Value} {ad : Nat → Nat}
theorem zmetI (IH : zMain l n) (hst : l.stackTraces = false) (hty : tys.map (fun q => q.2) = z_aty) (hm : z_meth[j]? = some mt) (hent : zent j as = true) (hrun : zrun xs n d (j, 0, lv_args 0 as, []) h = some (.inl v, h')) :
    Met l mt.1 (zcw j :: zTl) { frames := d + 1, locals := 100 * (d + 1), cells := h'.2.1 - h.2.1, slots := h'.2.2 - h.2.2 } (zPc B D tys ad xs h as) (zQc B D tys ad h (.inl v) h') (h'.2.1 - h.2.1) (h'.2.2 - h.2.2) (fun q => B ≤ q) := by
  refine MetFree.mono (zmet IH hst hty hm hent hrun) (fun _ _ z => z) (fun _ _ _ _ _ z => z) (fun a s o s' _ hq => ?_)
  rcases hq with hq | ⟨q, -, E, ce, L, hX, -⟩
  · exact hq
  · obtain ⟨ev, ad', ho, -⟩ := hX
    cases ho
end ZD
