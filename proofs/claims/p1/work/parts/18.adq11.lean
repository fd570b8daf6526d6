/-! ADEQUACY, eleventh part: calls -/
set_option maxRecDepth 100000 in
/-- how many parameters a linked method has -/
theorem zpd_k : z_link.all (fun l => l.all (fun q => !(decide (5 ≤ q.2.1 ∧ q.2.1 ≤ 10)) || decide ((parseMethodDescriptor (zY q.2.2.1).desc).map (fun d => d.parameters.length) = some q.2.2.2))) = true := by decide +kernel
theorem zpd {mi x t j k : Nat} (h : zlink mi x = some (t, j, k)) (ht : 5 ≤ t ∧ t ≤ 10) : ∀ sig, parseMethodDescriptor (zY j).desc = some sig → k = sig.parameters.length := by
  intro sig hs
  have h1 := zlink_mem h
  rw [List.getD_eq_getElem?_getD] at h1
  cases hc : z_link[z_mc.getD mi 0]? with
  | none => rw [hc] at h1; exact absurd h1 List.not_mem_nil
  | some l =>
    rw [hc] at h1
    have h2 := List.all_eq_true.mp (List.all_eq_true.mp zpd_k l (List.mem_of_getElem? hc)) _ h1
    simp only [Bool.or_eq_true, Bool.not_eq_true', decide_eq_false_iff_not, decide_eq_true_eq] at h2
    rcases h2 with h2 | h2
    · exact absurd ht h2
    · rw [hs] at h2
      exact (Option.some.inj h2).symm
theorem zY_of {j : Nat} {mt : zM} (hm : z_meth[j]? = some mt) : zY j = mt.1 := by unfold zY; rw [hm]
theorem zcw_kw {j : Nat} {mt : zM} (hm : z_meth[j]? = some mt) : zkw (zcw j) = true := by
  unfold zcw
  rw [hm]
  dsimp only
  split <;> rfl
theorem zcw_in {j : Nat} {mt : zM} (hm : z_meth[j]? = some mt) (h0 : 0 < j) : zcw j ∈ zTl := zTl_in (z_cw h0 (zmeth_lt hm)) (zcw_kw hm)
section ZC
variable {p : Program} {l : Launch} {e : Env} {R : Room} {s : State} {m : MethodId} {args : Array Value} {below : List Frame} {meth : Method} {c : Code} {H : Heap} {locs : List Loc} {cells slots mc ms : Nat} {Q : State → Prop}
variable {pc : Nat} {ls : Array Slot} {st0 rest : List Value} {ad : Nat → Nat} {B : Nat} {D : va_G} {tys : List (ClassId × FieldType)} {h h1 : zH} {o : zO} {a : Array Value} {xs : List Value}
theorem zcall_go (hr : vx_Run p l e R s m args below meth c H locs cells slots mc ms (F0 m pc ls st0) rest (zQc B D tys ad h o h1 a) (zXC B D tys ad h o h1) (fun q => B ≤ q)) (hS : va_S (fun q => B ≤ q) s.heap H locs)
    (kret : ∀ (v : Option Value) (ad' : Nat → Nat) (H1 : Heap) (locs1 : List Loc), o = .inl v → zAg (h.1.length + zK0) ad ad' → zW B D tys ad' h1 s H1 → (∀ x, v = some x → zwv (h1.1.length + zK0) x) → va_S (fun q => B ≤ q) s.heap H1 locs1 → W p l e R s m args below meth c H1 locs1 (cells + mc) (slots + ms) Q (F0 m (pc + 3) ls ((v.map (zcv ad')).toList ++ rest)))
    (kthr : ∀ (ev : Nat) (ad' : Nat → Nat) (H1 : Heap) (locs1 : List Loc) (q : Addr) (ce : Cell), o = .inr ev → ev < z_exc.length → zAg (h.1.length + zK0) ad ad' → zW B D tys ad' h1 s H1 → va_S (fun q => B ≤ q) s.heap H1 locs1 → H1[q]? = some ce → ce.vm = .none → s.vm.findClass (zEn ev) = some ce.cls → vx_W p l e R s m args below meth c H1 locs1 (cells + mc) (slots + ms) Q (F0 m pc ls rest) q) :
    W p l e R s m args below meth c H locs cells slots Q (F0 m pc ls st0) := by
  intro T hT X
  rcases hr T hT X with ⟨v, st₀, t, T', L, h0, X', hL, e1, e2, ⟨v9, ad', ho, hoc, hag, hW, hwf, hF⟩, st⟩ | ⟨q, st₀, t, T', L, E, ce, h0, X', hL, e1, e2, ⟨ev, ad', ho, hev, rfl, hag, hW, hF⟩, hce, hcv, hcl, st⟩
  · cases hoc
    obtain ⟨k1, k2, k3⟩ := vx_keep h0 e1 hS (fun _ _ z => z) (fun _ z => z) hL hF
    have hvm : t.vm.Alike s.vm := by rw [← e2]; exact X'.warmed.alike.symm
    obtain ⟨t2, a1, b1⟩ := kret v9 ad' T'.heap (locs ++ L) ho hag (by rw [e1]; exact zW_moved hvm hW) hwf k3 T' rfl X'
    exact ⟨t2, st t2 a1, b1⟩
  · obtain ⟨k1, k2, k3⟩ := vx_keep h0 e1 hS (fun _ _ z => z) (fun _ z => z) hL hF
    have hvm : t.vm.Alike s.vm := by rw [← e2]; exact X'.warmed.alike.symm
    obtain ⟨t2, a1, b1⟩ := kthr ev ad' T'.heap (locs ++ L) q ce ho hev hag (by rw [e1]; exact zW_moved hvm hW) k3 (by rw [e1]; exact hce) hcv hcl T' rfl X'
    exact ⟨t2, st.trans a1, b1⟩
theorem zcall_goI (hr : va_Run p l e R s m args below meth c H locs cells slots mc ms (F0 m pc ls st0) rest (zQc B D tys ad h o h1 a) (fun q => B ≤ q)) (hS : va_S (fun q => B ≤ q) s.heap H locs)
    (kret : ∀ (v : Option Value) (ad' : Nat → Nat) (H1 : Heap) (locs1 : List Loc), o = .inl v → zAg (h.1.length + zK0) ad ad' → zW B D tys ad' h1 s H1 → (∀ x, v = some x → zwv (h1.1.length + zK0) x) → va_S (fun q => B ≤ q) s.heap H1 locs1 → W p l e R s m args below meth c H1 locs1 (cells + mc) (slots + ms) Q (F0 m (pc + 3) ls ((v.map (zcv ad')).toList ++ rest))) :
    W p l e R s m args below meth c H locs cells slots Q (F0 m pc ls st0) := by
  intro T hT X
  obtain ⟨v, st₀, t, T', L, h0, X', hL, e1, e2, ⟨v9, ad', ho, hoc, hag, hW, hwf, hF⟩, st⟩ := hr T hT X
  cases hoc
  obtain ⟨k1, k2, k3⟩ := vx_keep h0 e1 hS (fun _ _ z => z) (fun _ z => z) hL hF
  have hvm : t.vm.Alike s.vm := by rw [← e2]; exact X'.warmed.alike.symm
  obtain ⟨t2, a1, b1⟩ := kret v9 ad' T'.heap (locs ++ L) ho hag (by rw [e1]; exact zW_moved hvm hW) hwf k3 T' rfl X'
  exact ⟨t2, st t2 a1, b1⟩
/-- what holds where a callee begins -/
theorem zpre {as : List Value} (hB : B ≤ s.heap.size) (hW : zW B D tys ad h s H) (ho : zold B ad xs s s.heap) (hS : va_S (fun q => B ≤ q) s.heap H locs) (hws : zwS (h.1.length + zK0) as) : ∀ U : State, U.heap = H → s.WarmedH U.vm → zPc B D tys ad xs h as (as.map (zcv ad)).toArray U := by
  intro U hU hWm
  refine ⟨rfl, ?_, ?_, hws⟩
  · rw [hU]; exact zW_moved hWm.alike hW
  · rw [hU]; exact zold_moved hWm.alike (zold_kept hB hS.2.1 ho)
end ZC
section ZD
variable {l : Launch} {n : Nat} {B : Nat} {D : va_G} {tys : List (ClassId × FieldType)} {xs : List Value} {d j : Nat} {mt : zM} {as : List Value} {h h' : zH} {v : Option Value} {ad : Nat → Nat}
theorem zmetI (IH : zMain l n) (hst : l.stackTraces = false) (hty : tys.map (fun q => q.2) = z_aty) (hm : z_meth[j]? = some mt) (hent : zent j as = true) (hrun : zrun xs n d (j, 0, lv_args 0 as, []) h = some (.inl v, h')) :
    Met l mt.1 (zcw j :: zTl) { frames := d + 1, locals := 100 * (d + 1), cells := h'.2.1 - h.2.1, slots := h'.2.2 - h.2.2 } (zPc B D tys ad xs h as) (zQc B D tys ad h (.inl v) h') (h'.2.1 - h.2.1) (h'.2.2 - h.2.2) (fun q => B ≤ q) := by
  refine MetFree.mono (zmet IH hst hty hm hent hrun) (fun _ _ z => z) (fun _ _ _ _ _ z => z) (fun a s o s' _ hq => ?_)
  rcases hq with hq | ⟨q, -, E, ce, L, hX, -⟩
  · exact hq
  · obtain ⟨ev, ad', ho, -⟩ := hX
    cases ho
end ZD
