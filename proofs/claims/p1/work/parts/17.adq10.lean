/-! ADEQUACY, tenth part: throws, and the contract of a callee -/
set_option maxRecDepth 100000 in
theorem zxt_k : (List.range 17).all (fun c => (z_link.getD c []).all (fun q => (zxq (zCn c) q).all (fun w => zkw w && vx_ot w && decide (w ∈ lw_tbl)))) = true := by decide +kernel
set_option maxRecDepth 100000 in
theorem zxe_k : z_link.all (fun l => l.all (fun q => !(q.2.1 == 4 || q.2.1 == 15) || decide (q.2.2.1 < z_exc.length))) = true := by decide +kernel
set_option maxRecDepth 100000 in
theorem zhh_k : (List.range 232).all (fun j => (z_hh.getD j []).all (fun q => q.2.2.2 != 0 && (match zlink j q.2.2.2 with | some (15, _, _) => true | _ => false))) = true := by decide +kernel
set_option maxRecDepth 100000 in
theorem zfit_k : ∀ a, a < z_exc.length → Bundle.fit (zEn a) = true := by decide +kernel
set_option maxRecDepth 100000 in
theorem zfit_n : ∀ n ∈ zXn, Bundle.fit n = true := by decide +kernel
set_option maxRecDepth 100000 in
theorem zcas_k : ∀ a, a < z_exc.length → Cond.castable (zEn a) (zEn a) ∈ lw_tbl := by decide +kernel
theorem zmc_lt {mi : Nat} {q : Nat × Nat × Nat × Nat} (h : q ∈ z_link.getD (z_mc.getD mi 0) []) : z_mc.getD mi 0 < 17 := by
  rw [List.getD_eq_getElem?_getD] at h
  cases hc : z_link[z_mc.getD mi 0]? with
  | none => rw [hc] at h; exact absurd h List.not_mem_nil
  | some l => exact (List.getElem?_eq_some_iff.mp hc).1
theorem zxw {mi x ev ic : Nat} (h : zlink mi x = some (4, ev, ic)) : ∀ w ∈ vx_at0 (zOwn mi) ic (zEn ev) zXn, w ∈ zTl ∧ vx_ot w = true := by
  intro w hw
  have h1 := zlink_mem h
  have h2 := List.all_eq_true.mp (List.all_eq_true.mp (List.all_eq_true.mp zxt_k (z_mc.getD mi 0) (List.mem_range.mpr (zmc_lt h1))) _ h1) w hw
  simp only [Bool.and_eq_true, decide_eq_true_eq] at h2
  exact ⟨zTl_in h2.2 h2.1.1, h2.1.2⟩
theorem zxe {mi x t a b : Nat} (h : zlink mi x = some (t, a, b)) (ht : t = 4 ∨ t = 15) : a < z_exc.length := by
  have h1 := zlink_mem h
  rw [List.getD_eq_getElem?_getD] at h1
  cases hc : z_link[z_mc.getD mi 0]? with
  | none => rw [hc] at h1; exact absurd h1 List.not_mem_nil
  | some l =>
    rw [hc] at h1
    have h2 := List.all_eq_true.mp (List.all_eq_true.mp zxe_k l (List.mem_of_getElem? hc)) _ h1
    rcases ht with rfl | rfl <;> simpa using h2
theorem zhh {mi : Nat} (hm : mi < 232) {q : Nat × Nat × Nat × Nat} (h : q ∈ z_hh.getD mi []) : q.2.2.2 ≠ 0 ∧ ∃ a b, zlink mi q.2.2.2 = some (15, a, b) := by
  have h1 := List.all_eq_true.mp (List.all_eq_true.mp zhh_k mi (List.mem_range.mpr hm)) q h
  simp only [Bool.and_eq_true, bne_iff_ne, ne_eq] at h1
  obtain ⟨h2, h3⟩ := h1
  refine ⟨h2, ?_⟩
  split at h3
  · rename_i a b hl; exact ⟨a, b, hl⟩
  · cases h3
theorem zW_kept {B : Nat} {D : va_G} {tys : List (ClassId × FieldType)} {ad : Nat → Nat} {h h2 : zH} {s t : State} {H : Heap} (hW : zW B D tys ad h s H) (e : h2.1 = h.1) (hvm : s.vm.Alike t.vm) (hz : H.size ≤ t.heap.size) (hk : ∀ q : Nat, q < H.size → t.heap[q]? = H[q]?) : zW B D tys ad h2 t t.heap := by
  obtain ⟨h1, h3, h4, h5, h6⟩ := hW
  refine ⟨?_, by rw [e]; exact h3, va_K.moved hvm h4, by rw [e]; exact h5, Nat.le_trans h6 hz⟩
  rw [e]
  exact h1.kept (fun k q hq => hk q.1 (h1 k q hq).lt)
theorem zcovers {q : Nat × Nat × Nat × Nat} {pc : Nat} : covers ⟨q.1, q.2.1, q.2.2.1, q.2.2.2⟩ pc = decide (q.1 ≤ pc ∧ pc < q.2.1) := by
  unfold covers
  simp
section ZB
variable {l : Launch} {n : Nat} {B : Nat} {D : va_G} {tys : List (ClassId × FieldType)} {xs : List Value} {d j : Nat} {mt : zM} {as : List Value} {h h' : zH} {o : zO} {ad : Nat → Nat}
theorem zpass {s : State} {args : Array Value} {mi pc ev : Nat} (hm : mi < 232) (hts : ∀ w ∈ zTl, w.before args s = true) (ho : zold B ad xs s s.heap) (hev : ev < z_exc.length) {L : List (Nat × Nat × Nat × Nat)} (hL : ∀ q ∈ L, q ∈ z_hh.getD mi [] ∧ ((decide (q.1 ≤ pc ∧ pc < q.2.1)) = false ∨ ∀ a b, zlink mi q.2.2.2 = some (15, a, b) → a ≠ ev)) :
    ∀ z ∈ tableOf L, covers z pc = false ∨ (z.catchType ≠ 0 ∧ ∃ nm : String, (Cond.classLink (zOwn mi) z.catchType nm).before args s = true ∧ va_Nc (zEn ev) nm s) := by
  intro z hz
  obtain ⟨q, hq, rfl⟩ := List.mem_map.mp hz
  obtain ⟨h1, h2⟩ := hL q hq
  rcases h2 with h2 | h2
  · exact Or.inl (zcovers.trans h2)
  · obtain ⟨h3, a, b, h4⟩ := zhh hm h1
    have hlt := zlt hts h4
    exact Or.inr ⟨h3, zEn a, hlt _ List.mem_cons_self, ho.2.2.2.2.2 ev a hev (zxe h4 (Or.inr rfl)) (fun q => h2 a b h4 q.symm)⟩
set_option maxHeartbeats 4000000 in
theorem zbody (IH : zMain l n) (hst : l.stackTraces = false) (hty : tys.map (fun q => q.2) = z_aty) (hm : z_meth[j]? = some mt) (hent : zent j as = true) (hrun : zrun xs n d (j, 0, lv_args 0 as, []) h = some (o, h')) {rm : Room} (hrf : rm.frames = d + 1) (hrl : rm.locals = 100 * (d + 1)) (hrc : rm.cells = h'.2.1 - h.2.1) (hrs : rm.slots = h'.2.2 - h.2.2)
    {p : Program} {e : Env} {s : State} {m : MethodId} {args : Array Value} {below : List Frame} {meth : Method} {c : Code} {s₁ : State} (Bd : BodyLoose p l mt.1 (headSpec (zcw j :: zTl) rm) mt.2.1 mt.2.2.1 mt.2.2.2.1 e s m args below meth c s₁) (hml : c.maxLocals = mt.2.2.1) (htab : c.exceptionTable.toList = tableOf (z_hh.getD j [])) (hv : zPc B D tys ad xs h as args s) :
    W p l e (headSpec (zcw j :: zTl) rm).room s m args below meth c s.heap [] 0 0 (vx_MQ below (zQc B D tys ad h o h') (zXC B D tys ad h o h') args s (h'.2.1 - h.2.1) (h'.2.2 - h.2.2) (fun q => B ≤ q)) (entryFrame m args mt.2.2.1) := by
  obtain ⟨rfl, hW, ho, hws⟩ := hv
  have hj : j < 232 := zmeth_lt hm
  unfold zent at hent
  rw [hm] at hent
  have hent := of_decide_eq_true hent
  obtain ⟨ok1, ok2, ok3, ok4, ok5⟩ := zmok_of hm hent.2.2
  have hx := Bd.exec
  have hb := Bd.bytes
  have hr := Bd.returns
  have hlocks := Bd.notSynchronized
  have hts : ∀ w ∈ zTl, w.before (as.map (zcv ad)).toArray s = true := fun w hw => atoms_spec (ws := zcw j :: zTl) Bd.pre w (List.mem_cons_of_mem _ hw)
  have hown : s.vm.findClass (zOwn j) = some m.cls := by rw [← ok1]; exact findClass_of_methodNamed Bd.named
  have hnm : meth.name = mt.1.name := (name_of_methodNamed Bd.named Bd.method).1
  have hB : B ≤ s.heap.size := hW.2.2.2.2
  obtain ⟨mo1, mo2, mo3⟩ := zrun_mono _ _ _ _ _ _ hrun
  have hl := lv_entry (as.map (zcv ad)) (n := mt.2.2.1) (by rw [zsl_len]; exact hent.1)
  rw [lg_entry_eq]
  generalize (lg_sl (as.map (zcv ad)) ++ List.replicate (mt.2.2.1 - (lg_sl (as.map (zcv ad))).length) Slot.unset).toArray = ls at hl ⊢
  rw [zargs_cl] at hl
  have hS0 : va_S (fun q => B ≤ q) s.heap s.heap [] := va_S.rf
  have hRc : (headSpec (zcw j :: zTl) rm).room = rm := rfl
  rw [hRc]
  refine IH B D tys xs d j mt 0 (lv_args 0 as) [] h o h' p e rm s m _ below meth c s.heap [] 0 0 _ ls ad (h.1.length + zK0) ad h.2.1 h.2.2 hrun hm ⟨hx, hb, hml, hown, hts, fun q => hnm.trans (ok2 q), hr, hlocks, htab⟩ hty ⟨hW, ho, hB, hS0, hl, zargs_wf as 0 hws, fun v hv => absurd hv List.not_mem_nil⟩ zAg.refl (Nat.le_refl _) (Nat.zero_add _) (Nat.zero_add _) (by omega) (by omega) (by omega) (by omega) ?_ ?_ ?_
  · intro pc' i len ad' H' locs' ls' st' v cells' slots' hd hlen hz ho' hag hW' hS hw' hc hs
    obtain rfl : cells' = h'.2.1 - h.2.1 := by omega
    obtain rfl : slots' = h'.2.2 - h.2.2 := by omega
    exact vx_ret (zret_W (ad := ad') hx hb hr hlocks hd hlen hz (fun t ht hWt => ⟨v, ad', ho', rfl, hag, zW_moved hWt.alike (by rw [ht]; exact hW'), zret_wf hz hw', zS_F hS ht⟩) hS.2.2)
  · intro pc' x ic ev h1 ad' H' locs' ls' st' cells' slots' d0 d3 d4 d7 hlk ho' hh' hd8 hh0 hcat hag hW' hS hsz hc hs
    have hev := zxe hlk (Or.inl rfl)
    have hlt := zlt hts hlk
    have hm9 : ((st'.map (zcv ad')).map fun v => v.category) = (st'.map fun v => v.category) := by rw [List.map_map]; exact List.map_congr_left (fun v _ => zcv_cat ad' v)
    have e1 : h'.2.1 = h1.2.1 + 1 := by rw [hh']
    have e2 : h'.2.2 = h1.2.2 + 6 := by rw [hh']
    refine vx_throw0 (own := zOwn j) (cls := zEn ev) (names := zXn) (ik := x) (ic := ic) (A := fun q => B ≤ q) hx hb hst hown (zfit_k ev hev) zfit_n (hlt _ List.mem_cons_self) (hlt _ (List.mem_cons_of_mem _ List.mem_cons_self)) (fun w hw => hts w (zxw hlk w hw).1) ?_ ho.2.2.2.1 ho.2.2.2.2.1 hS (hsz.trans hml.symm) d0 d3 d4 d7 ?_ ?_ ?_ (by omega) (by omega) hlocks ?_ hS.2.2 (by omega) (by omega)
    · intro w hw
      rcases List.mem_cons.mp hw with rfl | hw
      · rfl
      · rcases List.mem_cons.mp hw with rfl | hw
        · rfl
        · exact (zxw hlk w hw).2
    · intro z hz
      rw [htab, hh0] at hz
      exact absurd hz List.not_mem_nil
    · show 2 + 3 < rm.frames
      omega
    · rw [hm9]
      show _ + (13 * (2 + 1) + 42) ≤ rm.locals
      omega
    · intro t hvm hz hk
      refine ⟨ev, ad', ho', hev, rfl, hag, zW_kept hW' (by rw [hh']) hvm hz hk, Nat.le_trans hS.1 hz, fun q hq hnb => ?_⟩
      rw [hk q (Nat.lt_of_lt_of_le hq hS.1)]
      exact hS.2.1 q hq hnb
  · intro pc' ev ad' H' locs' ls' rest q ce cells' slots' ho' hesc hev hag hW' hS hq hcv hcl hc hs
    refine vx_outP (own := zOwn j) hown hlocks ?_ hq hcv hcl ?_ hS.2.2 (by omega) (by omega)
    · rw [htab]
      refine zpass hj hts ho hev (fun q hq => ⟨hq, ?_⟩)
      unfold zesc at hesc
      have h9 := List.all_eq_true.mp hesc q hq
      simp only [Bool.or_eq_true, Bool.not_eq_true'] at h9
      rcases h9 with h9 | h9
      · exact Or.inl h9
      · refine Or.inr (fun a b hlk => ?_)
        rw [hlk] at h9
        simpa using h9
    · intro t ht hvm
      exact ⟨ev, ad', ho', hev, rfl, hag, zW_moved hvm (by rw [ht]; exact hW'), zS_F hS ht⟩
theorem zmet (IH : zMain l n) (hst : l.stackTraces = false) (hty : tys.map (fun q => q.2) = z_aty) (hm : z_meth[j]? = some mt) (hent : zent j as = true) (hrun : zrun xs n d (j, 0, lv_args 0 as, []) h = some (o, h')) :
    vx_Met l mt.1 (zcw j :: zTl) { frames := d + 1, locals := 100 * (d + 1), cells := h'.2.1 - h.2.1, slots := h'.2.2 - h.2.2 } (zPc B D tys ad xs h as) (zQc B D tys ad h o h') (zXC B D tys ad h o h') (h'.2.1 - h.2.1) (h'.2.2 - h.2.2) (fun q => B ≤ q) := by
  have hent2 := hent
  unfold zent at hent2
  rw [hm] at hent2
  have hent2 := of_decide_eq_true hent2
  obtain ⟨ok1, ok2, ok3, ok4, ok5⟩ := zmok_of hm hent2.2.2
  by_cases hh : z_hh.getD j [] = []
  · have hcw : zcw j = Cond.code mt.1 mt.2.1 mt.2.2.1 mt.2.2.2.1 := by unfold zcw; rw [hm]; dsimp only; rw [if_pos hh]
    refine vx_ofW (cc := mt.2.1) (maxL := mt.2.2.1) (ret := mt.2.2.2.1) ok3 (ws' := zTl) (by rw [hcw]) ?_
    intro p e s m args below meth c s₁ Bd hml ht hv
    refine zbody IH hst hty hm hent hrun rfl rfl rfl rfl Bd hml ?_ hv
    rw [hh]
    cases hc : c.exceptionTable.toList with
    | nil => rfl
    | cons z zs => exact (ht z (by rw [hc]; exact List.mem_cons_self)).elim
  · have hcw : zcw j = Cond.codeWith mt.1 mt.2.1 mt.2.2.1 mt.2.2.2.1 (z_hh.getD j []) := by unfold zcw; rw [hm]; dsimp only; rw [if_neg hh]
    refine vx_ofWH (cc := mt.2.1) (maxL := mt.2.2.1) (ret := mt.2.2.2.1) (hh := z_hh.getD j []) ok3 (ws' := zTl) (by rw [hcw]) ?_
    intro p e s m args below meth c s₁ Bd hml hv
    refine zbody IH hst hty hm hent hrun rfl rfl rfl rfl Bd hml ?_ hv
    have h9 := atoms_spec (ws := zcw j :: zTl) Bd.pre (zcw j) List.mem_cons_self
    rw [hcw] at h9
    exact vx_table (x := mt.1) Bd h9
end ZB
