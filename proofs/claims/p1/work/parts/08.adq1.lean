/-! ADEQUACY, first part: a reference's address; steps that leave the heap alone -/
/-- a value with its label turned into an address -/
def zcv (ad : Nat → Nat) (v : Value) : Value := match v with
  | .ref k => .ref (ad k)
  | v => v
def zcl (ad : Nat → Nat) (lv : List (Nat × Value)) : List (Nat × Value) := lv.map (fun q => (q.1, zcv ad q.2))
theorem zcv_cat (ad : Nat → Nat) (v : Value) : (zcv ad v).category = v.category := by cases v <;> rfl
theorem zgetl_mem {lv : List (Nat × Value)} {i : Nat} {v : Value} (h : zgetl lv i = some v) : (i, v) ∈ lv := by
  unfold zgetl at h
  cases hf : lv.find? (fun q => q.1 == i) with
  | none => rw [hf] at h; cases h
  | some q =>
    rw [hf] at h
    have h1 := List.mem_of_find?_eq_some hf
    have h2 := List.find?_some hf
    simp only [beq_iff_eq] at h2
    obtain ⟨a, b⟩ := q
    cases h
    cases h2
    exact h1
theorem zgetl_cl {ls : Array Slot} {nL : Nat} {ad : Nat → Nat} {lv : List (Nat × Value)} (hl : lv_has ls nL (zcl ad lv)) {i : Nat} {v : Value} (h : zgetl lv i = some v) : ls[i]? = some (.val (zcv ad v)) :=
  hl.2.2 (i, zcv ad v) (List.mem_map.mpr ⟨(i, v), zgetl_mem h, rfl⟩)
theorem zst1_cl (ad : Nat → Nat) (lv : List (Nat × Value)) (i : Nat) (v : Value) : (i, zcv ad v) :: (zcl ad lv).filter (fun q => !(q.1 == i) && !(q.1 + 1 == i && q.2.category == 2)) = zcl ad (zst1 lv i v) := by
  unfold zst1 zcl
  rw [List.filter_map, List.map_cons]
  congr 1
  congr 1
  apply List.filter_congr
  intro q _
  simp [zcv_cat]
theorem zst2_cl (ad : Nat → Nat) (lv : List (Nat × Value)) (i : Nat) (v : Value) : (i, zcv ad v) :: (zcl ad lv).filter (fun q => !(q.1 == i) && (!(q.1 == i + 1) && !(q.1 + 1 == i && q.2.category == 2))) = zcl ad (zst2 lv i v) := by
  unfold zst2 zcl
  rw [List.filter_map, List.map_cons]
  congr 1
  congr 1
  apply List.filter_congr
  intro q _
  simp [zcv_cat]
theorem zl0 {n : Nat} {P : Prop} (h : n + 1 = 0) : P := nomatch h
section ZA
variable {p : Program} {l : Launch} {e : Env} {R : Room} {s : State} {m : MethodId} {args : Array Value} {below : List Frame} {meth : Method} {c : Code} {H : Heap} {locs : List Loc} {cells slots : Nat} {Q : State → Prop}
variable {cc : ByteArray} {pc len : Nat} {ls : Array Slot} {i : ClassFile.Instr} {st st' : List Value} {ad : Nat → Nat}
set_option maxHeartbeats 4000000 in
theorem za_pure (hx : p.tables.exec = Jvm.exec) (hb : c.code = cc) (hd : decode cc pc = .ok (i, len)) (hl : zlen i = len ∨ zlen i = 0) (h : zpure i st = some st')
    (k : W p l e R s m args below meth c H locs cells slots Q (F0 m (pc + len) ls (st'.map (zcv ad)))) : W p l e R s m args below meth c H locs cells slots Q (F0 m pc ls (st.map (zcv ad))) := by
  unfold zpure at h
  split at h
  case h_35 => cases h
  all_goals (refine hl.elim (fun hl => ?_) (fun hl => zl0 hl))
  all_goals subst hl
  · cases h; exact lv_iconst hx hb hd rfl k
  · cases h; exact lv_bipush hx hb hd rfl k
  · cases h; exact lv_sipush hx hb hd rfl k
  · cases h; exact lv_lconst hx hb hd rfl k
  · cases h; exact lv_null hx hb hd k
  · cases h; exact lv_iadd hx hb hd k
  · cases h; exact lv_isub hx hb hd k
  · cases h; exact lv_imul hx hb hd k
  · cases h; exact lv_iand hx hb hd k
  · cases h; exact lv_ior hx hb hd k
  · cases h; exact lv_ixor hx hb hd k
  · cases h; exact lv_ishl hx hb hd k
  · cases h; exact lv_ishr hx hb hd k
  · cases h; exact lv_iushr hx hb hd rfl k
  · cases h; exact lv_ineg hx hb hd k
  · cases h; exact lv_ladd hx hb hd k
  · cases h; exact lv_lsub hx hb hd k
  · cases h; exact lv_lmul hx hb hd k
  · cases h; exact lv_land hx hb hd k
  · cases h; exact lv_lor hx hb hd k
  · cases h; exact lv_lxor hx hb hd k
  · cases h; exact lv_lneg hx hb hd k
  · cases h; exact lv_lshl hx hb hd rfl k
  · cases h; exact lv_lshr hx hb hd rfl k
  · cases h; exact lv_lushr hx hb hd rfl k
  · cases h; exact W.lcmp hx hb hd k
  · cases h; exact lv_i2l hx hb hd rfl k
  · cases h; exact lv_l2i hx hb hd rfl k
  · cases h; exact lv_i2b hx hb hd rfl k
  · cases h; exact lv_i2s hx hb hd rfl k
  · split at h
    · rename_i hc; cases h; exact lv_dup hx hb hd (by rw [zcv_cat]; exact hc) k
    · cases h
  · split at h
    · rename_i hc; cases h; exact lv_pop hx hb hd (by rw [zcv_cat]; exact hc) k
    · cases h
  · split at h
    · rename_i hc; cases h; exact lv_dup_x1 hx hb hd (by rw [zcv_cat]; exact hc.1) (by rw [zcv_cat]; exact hc.2) k
    · cases h
  · split at h
    · rename_i hc; cases h; exact lv_dup2_11 hx hb hd (by rw [zcv_cat]; exact hc.1) (by rw [zcv_cat]; exact hc.2) k
    · cases h
theorem ztg_eq {o : Int} (h : 0 ≤ (pc : Int) + o) : (pc : Int) + o = (ztg pc o : Int) := by unfold ztg; omega
theorem za_if (hx : p.tables.exec = Jvm.exec) (hb : c.code = cc) {cd : ClassFile.Cond} {x : Int32} {o : Int} {rest : List Value} (hd : decode cc pc = .ok (.ifCond cd o, 3)) (hp : 0 ≤ (pc : Int) + o)
    (k : W p l e R s m args below meth c H locs cells slots Q (F0 m (if zc cd x 0 = true then ztg pc o else pc + 3) ls rest)) : W p l e R s m args below meth c H locs cells slots Q (F0 m pc ls (.int x :: rest)) := by
  have kt : zc cd x 0 = true → W p l e R s m args below meth c H locs cells slots Q (F0 m (ztg pc o) ls rest) := fun h => by rw [if_pos h] at k; exact k
  have kf : ¬ zc cd x 0 = true → W p l e R s m args below meth c H locs cells slots Q (F0 m (pc + 3) ls rest) := fun h => by rw [if_neg h] at k; exact k
  cases cd with
  | eq => exact lv_if_eq hx hb hd (ztg_eq hp) (fun q => kt (decide_eq_true q)) (fun q => kf (fun z => q (of_decide_eq_true z)))
  | ne => exact lv_if_ne hx hb hd (ztg_eq hp) (fun q => kt (decide_eq_true q)) (fun q => kf (fun z => of_decide_eq_true z q))
  | lt => exact lv_if_lt hx hb hd (ztg_eq hp) (fun q => kt (decide_eq_true q)) (fun q => kf (fun z => q (of_decide_eq_true z)))
  | ge => exact lv_if_ge hx hb hd (ztg_eq hp) (fun q => kt (decide_eq_true q)) (fun q => kf (fun z => q (of_decide_eq_true z)))
  | gt => exact lv_if_gt hx hb hd (ztg_eq hp) (fun q => kt (decide_eq_true q)) (fun q => kf (fun z => q (of_decide_eq_true z)))
  | le => exact lv_if_le hx hb hd (ztg_eq hp) (fun q => kt (decide_eq_true q)) (fun q => kf (fun z => q (of_decide_eq_true z)))
theorem za_icmp (hx : p.tables.exec = Jvm.exec) (hb : c.code = cc) {cd : ClassFile.Cond} {x y : Int32} {o : Int} {rest : List Value} (hd : decode cc pc = .ok (.if_icmp cd o, 3)) (hp : 0 ≤ (pc : Int) + o)
    (k : W p l e R s m args below meth c H locs cells slots Q (F0 m (if zc cd x y = true then ztg pc o else pc + 3) ls rest)) : W p l e R s m args below meth c H locs cells slots Q (F0 m pc ls (.int y :: .int x :: rest)) := by
  have kt : zc cd x y = true → W p l e R s m args below meth c H locs cells slots Q (F0 m (ztg pc o) ls rest) := fun h => by rw [if_pos h] at k; exact k
  have kf : ¬ zc cd x y = true → W p l e R s m args below meth c H locs cells slots Q (F0 m (pc + 3) ls rest) := fun h => by rw [if_neg h] at k; exact k
  cases cd with
  | eq => exact lv_icmp_eq hx hb hd (ztg_eq hp) (fun q => kt (decide_eq_true q)) (fun q => kf (fun z => q (of_decide_eq_true z)))
  | ne => exact lv_icmp_ne hx hb hd (ztg_eq hp) (fun q => kt (decide_eq_true q)) (fun q => kf (fun z => of_decide_eq_true z q))
  | lt => exact lv_icmp_lt hx hb hd (ztg_eq hp) (fun q => kt (decide_eq_true q)) (fun q => kf (fun z => q (of_decide_eq_true z)))
  | ge => exact lv_icmp_ge hx hb hd (ztg_eq hp) (fun q => kt (decide_eq_true q)) (fun q => kf (fun z => q (of_decide_eq_true z)))
  | gt => exact lv_icmp_gt hx hb hd (ztg_eq hp) (fun q => kt (decide_eq_true q)) (fun q => kf (fun z => q (of_decide_eq_true z)))
  | le => exact lv_icmp_le hx hb hd (ztg_eq hp) (fun q => kt (decide_eq_true q)) (fun q => kf (fun z => q (of_decide_eq_true z)))
set_option maxHeartbeats 4000000 in
theorem za_br (hx : p.tables.exec = Jvm.exec) (hb : c.code = cc) (hd : decode cc pc = .ok (i, len)) (hl : zlen i = len ∨ zlen i = 0) (ho : zoff pc i = true) {t : Nat} (h : zbr pc i st = some (t, st'))
    (k : W p l e R s m args below meth c H locs cells slots Q (F0 m t ls (st'.map (zcv ad)))) : W p l e R s m args below meth c H locs cells slots Q (F0 m pc ls (st.map (zcv ad))) := by
  unfold zbr at h
  split at h
  case h_14 =>
    split at h
    · split at h
      · rename_i hc hp; cases h; exact lv_tableOut hx hb hd hc (ztg_eq hp) k
      · cases h
    · split at h
      · split at h
        · rename_i hc _ _ hof hp; cases h; exact lv_tableIn hx hb hd (fun q => hc (Or.inl q)) (fun q => hc (Or.inr q)) hof (ztg_eq hp) k
        · cases h
      · cases h
  case h_15 =>
    split at h
    · rename_i hc; cases h; exact lv_lookup hx hb hd hc.1 rfl (ztg_eq hc.2) k
    · cases h
  case h_16 => cases h
  all_goals (refine hl.elim (fun hl => ?_) (fun hl => zl0 hl))
  all_goals subst hl
  all_goals (have ho := of_decide_eq_true ho; cases h)
  · exact lv_goto hx hb hd (ztg_eq ho) k
  · exact za_if hx hb hd ho k
  · exact za_icmp hx hb hd ho k
  · exact lv_ifnullN hx hb hd (ztg_eq ho) k
  · exact lv_ifnull hx hb hd k
  · exact lv_ifnonnull hx hb hd (ztg_eq ho) k
  · exact lv_ifnonnullN hx hb hd k
  · exact lv_acmp_eq (rx := none) (ry := none) hx hb hd (ztg_eq ho) (fun _ => k) (fun q => absurd rfl q)
  · rename_i x _; exact lv_acmp_eq (rx := some (ad x)) (ry := none) hx hb hd (ztg_eq ho) (fun q => by cases q) (fun _ => k)
  · rename_i x _; exact lv_acmp_eq (rx := none) (ry := some (ad x)) hx hb hd (ztg_eq ho) (fun q => by cases q) (fun _ => k)
  · exact lv_acmp_ne (rx := none) (ry := none) hx hb hd (ztg_eq ho) (fun q => absurd rfl q) (fun _ => k)
  · rename_i x _; exact lv_acmp_ne (rx := some (ad x)) (ry := none) hx hb hd (ztg_eq ho) (fun _ => k) (fun q => by cases q)
  · rename_i x _; exact lv_acmp_ne (rx := none) (ry := some (ad x)) hx hb hd (ztg_eq ho) (fun _ => k) (fun q => by cases q)
set_option maxHeartbeats 4000000 in
theorem za_loc {nL : Nat} {lv lv' : List (Nat × Value)} (hx : p.tables.exec = Jvm.exec) (hb : c.code = cc) (hd : decode cc pc = .ok (i, len)) (hl : zlen i = len ∨ zlen i = 0) (hh : lv_has ls nL (zcl ad lv)) (h : zloc nL i lv st = some (lv', st'))
    (k : ∀ ls' : Array Slot, lv_has ls' nL (zcl ad lv') → W p l e R s m args below meth c H locs cells slots Q (F0 m (pc + len) ls' (st'.map (zcv ad)))) : W p l e R s m args below meth c H locs cells slots Q (F0 m pc ls (st.map (zcv ad))) := by
  unfold zloc at h
  split at h
  case h_16 => cases h
  all_goals (refine hl.elim (fun hl => ?_) (fun hl => zl0 hl))
  all_goals subst hl
  · split at h
    · rename_i hg; cases h; exact lv_iload hx hb hd (zgetl_cl hh hg) (k ls hh)
    · cases h
  · split at h
    · rename_i hg; cases h; exact lv_iload_n hx hb hd rfl (zgetl_cl hh hg) (k ls hh)
    · cases h
  · split at h
    · rename_i hg; cases h; exact lv_lload hx hb hd (zgetl_cl hh hg) (k ls hh)
    · cases h
  · split at h
    · rename_i hg; cases h; exact lv_lload_n hx hb hd rfl (zgetl_cl hh hg) (k ls hh)
    · cases h
  · split at h
    · rename_i hg; cases h; exact lv_aload hx hb hd (zgetl_cl hh hg) (k ls hh)
    · rename_i hg; cases h; exact lv_aloadN hx hb hd (zgetl_cl hh hg) (k ls hh)
    · cases h
  · split at h
    · rename_i hg; cases h; exact lv_aload_n hx hb hd rfl (zgetl_cl hh hg) (k ls hh)
    · rename_i hg; cases h; exact lv_aload_nN hx hb hd rfl (zgetl_cl hh hg) (k ls hh)
    · cases h
  · split at h
    · rename_i hn; cases h; exact lv_istore hx hb hd hh hn (zst1_cl ad lv _ (.int _)) k
    · cases h
  · split at h
    · rename_i hn; cases h; exact lv_istore_n hx hb hd rfl hh hn (zst1_cl ad lv _ (.int _)) k
    · cases h
  · split at h
    · rename_i hn; cases h; exact lv_lstore hx hb hd hh hn (zst2_cl ad lv _ (.long _)) k
    · cases h
  · split at h
    · rename_i hn; cases h; exact lv_lstore_n hx hb hd rfl hh hn (zst2_cl ad lv _ (.long _)) k
    · cases h
  · split at h
    · rename_i hn; cases h; exact lv_astore hx hb hd hh hn (zst1_cl ad lv _ (.ref _)) k
    · cases h
  · split at h
    · rename_i hn; cases h; exact lv_astore_n hx hb hd rfl hh hn (zst1_cl ad lv _ (.ref _)) k
    · cases h
  · split at h
    · rename_i hn; cases h; exact lv_astoreN hx hb hd hh hn (zst1_cl ad lv _ .null) k
    · cases h
  · split at h
    · rename_i hn; cases h; exact lv_astore_nN hx hb hd rfl hh hn (zst1_cl ad lv _ .null) k
    · cases h
  · split at h
    · split at h
      · rename_i hg hn; cases h
        obtain ⟨j, hj⟩ := List.getElem?_of_mem (List.mem_map.mpr ⟨_, zgetl_mem hg, rfl⟩ : (_, zcv ad (.int _)) ∈ zcl ad lv)
        exact lv_iinc hx hb hd hh hj rfl hn (zst1_cl ad lv _ (.int _)) k
      · cases h
    · cases h
end ZA
