/-! ADEQUACY, sixth part: a step on the heap -/
set_option maxRecDepth 100000 in
theorem z_ato : ∀ t, t < z_aty.length → ¬ t < 5 → z_aty[t]? = some (.object (zCn (z_acl.getD t 0))) := by decide +kernel
set_option maxRecDepth 100000 in
theorem z_acl13 : ∀ t, t < z_aty.length → z_acl.getD t 0 < 13 := by decide +kernel
set_option maxRecDepth 100000 in
theorem zna_w0 : ∀ t ∈ ([.int, .long, .byte, .short, .boolean] : List FieldType), Cond.arrayClass t ∈ lw_tbl := by decide +kernel
theorem zna_w {ty : ClassFile.ArrayType} {q : Nat × Value} (h : znat ty = some q) : Cond.arrayClass (newarray.typeOf ty) ∈ zTl := by
  refine zTl_in (zna_w0 _ ?_) rfl
  unfold znat at h
  split at h <;> first | cases h; done | (show newarray.typeOf _ ∈ _; decide)
set_option maxRecDepth 100000 in
theorem zob_w0 : Cond.code objectInit ⟨#[0xb1]⟩ 1 none ∈ lw_tbl := by decide +kernel
theorem zob_w : Cond.code objectInit ⟨#[0xb1]⟩ 1 none ∈ zTl := zTl_in zob_w0 rfl
theorem zmx_w : Cond.code Lib.Math.max.name Lib.Math.max.code 2 (some .int) ∈ zTl := zTl_in (z_cw (j := zMx) (by decide) (by decide)) rfl
section ZF
variable {p : Program} {l : Launch} {e : Env} {R : Room} {s : State} {m : MethodId} {args : Array Value} {below : List Frame} {meth : Method} {c : Code} {H : Heap} {locs : List Loc} {cells slots : Nat} {Q : State → Prop}
variable {cc : ByteArray} {pc len : Nat} {ls : Array Slot} {st st' : List Value} {ad : Nat → Nat} {B : Nat} {D : va_G} {tys : List (ClassId × FieldType)} {h h' : zH} {mi : Nat} {i : ClassFile.Instr} {xs : List Value}
theorem zwS_tail {n : Nat} {v : Value} {r : List Value} (h : zwS n (v :: r)) : zwS n r := fun x hx => h x (List.mem_cons_of_mem _ hx)
theorem zwS_cons {n : Nat} {v : Value} {r : List Value} (hv : zwv n v) (h : zwS n r) : zwS n (v :: r) := by
  intro x hx
  rcases List.mem_cons.mp hx with rfl | hx
  · exact hv
  · exact h x hx
theorem zwS_mono {n m : Nat} (hnm : n ≤ m) {r : List Value} (h : zwS n r) : zwS m r := fun x hx => zwv_mono hnm (h x hx)
theorem zadd_len {e1 : zE} {n : Nat} : (zadd h e1 n).1.length + zK0 = h.1.length + zK0 + 1 := by
  show (h.1 ++ [e1]).length + zK0 = _
  rw [List.length_append, List.length_singleton]; omega
theorem zput_len {k : Nat} {e1 : zE} : (zput h k e1).1.length + zK0 = h.1.length + zK0 := by
  show (h.1.set _ _).length + zK0 = _
  rw [List.length_set]
theorem zref_cv {q : Nat} : zcv (zad ad (h.1.length + zK0) q) (zref h) = .ref q := by
  show Value.ref (zad ad (h.1.length + zK0) q (h.1.length + zK0)) = _
  rw [zad_new]
theorem zref_wf {e1 : zE} {n : Nat} : zwv ((zadd h e1 n).1.length + zK0) (zref h) := by
  rw [zadd_len]
  show h.1.length + zK0 < _
  omega
/-- the new world's stack -/
theorem zst_new {q : Nat} {r : List Value} (hr : zwS (h.1.length + zK0) r) : (zref h :: r).map (zcv (zad ad (h.1.length + zK0) q)) = .ref q :: r.map (zcv ad) := by
  rw [List.map_cons, zref_cv, zst_ad (fun k hk => zad_old hk) hr]
set_option maxHeartbeats 4000000 in
theorem za_heap (hx : p.tables.exec = Jvm.exec) (hb : c.code = cc) (hd : decode cc pc = .ok (i, len)) (hlen : zlen i = len ∨ zlen i = 0) (hown : s.vm.findClass (zOwn mi) = some m.cls) (hts : ∀ w ∈ zTl, w.before args s = true) (hin : z_ini.getD mi false = true → meth.name = "<init>")
    (hty : tys.map (fun q => q.2) = z_aty) (hW : zW B D tys ad h s H) (ho : zold B ad xs s s.heap) (hB : B ≤ s.heap.size) (hS : va_S (fun q => B ≤ q) s.heap H locs) (hws : zwS (h.1.length + zK0) st) (hsz : ls.size = c.maxLocals) (hRf : 1 ≤ R.frames) (hRl : 50 ≤ R.locals)
    (hh : zheap xs mi i st h = some (st', h')) (hc : cells + (h'.2.1 - h.2.1) ≤ R.cells) (hsl : slots + (h'.2.2 - h.2.2) ≤ R.slots)
    (k : ∀ (ad' : Nat → Nat) (H' : Heap) (locs' : List Loc), (∀ j, j < h.1.length + zK0 → ad' j = ad j) → h.1.length ≤ h'.1.length → zW B D tys ad' h' s H' → va_S (fun q => B ≤ q) s.heap H' locs' → zwS (h'.1.length + zK0) st' →
      W p l e R s m args below meth c H' locs' (cells + (h'.2.1 - h.2.1)) (slots + (h'.2.2 - h.2.2)) Q (F0 m (pc + len) ls (st'.map (zcv ad')))) : W p l e R s m args below meth c H locs cells slots Q (F0 m pc ls (st.map (zcv ad))) := by
  have hA : ∀ q : Nat, s.heap.size ≤ q → (fun q => B ≤ q) q := fun q hq => Nat.le_trans hB hq
  have e0 : ∀ a : Nat, cells + (a - a) = cells := fun a => by omega
  have e1 : ∀ a : Nat, slots + (a - a) = slots := fun a => by omega
  unfold zheap at hh
  split at hh
  case h_22 => cases hh
  all_goals (refine hlen.elim (fun hlen => ?_) (fun hlen => zl0 hlen))
  all_goals subst hlen
  -- getfield
  · split at hh
    · rename_i t ci j c' fs hlk hwn
      split at hh
      · rename_i hc2
        obtain ⟨ht, rfl⟩ := hc2
        cases hv : fs[j]? with
        | none => rw [hv] at hh; cases hh
        | some v =>
          rw [hv] at hh
          cases hh
          have k := k ad H locs (fun _ _ => rfl) (Nat.le_refl _) hW hS (zwS_cons (zwv_in (zown_wf hwn hW.2.2.2.1) hv) (zwS_tail hws))
          rw [e0, e1] at k
          exact za_get hx hb hown hts hW hlk hwn ht hv hd k
      · cases hh
    · cases hh
  -- putfield
  · split at hh
    · rename_i t ci j c' fs hlk hwn
      split at hh
      · rename_i hc2
        obtain ⟨ht, rfl, hj, hfit, hfin⟩ := hc2
        cases hh
        refine za_put hx hb hown hts hin hW hS (hws _ List.mem_cons_self) hlk hwn ht hj hfit hfin hd (fun H1 l1 q1 q2 => ?_)
        have k := k ad H1 l1 (fun _ _ => rfl) (by show _ ≤ (h.1.set _ _).length; rw [List.length_set]; exact Nat.le_refl _) q1 q2 (by rw [zput_len]; exact zwS_tail (zwS_tail hws))
        have k : W p l e R s m args below meth c H1 l1 (cells + (h.2.1 - h.2.1)) (slots + (h.2.2 - h.2.2)) Q _ := k
        rw [e0, e1] at k
        exact k
      · cases hh
    · cases hh
  -- getstatic
  · split at hh
    · rename_i a b hlk
      split at hh
      · rename_i ha
        cases hh
        obtain ⟨⟨t, vs⟩, hsp⟩ : ∃ q, z_sp[a]? = some q := ⟨_, List.getElem?_eq_getElem ha⟩
        obtain ⟨-, -, hZ⟩ := ho.2.2.1 a t vs hsp
        have hlt := zlt hts hlk
        have k := k ad H locs (fun _ _ => rfl) (Nat.le_refl _) hW hS (zwS_cons (by show a + 1 < _; unfold zK0; omega) hws)
        rw [e0, e1] at k
        cases b with
        | zero => exact va_gets hx hb hZ hS hown (hlt _ List.mem_cons_self) (fun _ h9 => h9) hd k
        | succ b => exact va_getsN hx hb hZ hS hown (hlt _ List.mem_cons_self) (fun _ h9 => h9) hd k
      · cases hh
    · cases hh
  -- ldc2_w
  · split at hh
    · rename_i a b hlk
      split at hh
      · rename_i v hv
        cases hh
        have hlt := zlt hts hlk
        have k := k ad H locs (fun _ _ => rfl) (Nat.le_refl _) hW hS (zwS_cons trivial hws)
        rw [e0, e1] at k
        have hv2 : zKl a = v := by unfold zKl; rw [hv]
        have h9 := hlt _ List.mem_cons_self
        rw [hv2] at h9
        exact lv_ldc2 hx hb hown h9 hd k
      · cases hh
    · cases hh
  -- arraylength
  · split at hh
    · rename_i k0 r _ t vs ha
      split at hh
      · rename_i htl
        cases hh
        have k := k ad H locs (fun _ _ => rfl) (Nat.le_refl _) hW hS (zwS_cons trivial (zwS_tail hws))
        rw [e0, e1] at k
        unfold zarr at ha
        split at ha
        · rename_i hk0
          subst hk0
          cases ha
          obtain ⟨⟨xf, hX, -⟩, hb0, -⟩ := ho
          exact va_slen hx hb hX (Nat.lt_of_lt_of_le hb0 hB) (by show ¬ B ≤ ad 0; omega) hS hd k
        · split at ha
          · rename_i hk1 hk2
            obtain ⟨-, hT, -⟩ := ho.2.2.1 _ _ _ ha
            have e2 : k0 - 1 + 1 = k0 := Nat.sub_add_cancel (Nat.pos_of_ne_zero (by assumption))
            rw [e2] at hT
            exact va_tlen hx hb hT hS rfl hd k
          · split at ha
            · rename_i hk1 hk2 _ a9 hk3
              cases ha
              have hwn : zown h k0 = some (.inl (t, vs)) := by unfold zown; rw [if_neg hk2]; exact hk3
              obtain ⟨h2, -, -⟩ := zown_at hwn (ad := ad) (tys := tys)
              exact va_alen hx hb hW.2.2.1 hW.1 (k0 - zK0) t h2 (ztys hty (List.getElem?_eq_getElem htl)) rfl hd k
            · cases ha
      · cases hh
    · cases hh
  -- iaload
  · split at hh
    · rename_i j k0 r _ vs ha
      split at hh
      · cases hh
      · rename_i hj0
        split at hh
        · rename_i v hv
          cases hh
          have k := k ad H locs (fun _ _ => rfl) (Nat.le_refl _) hW hS (zwS_cons trivial (zwS_tail (zwS_tail hws)))
          rw [e0, e1] at k
          unfold zarr at ha
          split at ha
          · rename_i hk0
            subst hk0
            cases ha
            obtain ⟨⟨xf, hX, hxs⟩, hb0, -⟩ := ho
            have h9 := hxs _ (zlt_of hv)
            rw [hv] at h9
            cases h9
            exact va_sld hx hb hX (Nat.lt_of_lt_of_le hb0 hB) (by show ¬ B ≤ ad 0; omega) hS (zvp_in hj0 (zlt_of hv)) hd k
          · split at ha
            · rename_i hk1 hk2
              obtain ⟨-, hT, -⟩ := ho.2.2.1 _ _ _ ha
              have e2 : k0 - 1 + 1 = k0 := Nat.sub_add_cancel (Nat.pos_of_ne_zero (by assumption))
              rw [e2] at hT
              exact va_ti hx hb hT hS (zvp_in hj0 (zlt_of hv)) (zgd_of hv) hd k
            · split at ha
              · rename_i hk1 hk2 _ a9 hk3
                cases ha
                have hwn : zown h k0 = some (.inl (0, vs)) := by unfold zown; rw [if_neg hk2]; exact hk3
                obtain ⟨f, h2, h3, h4⟩ := za_ldI (ad := ad) (by decide) (by decide) hty (by rfl : z_aty[0]? = some .int) hW hwn hv
                exact va_iald hx hb hW.2.2.1 hW.1 (k0 - zK0) 0 h2 h3 (zvp_in hj0 (zlt_of hv)) hd (by rw [h4]; exact k)
              · cases ha
        · cases hh
    · cases hh
  -- baload
  · split at hh
    · rename_i j k0 r _ vs hwn
      split at hh
      · cases hh
      · rename_i hj0
        split at hh
        · rename_i v hv
          cases hh
          have k := k ad H locs (fun _ _ => rfl) (Nat.le_refl _) hW hS (zwS_cons trivial (zwS_tail (zwS_tail hws)))
          rw [e0, e1] at k
          obtain ⟨f, h2, h3, h4⟩ := za_ldI (ad := ad) (by decide) (by decide) hty (by rfl : z_aty[2]? = some .byte) hW hwn hv
          exact va_bald hx hb hW.2.2.1 hW.1 (k0 - zK0) 2 h2 h3 (zvp_in hj0 (zlt_of hv)) hd (by rw [h4]; exact k)
        · cases hh
    · rename_i j k0 r _ vs hwn
      split at hh
      · cases hh
      · rename_i hj0
        split at hh
        · rename_i v hv
          cases hh
          have k := k ad H locs (fun _ _ => rfl) (Nat.le_refl _) hW hS (zwS_cons trivial (zwS_tail (zwS_tail hws)))
          rw [e0, e1] at k
          obtain ⟨f, h2, h3, h4⟩ := za_ldI (ad := ad) (by decide) (by decide) hty (by rfl : z_aty[4]? = some .boolean) hW hwn hv
          exact va_zald hx hb hW.2.2.1 hW.1 (k0 - zK0) 4 h2 h3 (zvp_in hj0 (zlt_of hv)) hd (by rw [h4]; exact k)
        · cases hh
    · cases hh
  -- saload
  · split at hh
    · rename_i j k0 r _ vs hwn
      split at hh
      · cases hh
      · rename_i hj0
        split at hh
        · rename_i v hv
          cases hh
          have k := k ad H locs (fun _ _ => rfl) (Nat.le_refl _) hW hS (zwS_cons trivial (zwS_tail (zwS_tail hws)))
          rw [e0, e1] at k
          obtain ⟨f, h2, h3, h4⟩ := za_ldI (ad := ad) (by decide) (by decide) hty (by rfl : z_aty[3]? = some .short) hW hwn hv
          exact va_sald hx hb hW.2.2.1 hW.1 (k0 - zK0) 3 h2 h3 (zvp_in hj0 (zlt_of hv)) hd (by rw [h4]; exact k)
        · cases hh
    · cases hh
  -- laload
  · split at hh
    · rename_i j k0 r _ vs hwn
      split at hh
      · cases hh
      · rename_i hj0
        split at hh
        · rename_i v hv
          cases hh
          have k := k ad H locs (fun _ _ => rfl) (Nat.le_refl _) hW hS (zwS_cons trivial (zwS_tail (zwS_tail hws)))
          rw [e0, e1] at k
          obtain ⟨h2, -, -⟩ := zown_at hwn (ad := ad) (tys := tys)
          have h4 : zvL (vs.getD j.toNatClampNeg .null) = v := by rw [zgd_of hv]; rfl
          exact va_lald (f := fun j => zvL (vs.getD j .null)) hx hb hW.2.2.1 hW.1 (k0 - zK0) 1 h2 (ztys hty (by rfl : z_aty[1]? = some .long)) (zvp_in hj0 (zlt_of hv)) hd (by rw [h4]; exact k)
        · cases hh
    · cases hh
  -- aaload
  · split at hh
    · rename_i j k0 r _ t vs hwn
      split at hh
      · cases hh
      · rename_i hcn
        have hj0 : ¬ j < 0 := fun q => hcn (Or.inl q)
        have ht5 : ¬ t < 5 := fun q => hcn (Or.inr (Or.inl q))
        have htl : t < z_aty.length := Nat.lt_of_not_le (fun q => hcn (Or.inr (Or.inr q)))
        obtain ⟨h2, -, -⟩ := zown_at hwn (ad := ad) (tys := tys)
        have h2 : (zws ad tys h.1)[k0 - zK0]? = some (ad k0, .inl (zty tys t, zcA ad t vs)) := h2
        rw [zcA_R ht5] at h2
        have hzt := z_ato t htl ht5
        split at hh
        · rename_i v hv
          cases hh
          have k := k ad H locs (fun _ _ => rfl) (Nat.le_refl _) hW hS (zwS_cons (zwv_in (zown_wf hwn hW.2.2.2.1) hv) (zwS_tail (zwS_tail hws)))
          rw [e0, e1] at k
          have h4 : zvR ad (vs.getD j.toNatClampNeg .null) = some (ad v) := by rw [zgd_of hv]; rfl
          exact va_aldq (f := fun j => zvR ad (vs.getD j .null)) hx hb hW.2.2.1 hW.1 (k0 - zK0) t h2 (ztys hty hzt) (zvp_in hj0 (zlt_of hv)) hd (by rw [h4]; exact k)
        · rename_i hv
          cases hh
          have k := k ad H locs (fun _ _ => rfl) (Nat.le_refl _) hW hS (zwS_cons trivial (zwS_tail (zwS_tail hws)))
          rw [e0, e1] at k
          have h4 : zvR ad (vs.getD j.toNatClampNeg .null) = none := by rw [zgd_of hv]; rfl
          exact va_aldq (f := fun j => zvR ad (vs.getD j .null)) hx hb hW.2.2.1 hW.1 (k0 - zK0) t h2 (ztys hty hzt) (zvp_in hj0 (zlt_of hv)) hd (by rw [h4]; exact k)
        · cases hh
    · cases hh
  -- iastore
  · split at hh
    · rename_i v j k0 r _ vs hwn
      split at hh
      · cases hh
      · rename_i hcn
        have hj0 : ¬ j < 0 := fun q => hcn (Or.inl q)
        have hjl : j.toNatClampNeg < vs.length := Nat.lt_of_not_le (fun q => hcn (Or.inr q))
        cases hh
        obtain ⟨h2, -, -⟩ := zown_at hwn (ad := ad) (tys := tys)
        refine va_iast (f := fun j => zvI (vs.getD j .null)) hx hb hW.2.2.1 hW.1 hW.2.1 hS (k0 - zK0) 0 h2 (ztys hty (by rfl : z_aty[0]? = some .int)) (zvp_in hj0 hjl) hd (fun H1 l1 q1 q2 q3 => ?_)
        have k := k ad H1 l1 (fun _ _ => rfl) (by show _ ≤ (h.1.set _ _).length; rw [List.length_set]; exact Nat.le_refl _) (zW_stI (by decide) (by decide) hW hwn hjl q1 q2) q3 (by rw [zput_len]; exact zwS_tail (zwS_tail (zwS_tail hws)))
        have k : W p l e R s m args below meth c H1 l1 (cells + (h.2.1 - h.2.1)) (slots + (h.2.2 - h.2.2)) Q _ := k
        rw [e0, e1] at k
        exact k
    · cases hh
  -- bastore
  · split at hh
    · rename_i v j k0 r _ vs hwn
      split at hh
      · cases hh
      · rename_i hcn
        have hj0 : ¬ j < 0 := fun q => hcn (Or.inl q)
        have hjl : j.toNatClampNeg < vs.length := Nat.lt_of_not_le (fun q => hcn (Or.inr q))
        cases hh
        obtain ⟨h2, -, -⟩ := zown_at hwn (ad := ad) (tys := tys)
        refine va_bast (f := fun j => zvI (vs.getD j .null)) hx hb hW.2.2.1 hW.1 hW.2.1 hS (k0 - zK0) 2 h2 (ztys hty (by rfl : z_aty[2]? = some .byte)) (zvp_in hj0 hjl) hd (fun H1 l1 q1 q2 q3 => ?_)
        have k := k ad H1 l1 (fun _ _ => rfl) (by show _ ≤ (h.1.set _ _).length; rw [List.length_set]; exact Nat.le_refl _) (zW_stI (by decide) (by decide) hW hwn hjl q1 q2) q3 (by rw [zput_len]; exact zwS_tail (zwS_tail (zwS_tail hws)))
        have k : W p l e R s m args below meth c H1 l1 (cells + (h.2.1 - h.2.1)) (slots + (h.2.2 - h.2.2)) Q _ := k
        rw [e0, e1] at k
        exact k
    · rename_i v j k0 r _ vs hwn
      split at hh
      · cases hh
      · rename_i hcn
        have hj0 : ¬ j < 0 := fun q => hcn (Or.inl q)
        have hjl : j.toNatClampNeg < vs.length := Nat.lt_of_not_le (fun q => hcn (Or.inr q))
        cases hh
        obtain ⟨h2, -, -⟩ := zown_at hwn (ad := ad) (tys := tys)
        refine va_zast (f := fun j => zvI (vs.getD j .null)) hx hb hW.2.2.1 hW.1 hW.2.1 hS (k0 - zK0) 4 h2 (ztys hty (by rfl : z_aty[4]? = some .boolean)) (zvp_in hj0 hjl) hd (fun H1 l1 q1 q2 q3 => ?_)
        have k := k ad H1 l1 (fun _ _ => rfl) (by show _ ≤ (h.1.set _ _).length; rw [List.length_set]; exact Nat.le_refl _) (zW_stI (by decide) (by decide) hW hwn hjl q1 q2) q3 (by rw [zput_len]; exact zwS_tail (zwS_tail (zwS_tail hws)))
        have k : W p l e R s m args below meth c H1 l1 (cells + (h.2.1 - h.2.1)) (slots + (h.2.2 - h.2.2)) Q _ := k
        rw [e0, e1] at k
        exact k
    · cases hh
  -- sastore
  · split at hh
    · rename_i v j k0 r _ vs hwn
      split at hh
      · cases hh
      · rename_i hcn
        have hj0 : ¬ j < 0 := fun q => hcn (Or.inl q)
        have hjl : j.toNatClampNeg < vs.length := Nat.lt_of_not_le (fun q => hcn (Or.inr q))
        cases hh
        obtain ⟨h2, -, -⟩ := zown_at hwn (ad := ad) (tys := tys)
        refine va_sast (f := fun j => zvI (vs.getD j .null)) hx hb hW.2.2.1 hW.1 hW.2.1 hS (k0 - zK0) 3 h2 (ztys hty (by rfl : z_aty[3]? = some .short)) (zvp_in hj0 hjl) hd (fun H1 l1 q1 q2 q3 => ?_)
        have k := k ad H1 l1 (fun _ _ => rfl) (by show _ ≤ (h.1.set _ _).length; rw [List.length_set]; exact Nat.le_refl _) (zW_stI (by decide) (by decide) hW hwn hjl q1 q2) q3 (by rw [zput_len]; exact zwS_tail (zwS_tail (zwS_tail hws)))
        have k : W p l e R s m args below meth c H1 l1 (cells + (h.2.1 - h.2.1)) (slots + (h.2.2 - h.2.2)) Q _ := k
        rw [e0, e1] at k
        exact k
    · cases hh
  -- lastore
  · split at hh
    · rename_i v j k0 r _ vs hwn
      split at hh
      · cases hh
      · rename_i hcn
        have hj0 : ¬ j < 0 := fun q => hcn (Or.inl q)
        have hjl : j.toNatClampNeg < vs.length := Nat.lt_of_not_le (fun q => hcn (Or.inr q))
        cases hh
        obtain ⟨h2, -, -⟩ := zown_at hwn (ad := ad) (tys := tys)
        refine va_last (f := fun j => zvL (vs.getD j .null)) hx hb hW.2.2.1 hW.1 hW.2.1 hS (k0 - zK0) 1 h2 (ztys hty (by rfl : z_aty[1]? = some .long)) (zvp_in hj0 hjl) hd (fun H1 l1 q1 q2 q3 => ?_)
        have k := k ad H1 l1 (fun _ _ => rfl) (by show _ ≤ (h.1.set _ _).length; rw [List.length_set]; exact Nat.le_refl _) (zW_stL hW hwn hjl q1 q2) q3 (by rw [zput_len]; exact zwS_tail (zwS_tail (zwS_tail hws)))
        have k : W p l e R s m args below meth c H1 l1 (cells + (h.2.1 - h.2.1)) (slots + (h.2.2 - h.2.2)) Q _ := k
        rw [e0, e1] at k
        exact k
    · cases hh
  -- aastore of null
  · split at hh
    · rename_i j k0 r _ t vs hwn
      split at hh
      · cases hh
      · rename_i hcn
        have hj0 : ¬ j < 0 := fun q => hcn (Or.inl q)
        have ht5 : ¬ t < 5 := fun q => hcn (Or.inr (Or.inl q))
        have htl : t < z_aty.length := Nat.lt_of_not_le (fun q => hcn (Or.inr (Or.inr (Or.inl q))))
        have hjl : j.toNatClampNeg < vs.length := Nat.lt_of_not_le (fun q => hcn (Or.inr (Or.inr (Or.inr q))))
        cases hh
        obtain ⟨h2, -, -⟩ := zown_at hwn (ad := ad) (tys := tys)
        have h2 : (zws ad tys h.1)[k0 - zK0]? = some (ad k0, .inl (zty tys t, zcA ad t vs)) := h2
        rw [zcA_R ht5] at h2
        refine va_astqN (f := fun j => zvR ad (vs.getD j .null)) hx hb hW.2.2.1 hW.1 hW.2.1 hS (k0 - zK0) t h2 (ztys hty (z_ato t htl ht5)) (zvp_in hj0 hjl) hd (fun H1 l1 q1 q2 q3 => ?_)
        have k := k ad H1 l1 (fun _ _ => rfl) (by show _ ≤ (h.1.set _ _).length; rw [List.length_set]; exact Nat.le_refl _) (zW_stR (v := .null) ht5 hW hwn hjl rfl trivial q1 q2) q3 (by rw [zput_len]; exact zwS_tail (zwS_tail (zwS_tail hws)))
        have k : W p l e R s m args below meth c H1 l1 (cells + (h.2.1 - h.2.1)) (slots + (h.2.2 - h.2.2)) Q _ := k
        rw [e0, e1] at k
        exact k
    · cases hh
  -- aastore
  · split at hh
    · rename_i v j k0 r _ _ t vs c9 fs9 hwn hwv
      split at hh
      · cases hh
      · rename_i hcn
        have hj0 : ¬ j < 0 := fun q => hcn (Or.inl q)
        have ht5 : ¬ t < 5 := fun q => hcn (Or.inr (Or.inl q))
        have htl : t < z_aty.length := Nat.lt_of_not_le (fun q => hcn (Or.inr (Or.inr (Or.inl q))))
        have hjl : j.toNatClampNeg < vs.length := Nat.lt_of_not_le (fun q => hcn (Or.inr (Or.inr (Or.inr (Or.inl q)))))
        have hcl : z_acl.getD t 0 = c9 := Decidable.byContradiction (fun q => hcn (Or.inr (Or.inr (Or.inr (Or.inr q)))))
        cases hh
        obtain ⟨h2, -, -⟩ := zown_at hwn (ad := ad) (tys := tys)
        obtain ⟨h3, -, -⟩ := zown_at hwv (ad := ad) (tys := tys)
        have h2 : (zws ad tys h.1)[k0 - zK0]? = some (ad k0, .inl (zty tys t, zcA ad t vs)) := h2
        rw [zcA_R ht5] at h2
        have hc13 := z_acl13 t htl
        rw [hcl] at hc13
        have hzt := z_ato t htl ht5
        rw [hcl] at hzt
        refine va_astq (r := (zCn c9, zTt c9, zNn c9)) (f := fun j => zvR ad (vs.getD j .null)) hx hb hW.2.2.1 hW.1 hW.2.1 hS (k0 - zK0) t (v - zK0) c9 h2 (ztys hty hzt) h3 (z_clq c9 hc13) (zvp_in hj0 hjl) hd (fun H1 l1 q1 q2 q3 => ?_)
        have k := k ad H1 l1 (fun _ _ => rfl) (by show _ ≤ (h.1.set _ _).length; rw [List.length_set]; exact Nat.le_refl _) (zW_stR (v := .ref v) ht5 hW hwn hjl rfl (hws _ List.mem_cons_self) q1 q2) q3 (by rw [zput_len]; exact zwS_tail (zwS_tail (zwS_tail hws)))
        have k : W p l e R s m args below meth c H1 l1 (cells + (h.2.1 - h.2.1)) (slots + (h.2.2 - h.2.2)) Q _ := k
        rw [e0, e1] at k
        exact k
    · cases hh
  -- newarray
  · rename_i ty n r
    split at hh
    · rename_i a v hna
      split at hh
      · cases hh
      · rename_i hcn
        have hn0 : ¬ n < 0 := fun q => hcn (Or.inl q)
        have hnl : n.toNatClampNeg ≤ 65536 := Nat.le_of_not_lt (fun q => hcn (Or.inr q))
        cases hh
        have ec : cells + ((zadd h (.inl (a, List.replicate n.toNatClampNeg v)) n.toNatClampNeg).2.1 - h.2.1) = cells + 1 := by show cells + (h.2.1 + 1 - h.2.1) = _; omega
        have es : slots + ((zadd h (.inl (a, List.replicate n.toNatClampNeg v)) n.toNatClampNeg).2.2 - h.2.2) = slots + n.toNatClampNeg := by show slots + (h.2.2 + _ - h.2.2) = _; omega
        rw [ec] at hc k
        rw [es] at hsl k
        obtain ⟨fty, hz, hcb, hce, hvw⟩ : ∃ fty, newarray.typeOf ty = fty ∧ n.toNatClampNeg * componentBytes fty ≤ 536870912 ∧ (z_aty[a]? = some fty ∧ ∀ (ad9 : Nat → Nat) (cA : ClassId), vp_cell cA (zcA ad9 a (List.replicate n.toNatClampNeg v)) = arrV cA n.toNatClampNeg (fun _ => defaultValue fty)) ∧ ∀ n9, zwv n9 v := by
          unfold znat at hna
          split at hna <;> cases hna
          · refine ⟨.int, rfl, by show _ * 4 ≤ _; omega, ⟨rfl, fun ad9 cA => ?_⟩, fun _ => trivial⟩
            rw [zcA_I (by decide) (by decide), List.length_replicate, zrepI]; rfl
          · refine ⟨.long, rfl, by show _ * 8 ≤ _; omega, ⟨rfl, fun ad9 cA => ?_⟩, fun _ => trivial⟩
            rw [zcA_L, List.length_replicate, zrepL]; rfl
          · refine ⟨.byte, rfl, by show _ * 1 ≤ _; omega, ⟨rfl, fun ad9 cA => ?_⟩, fun _ => trivial⟩
            rw [zcA_I (by decide) (by decide), List.length_replicate, zrepI]; rfl
          · refine ⟨.short, rfl, by show _ * 2 ≤ _; omega, ⟨rfl, fun ad9 cA => ?_⟩, fun _ => trivial⟩
            rw [zcA_I (by decide) (by decide), List.length_replicate, zrepI]; rfl
          · refine ⟨.boolean, rfl, by show _ * 1 ≤ _; omega, ⟨rfl, fun ad9 cA => ?_⟩, fun _ => trivial⟩
            rw [zcA_I (by decide) (by decide), List.length_replicate, zrepI]; rfl
        have harr : (Cond.arrayClass (newarray.typeOf ty)).before args s = true := hts _ (zna_w hna)
        have hzt := ztys hty hce.1
        refine va_newa (a0 := zcA ad a (List.replicate n.toNatClampNeg v)) hx hb harr hz hW.2.2.1 hW.1 hW.2.1 hS hA (hce.2 ad) hn0 rfl hcb hc hsl hd (fun q cA H1 q1 q2 q3 q4 => ?_)
        have hcA := zty_new hzt q1
        subst hcA
        have hwf : zwE (h.1.length + zK0) (.inl (a, List.replicate n.toNatClampNeg v)) := zrep_wf (hvw _)
        have e9 : (Sum.inl (zty tys a, zcA ad a (List.replicate n.toNatClampNeg v)) : va_E) = zcE (zad ad (h.1.length + zK0) q) tys (.inl (a, List.replicate n.toNatClampNeg v)) := (zcE_ad (fun k hk => zad_old hk) hwf).symm
        rw [e9] at q2 q3
        have k := k _ H1 locs (fun j hj => zad_old hj) (by show _ ≤ (h.1 ++ [_]).length; simp) (zW_push hW hwf q2 q3 (zpush_size q2 q3)) q4 (zwS_cons zref_wf (zwS_mono (by rw [zadd_len]; omega) (zwS_tail hws)))
        rw [zst_new (zwS_tail hws)] at k
        exact k
    · cases hh
  -- anewarray
  · rename_i x n r
    split at hh
    · rename_i a b hlk
      split at hh
      · cases hh
      · rename_i hcn
        have hn0 : ¬ n < 0 := fun q => hcn (Or.inl q)
        have hnl : n.toNatClampNeg ≤ 65536 := Nat.le_of_not_lt (fun q => hcn (Or.inr q))
        cases hh
        have ec : cells + ((zadd h (.inl (a, List.replicate n.toNatClampNeg .null)) n.toNatClampNeg).2.1 - h.2.1) = cells + 1 := by show cells + (h.2.1 + 1 - h.2.1) = _; omega
        have es : slots + ((zadd h (.inl (a, List.replicate n.toNatClampNeg .null)) n.toNatClampNeg).2.2 - h.2.2) = slots + n.toNatClampNeg := by show slots + (h.2.2 + _ - h.2.2) = _; omega
        rw [ec] at hc k
        rw [es] at hsl k
        have hf := zlf_of hlk
        have hf : 5 ≤ a ∧ a < z_aty.length ∧ z_acl.getD a 0 < 13 := of_decide_eq_true hf
        have ha5 : ¬ a < 5 := by omega
        have hlt := zlt hts hlk
        have hk1 := hlt _ List.mem_cons_self
        have hk2 := hlt _ (List.mem_cons_of_mem _ List.mem_cons_self)
        rw [Nat.add_sub_cancel] at hk1
        have hzt := ztys hty (z_ato a hf.2.1 ha5)
        refine va_newq hx hb hown hk1 (va_AO.of hk2) hW.2.2.1 hW.1 hW.2.1 hS hA hn0 rfl (by omega) hc hsl hd (fun q cA H1 q1 q2 q3 q4 => ?_)
        have hcA := zty_new hzt q1
        subst hcA
        have hwf : zwE (h.1.length + zK0) (.inl (a, List.replicate n.toNatClampNeg .null)) := zrep_wf trivial
        have e9 : (Sum.inl (zty tys a, n.toNatClampNeg, .inr (.inr (.inr (.inr (fun _ => none))))) : va_E) = zcE (zad ad (h.1.length + zK0) q) tys (.inl (a, List.replicate n.toNatClampNeg .null)) := by
          show _ = Sum.inl (zty tys a, zcA (zad ad (h.1.length + zK0) q) a (List.replicate n.toNatClampNeg .null))
          rw [zcA_R ha5, List.length_replicate, zrepR]
        rw [e9] at q2 q3
        have k := k _ H1 locs (fun j hj => zad_old hj) (by show _ ≤ (h.1 ++ [_]).length; simp) (zW_push hW hwf q2 q3 (zpush_size q2 q3)) q4 (zwS_cons zref_wf (zwS_mono (by rw [zadd_len]; omega) (zwS_tail hws)))
        rw [zst_new (zwS_tail hws)] at k
        exact k
    · cases hh
  -- new
  · rename_i x
    split at hh
    · rename_i a b hlk
      split at hh
      · rename_i fs hfs
        cases hh
        have hf := zlf_of hlk
        have hf : a < 13 := of_decide_eq_true hf
        have hgd : z_def.getD a [] = fs := by rw [List.getD_eq_getElem?_getD, hfs]; rfl
        obtain ⟨hd1, hd2⟩ := zdf_ok a hf
        rw [hgd] at hd1 hd2
        have ec : cells + ((zadd h (.inr (a, fs)) fs.length).2.1 - h.2.1) = cells + 1 := by show cells + (h.2.1 + 1 - h.2.1) = _; omega
        have es : slots + ((zadd h (.inr (a, fs)) fs.length).2.2 - h.2.2) = slots + zNn a := by show slots + (h.2.2 + _ - h.2.2) = _; omega
        rw [ec] at hc k
        rw [es] at hsl k
        have hlt := zlt hts hlk
        have hnr := List.all_eq_true.mp zdf_nr fs (List.mem_of_getElem? hfs)
        have hid : ∀ (ad9 : Nat → Nat), fs.map (zcv ad9) = fs := fun ad9 => by
          rw [List.map_congr_left (g := id) (fun v hv => by have h8 := List.all_eq_true.mp hnr v hv; cases v <;> first | rfl | cases h8), List.map_id]
        have hwf : zwE (h.1.length + zK0) (.inr (a, fs)) := fun v hv => by have h8 := List.all_eq_true.mp hnr v hv; cases v <;> first | trivial | cases h8
        refine va_new (D := D) (ci := a) (fs := fs) hx hb hts (zuw hf) (zFt a) (zft_ok a hf) hown (hlt _ List.mem_cons_self) (hlt _ (List.mem_cons_of_mem _ List.mem_cons_self)) (hlt _ (List.mem_cons_of_mem _ (List.mem_cons_of_mem _ List.mem_cons_self))) hW.2.2.1 hW.1 hW.2.1 hS hA (z_clq a hf) hd2 hc hsl hd (fun q H1 q2 q3 q4 => ?_)
        have e9 : (Sum.inr (a, fs) : va_E) = zcE (zad ad (h.1.length + zK0) q) tys (.inr (a, fs)) := by
          show _ = Sum.inr (a, fs.map (zcv _))
          rw [hid]
        rw [e9] at q2 q3
        have k := k _ H1 locs (fun j hj => zad_old hj) (by show _ ≤ (h.1 ++ [_]).length; simp) (zW_push hW hwf q2 q3 (zpush_size q2 q3)) q4 (zwS_cons zref_wf (zwS_mono (by rw [zadd_len]; omega) hws))
        rw [zst_new hws] at k
        exact k
      · cases hh
    · cases hh
  -- Math.max
  · rename_i x b a r
    split at hh
    · rename_i j b9 hlk
      split at hh
      · rename_i hcj
        obtain ⟨rfl, hcat⟩ := hcj
        cases hh
        have hlt := zlt hts hlk
        have k := k ad H locs (fun _ _ => rfl) (Nat.le_refl _) hW hS (zwS_cons trivial (zwS_tail (zwS_tail hws)))
        rw [e0, e1] at k
        have hm : ((r.map (zcv ad)).map fun v => v.category) = (r.map fun v => v.category) := by rw [List.map_map]; exact List.map_congr_left (fun v _ => zcv_cat ad v)
        refine va_mmax (rest := r.map (zcv ad)) hx hb hsz.symm hown (hlt _ List.mem_cons_self) (hlt _ (List.mem_cons_of_mem _ List.mem_cons_self)) (hlt _ (List.mem_cons_of_mem _ (List.mem_cons_of_mem _ List.mem_cons_self))) (hts _ zmx_w) hRf (by rw [hm]; omega) (by omega) (by omega) hd k
      · cases hh
    · cases hh
  -- Object.<init>
  · rename_i x k0 r
    split at hh
    · rename_i a b hlk
      split at hh
      · rename_i hcat
        cases hh
        have hlt := zlt hts hlk
        have k := k ad H locs (fun _ _ => rfl) (Nat.le_refl _) hW hS (zwS_tail hws)
        rw [e0, e1] at k
        have hm : ((st'.map (zcv ad)).map fun v => v.category) = (st'.map fun v => v.category) := by rw [List.map_map]; exact List.map_congr_left (fun v _ => zcv_cat ad v)
        refine W.objInit (rest := st'.map (zcv ad)) hx hb hown (hlt _ List.mem_cons_self) (hlt _ (List.mem_cons_of_mem _ List.mem_cons_self)) (hts _ zob_w) rfl hsz rfl hd hRf (by show 2 * 0 + _ + 12 ≤ _; rw [hm]; omega) k
      · cases hh
    · cases hh
end ZF
