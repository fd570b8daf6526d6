/-! RULES FOR TYPED CODE: references as Option Nat, locals by what zgetl says of them; the predicates that a method's text is turned into (wp.py), and why they suffice -/
abbrev zP : Type := Option Nat
def zo (p : zP) : Value := match p with
  | none => .null
  | some k => .ref k
theorem zo_c (p : zP) : (zo p).category = 1 := by cases p <;> rfl
theorem zci (x : Int32) : (Value.int x).category = 1 := rfl
theorem zcJ (x : Int64) : (Value.long x).category = 2 := rfl
theorem zcr (x : Nat) : (Value.ref x).category = 1 := rfl
theorem zcn : Value.null.category = 1 := rfl
theorem zgl_s1 {lv lv' : List (Nat × Value)} {k : Nat} {v : Value} (e : lv' = zst1 lv k v) : zgetl lv' k = some v := by
  subst e
  unfold zgetl zst1
  simp
theorem zgl_s2 {lv lv' : List (Nat × Value)} {k : Nat} {v : Value} (e : lv' = zst2 lv k v) : zgetl lv' k = some v := by
  subst e
  unfold zgetl zst2
  simp
theorem zfind_filter {lv : List (Nat × Value)} {p q : Nat × Value → Bool} {a : Nat × Value} (h : lv.find? q = some a) (ha : p a = true) : (lv.filter p).find? q = some a := by
  induction lv with
  | nil => cases h
  | cons b l ih =>
    rw [List.find?_cons] at h
    cases hq : q b with
    | true =>
      rw [hq] at h
      obtain rfl : b = a := Option.some.inj h
      rw [List.filter_cons, if_pos ha, List.find?_cons, hq]
    | false =>
      rw [hq] at h
      rw [List.filter_cons]
      split
      · rw [List.find?_cons, hq]; exact ih h
      · exact ih h
theorem zgl_find {lv : List (Nat × Value)} {j : Nat} {w : Value} (g : zgetl lv j = some w) : lv.find? (fun q => q.1 == j) = some (j, w) := by
  unfold zgetl at g
  cases hf : lv.find? (fun q => q.1 == j) with
  | none => rw [hf] at g; cases g
  | some a =>
    rw [hf] at g
    have h1 := List.find?_some hf
    obtain ⟨a1, a2⟩ := a
    have e1 : a1 = j := by simpa using h1
    have e2 : a2 = w := Option.some.inj g
    rw [e1, e2]
theorem zgl_n1 {lv lv' : List (Nat × Value)} {k j : Nat} {v w : Value} (e : lv' = zst1 lv k v) (g : zgetl lv j = some w) (hj : (j == k) = false) (hc : w.category = 1 ∨ (j + 1 == k) = false) : zgetl lv' j = some w := by
  subst e
  unfold zgetl zst1
  rw [List.find?_cons]
  have h0 : ((k == j) : Bool) = false := by rw [← hj]; exact Bool.beq_comm
  rw [show ((k, v).1 == j) = false from h0]
  rw [zfind_filter (zgl_find g) (by rcases hc with hc | hc <;> simp_all)]
  rfl
theorem zgl_n2 {lv lv' : List (Nat × Value)} {k j : Nat} {v w : Value} (e : lv' = zst2 lv k v) (g : zgetl lv j = some w) (hj : (j == k) = false) (hj2 : (j == k + 1) = false) (hc : w.category = 1 ∨ (j + 1 == k) = false) : zgetl lv' j = some w := by
  subst e
  unfold zgetl zst2
  rw [List.find?_cons]
  have h0 : ((k == j) : Bool) = false := by rw [← hj]; exact Bool.beq_comm
  rw [show ((k, v).1 == j) = false from h0]
  rw [zfind_filter (zgl_find g) (by rcases hc with hc | hc <;> simp_all)]
  rfl
/-- the locals of a handler: local k is gone -/
def zdrop1 (lv : List (Nat × Value)) (k : Nat) : List (Nat × Value) := lv.filter (fun q => !(q.1 == k) && !(q.1 + 1 == k && q.2.category == 2))
theorem zgl_d {lv lv' : List (Nat × Value)} {k j : Nat} {w : Value} (e : lv' = zdrop1 lv k) (g : zgetl lv j = some w) (hj : (j == k) = false) (hc : w.category = 1 ∨ (j + 1 == k) = false) : zgetl lv' j = some w := by
  subst e
  unfold zgetl zdrop1
  rw [zfind_filter (zgl_find g) (by rcases hc with hc | hc <;> simp_all)]
  rfl
section ZR
variable {xs : List Value} {d mi pc len nL : Nat} {lv : List (Nat × Value)} {st r : List Value} {h : zH} {Q : zO → zH → Prop}
theorem zR_l {i : ClassFile.Instr} {lv' : List (Nat × Value)} {st' : List Value} (hf : zfetch mi pc = some (i, len)) (h0 : zpure i st = none) (h1 : zbr pc i st = none) (hp : ∀ nL, (z_meth[mi]?).map (fun m => m.2.2.1) = some nL → zloc nL i lv st = some (lv', st')) (k : zG xs d (mi, pc + len, lv', st') h Q) : zG xs d (mi, pc, lv, st) h Q := by
  obtain ⟨mt, hm⟩ := zf_m hf
  exact zG_l (nL := mt.2.2.1) hf (by rw [hm]; rfl) h0 h1 (hp _ (by rw [hm]; rfl)) k
theorem zR_il {k : Nat} {x : Int32} (hf : zfetch mi pc = some (.iload k, len)) (g : zgetl lv k = some (.int x)) (kk : zG xs d (mi, pc + len, lv, .int x :: st) h Q) : zG xs d (mi, pc, lv, st) h Q :=
  zR_l hf rfl rfl (fun nL _ => by unfold zloc; dsimp only; rw [g]) kk
theorem zR_iln {k : Fin 4} {x : Int32} (hf : zfetch mi pc = some (.iload_n k, len)) (g : zgetl lv k.val = some (.int x)) (kk : zG xs d (mi, pc + len, lv, .int x :: st) h Q) : zG xs d (mi, pc, lv, st) h Q :=
  zR_l hf rfl rfl (fun nL _ => by unfold zloc; dsimp only; rw [g]) kk
theorem zR_ll {k : Nat} {x : Int64} (hf : zfetch mi pc = some (.lload k, len)) (g : zgetl lv k = some (.long x)) (kk : zG xs d (mi, pc + len, lv, .long x :: st) h Q) : zG xs d (mi, pc, lv, st) h Q :=
  zR_l hf rfl rfl (fun nL _ => by unfold zloc; dsimp only; rw [g]) kk
theorem zR_lln {k : Fin 4} {x : Int64} (hf : zfetch mi pc = some (.lload_n k, len)) (g : zgetl lv k.val = some (.long x)) (kk : zG xs d (mi, pc + len, lv, .long x :: st) h Q) : zG xs d (mi, pc, lv, st) h Q :=
  zR_l hf rfl rfl (fun nL _ => by unfold zloc; dsimp only; rw [g]) kk
theorem zR_al {k : Nat} {p : zP} (hf : zfetch mi pc = some (.aload k, len)) (g : zgetl lv k = some (zo p)) (kk : zG xs d (mi, pc + len, lv, zo p :: st) h Q) : zG xs d (mi, pc, lv, st) h Q :=
  zR_l hf rfl rfl (fun nL _ => by unfold zloc; dsimp only; rw [g]; cases p <;> rfl) kk
theorem zR_aln {k : Fin 4} {p : zP} (hf : zfetch mi pc = some (.aload_n k, len)) (g : zgetl lv k.val = some (zo p)) (kk : zG xs d (mi, pc + len, lv, zo p :: st) h Q) : zG xs d (mi, pc, lv, st) h Q :=
  zR_l hf rfl rfl (fun nL _ => by unfold zloc; dsimp only; rw [g]; cases p <;> rfl) kk
theorem zR_is {k : Nat} {x : Int32} (hf : zfetch mi pc = some (.istore k, len)) (hn : (z_meth[mi]?).map (fun m => m.2.2.1) = some nL) (hk : k < nL) (kk : ∀ lv', lv' = zst1 lv k (.int x) → zG xs d (mi, pc + len, lv', st) h Q) : zG xs d (mi, pc, lv, .int x :: st) h Q :=
  zR_l hf rfl rfl (fun n e => by rw [hn] at e; obtain rfl : nL = n := Option.some.inj e; unfold zloc; dsimp only; rw [if_pos hk]) (kk _ rfl)
theorem zR_isn {k : Fin 4} {x : Int32} (hf : zfetch mi pc = some (.istore_n k, len)) (hn : (z_meth[mi]?).map (fun m => m.2.2.1) = some nL) (hk : k.val < nL) (kk : ∀ lv', lv' = zst1 lv k.val (.int x) → zG xs d (mi, pc + len, lv', st) h Q) : zG xs d (mi, pc, lv, .int x :: st) h Q :=
  zR_l hf rfl rfl (fun n e => by rw [hn] at e; obtain rfl : nL = n := Option.some.inj e; unfold zloc; dsimp only; rw [if_pos hk]) (kk _ rfl)
theorem zR_ls {k : Nat} {x : Int64} (hf : zfetch mi pc = some (.lstore k, len)) (hn : (z_meth[mi]?).map (fun m => m.2.2.1) = some nL) (hk : k + 1 < nL) (kk : ∀ lv', lv' = zst2 lv k (.long x) → zG xs d (mi, pc + len, lv', st) h Q) : zG xs d (mi, pc, lv, .long x :: st) h Q :=
  zR_l hf rfl rfl (fun n e => by rw [hn] at e; obtain rfl : nL = n := Option.some.inj e; unfold zloc; dsimp only; rw [if_pos hk]) (kk _ rfl)
theorem zR_lsn {k : Fin 4} {x : Int64} (hf : zfetch mi pc = some (.lstore_n k, len)) (hn : (z_meth[mi]?).map (fun m => m.2.2.1) = some nL) (hk : k.val + 1 < nL) (kk : ∀ lv', lv' = zst2 lv k.val (.long x) → zG xs d (mi, pc + len, lv', st) h Q) : zG xs d (mi, pc, lv, .long x :: st) h Q :=
  zR_l hf rfl rfl (fun n e => by rw [hn] at e; obtain rfl : nL = n := Option.some.inj e; unfold zloc; dsimp only; rw [if_pos hk]) (kk _ rfl)
theorem zR_as {k : Nat} {p : zP} (hf : zfetch mi pc = some (.astore k, len)) (hn : (z_meth[mi]?).map (fun m => m.2.2.1) = some nL) (hk : k < nL) (kk : ∀ lv', lv' = zst1 lv k (zo p) → zG xs d (mi, pc + len, lv', st) h Q) : zG xs d (mi, pc, lv, zo p :: st) h Q := by
  cases p <;> exact zR_l hf rfl rfl (fun n e => by rw [hn] at e; obtain rfl : nL = n := Option.some.inj e; unfold zloc zo; dsimp only; rw [if_pos hk]) (kk _ rfl)
theorem zR_asn {k : Fin 4} {p : zP} (hf : zfetch mi pc = some (.astore_n k, len)) (hn : (z_meth[mi]?).map (fun m => m.2.2.1) = some nL) (hk : k.val < nL) (kk : ∀ lv', lv' = zst1 lv k.val (zo p) → zG xs d (mi, pc + len, lv', st) h Q) : zG xs d (mi, pc, lv, zo p :: st) h Q := by
  cases p <;> exact zR_l hf rfl rfl (fun n e => by rw [hn] at e; obtain rfl : nL = n := Option.some.inj e; unfold zloc zo; dsimp only; rw [if_pos hk]) (kk _ rfl)
theorem zR_inc {k : Nat} {n : Int} {x y : Int32} (hf : zfetch mi pc = some (.iinc k n, len)) (hn : (z_meth[mi]?).map (fun m => m.2.2.1) = some nL) (hk : k < nL) (hy : Int32.ofInt n = y) (g : zgetl lv k = some (.int x)) (kk : ∀ lv', lv' = zst1 lv k (.int (x + y)) → zG xs d (mi, pc + len, lv', st) h Q) : zG xs d (mi, pc, lv, st) h Q :=
  zR_l hf rfl rfl (fun n e => by subst hy; rw [hn] at e; obtain rfl : nL = n := Option.some.inj e; unfold zloc; dsimp only; rw [g]; dsimp only; rw [if_pos hk]) (kk _ rfl)
theorem zR_dup {v : Value} (hf : zfetch mi pc = some (.dup, len)) (hc : v.category = 1) (kk : zG xs d (mi, pc + len, lv, v :: v :: st) h Q) : zG xs d (mi, pc, lv, v :: st) h Q :=
  zG_p hf (by unfold zpure; cases v <;> first | rfl | cases hc) kk
theorem zR_pop {v : Value} (hf : zfetch mi pc = some (.pop, len)) (hc : v.category = 1) (kk : zG xs d (mi, pc + len, lv, st) h Q) : zG xs d (mi, pc, lv, v :: st) h Q :=
  zG_p hf (by unfold zpure; cases v <;> first | rfl | cases hc) kk
theorem zR_dx1 {v w : Value} (hf : zfetch mi pc = some (.dup_x1, len)) (hc : v.category = 1) (hd : w.category = 1) (kk : zG xs d (mi, pc + len, lv, v :: w :: v :: st) h Q) : zG xs d (mi, pc, lv, v :: w :: st) h Q :=
  zG_p hf (by unfold zpure; dsimp only; rw [if_pos ⟨hc, hd⟩]) kk
theorem zR_d2 {v w : Value} (hf : zfetch mi pc = some (.dup2, len)) (hc : v.category = 1) (hd : w.category = 1) (kk : zG xs d (mi, pc + len, lv, v :: w :: v :: w :: st) h Q) : zG xs d (mi, pc, lv, v :: w :: st) h Q :=
  zG_p hf (by unfold zpure; dsimp only; rw [if_pos ⟨hc, hd⟩]) kk
theorem zR_nul (hf : zfetch mi pc = some (.aconst_null, len)) (kk : zG xs d (mi, pc + len, lv, zo none :: st) h Q) : zG xs d (mi, pc, lv, st) h Q := zG_p hf rfl kk
theorem zR_ifn {o : Int} {p : zP} (t : Nat) (hf : zfetch mi pc = some (.ifnull o, 3)) (ht : ztg pc o = t) (kt : p = none → zG xs d (mi, t, lv, st) h Q) (kf : p ≠ none → zG xs d (mi, pc + 3, lv, st) h Q) : zG xs d (mi, pc, lv, zo p :: st) h Q := by
  subst ht
  cases p with
  | none => exact zG_b hf rfl rfl (kt rfl)
  | some k => exact zG_b hf rfl rfl (kf (by simp))
theorem zR_ifnn {o : Int} {p : zP} (t : Nat) (hf : zfetch mi pc = some (.ifnonnull o, 3)) (ht : ztg pc o = t) (kt : p ≠ none → zG xs d (mi, t, lv, st) h Q) (kf : p = none → zG xs d (mi, pc + 3, lv, st) h Q) : zG xs d (mi, pc, lv, zo p :: st) h Q := by
  subst ht
  cases p with
  | none => exact zG_b hf rfl rfl (kf rfl)
  | some k => exact zG_b hf rfl rfl (kt (by simp))
theorem zR_acn {o : Int} {p q : zP} (t : Nat) (hf : zfetch mi pc = some (.if_acmp .ne o, 3)) (ht : ztg pc o = t) (h0 : p = none ∨ q = none) (kt : p ≠ q → zG xs d (mi, t, lv, st) h Q) (kf : p = q → zG xs d (mi, pc + 3, lv, st) h Q) : zG xs d (mi, pc, lv, zo q :: zo p :: st) h Q := by
  subst ht
  cases p with
  | none => cases q with
    | none => exact zG_b hf rfl rfl (kf rfl)
    | some k => exact zG_b hf rfl rfl (kt (by simp))
  | some k => cases q with
    | none => exact zG_b hf rfl rfl (kt (by simp))
    | some k => rcases h0 with h0 | h0 <;> cases h0
/-! fields -/
theorem zR_gf {x t c j k : Nat} {fs : List Value} {v : Value} {p : zP} (hf : zfetch mi pc = some (.getfield x, 3)) (hl : zlink mi x = some (t, c, j)) (ht : t < 2) (hp : p = some k) (hk : zown h k = some (.inr (c, fs))) (hv : fs[j]? = some v) (kk : zG xs d (mi, pc + 3, lv, v :: st) h Q) : zG xs d (mi, pc, lv, zo p :: st) h Q := by
  subst hp
  exact zG_get hf hl ht hk hv kk
theorem zR_pf {x t c j k : Nat} {fs : List Value} {v : Value} {p : zP} {h' : zH} (hf : zfetch mi pc = some (.putfield x, 3)) (hl : zlink mi x = some (t, c, j)) (ht : t < 2) (hp : p = some k) (hk : zown h k = some (.inr (c, fs))) (hj : j < fs.length) (hfit : zfits (zFt c j) v = true) (hfin : (z_fin.getD c []).getD j true = false ∨ (t = 0 ∧ z_ini.getD mi false = true ∧ z_mc.getD mi 0 = c)) (he : h' = zput h k (.inr (c, fs.set j v))) (kk : zG xs d (mi, pc + 3, lv, st) h' Q) : zG xs d (mi, pc, lv, v :: zo p :: st) h Q := by
  subst hp he
  exact zG_put hf hl ht hk hj hfit hfin kk
theorem zfit_i {c j : Nat} {x : Int32} (e : zFt c j = .int) : zfits (zFt c j) (.int x) = true := by rw [e]; rfl
theorem zfit_l {c j : Nat} {x : Int64} (e : zFt c j = .long) : zfits (zFt c j) (.long x) = true := by rw [e]; rfl
theorem zfit_b {c j : Nat} {x : Int32} (e : zFt c j = .boolean) (hb : x = 0 ∨ x = 1) : zfits (zFt c j) (.int x) = true := by rw [e]; exact decide_eq_true hb
theorem zfit_o {c j : Nat} {s : String} {p : zP} (e : zFt c j = .object s) : zfits (zFt c j) (zo p) = true := by rw [e]; cases p <;> rfl
theorem zfit_a {c j : Nat} {s : FieldType} {p : zP} (e : zFt c j = .array s) : zfits (zFt c j) (zo p) = true := by rw [e]; cases p <;> rfl
theorem zR_gs {x a n : Nat} (hf : zfetch mi pc = some (.getstatic x, 3)) (hl : zlink mi x = some (12, a, n)) (ha : a < z_sp.length) (kk : zG xs d (mi, pc + 3, lv, zo (some (a + 1)) :: st) h Q) : zG xs d (mi, pc, lv, st) h Q := by
  refine zG_h hf rfl rfl (fun _ => rfl) ?_ kk
  unfold zheap
  (try dsimp only)
  rw [hl]
  refine (if_pos ha).trans ?_
  rfl
theorem zR_ldc {x a n : Nat} {v : Int64} (hf : zfetch mi pc = some (.ldc2_w x, 3)) (hl : zlink mi x = some (13, a, n)) (hv : z_kv[a]? = some (.long v)) (kk : zG xs d (mi, pc + 3, lv, .long v :: st) h Q) : zG xs d (mi, pc, lv, st) h Q := by
  refine zG_h hf rfl rfl (fun _ => rfl) ?_ kk
  unfold zheap
  (try dsimp only)
  rw [hl]
  show (match z_kv[a]? with | some (Value.long v) => some (Value.long v :: st, h) | _ => none) = some (Value.long v :: st, h)
  rw [hv]
/-! arrays -/
theorem zR_len {t k : Nat} {vs : List Value} {p : zP} (hf : zfetch mi pc = some (.arraylength, 1)) (hp : p = some k) (hk : zarr xs h k = some (t, vs)) (ht : t < 10) (kk : zG xs d (mi, pc + 1, lv, .int (Int32.ofNat vs.length) :: st) h Q) : zG xs d (mi, pc, lv, zo p :: st) h Q := by
  subst hp
  refine zG_h (st := .ref k :: st) hf rfl rfl (fun _ => rfl) ?_ kk
  unfold zheap
  (try dsimp only)
  rw [hk]
  (try dsimp only)
  rw [if_pos (show t < z_aty.length from ht)]
theorem zR_ia {k : Nat} {vs : List Value} {p : zP} {j v : Int32} (hf : zfetch mi pc = some (.iaload, 1)) (hp : p = some k) (hk : zarr xs h k = some (0, vs)) (hj : ¬ j < 0) (hv : vs[j.toNatClampNeg]? = some (.int v)) (kk : zG xs d (mi, pc + 1, lv, .int v :: st) h Q) : zG xs d (mi, pc, lv, .int j :: zo p :: st) h Q := by
  subst hp
  refine zG_h (st := .int j :: .ref k :: st) hf rfl rfl (fun _ => rfl) ?_ kk
  unfold zheap
  (try dsimp only)
  rw [hk]
  refine (if_neg hj).trans ?_
  rw [hv]
theorem zR_ba {t k : Nat} {vs : List Value} {p : zP} {j v : Int32} (hf : zfetch mi pc = some (.baload, 1)) (hp : p = some k) (hk : zown h k = some (.inl (t, vs))) (ht : t = 2 ∨ t = 4) (hj : ¬ j < 0) (hv : vs[j.toNatClampNeg]? = some (.int v)) (kk : zG xs d (mi, pc + 1, lv, .int v :: st) h Q) : zG xs d (mi, pc, lv, .int j :: zo p :: st) h Q := by
  subst hp
  refine zG_h (st := .int j :: .ref k :: st) hf rfl rfl (fun _ => rfl) ?_ kk
  unfold zheap
  (try dsimp only)
  rcases ht with rfl | rfl <;> (rw [hk]; refine (if_neg hj).trans ?_; rw [hv])
theorem zR_sa {k : Nat} {vs : List Value} {p : zP} {j v : Int32} (hf : zfetch mi pc = some (.saload, 1)) (hp : p = some k) (hk : zown h k = some (.inl (3, vs))) (hj : ¬ j < 0) (hv : vs[j.toNatClampNeg]? = some (.int v)) (kk : zG xs d (mi, pc + 1, lv, .int v :: st) h Q) : zG xs d (mi, pc, lv, .int j :: zo p :: st) h Q := by
  subst hp
  refine zG_h (st := .int j :: .ref k :: st) hf rfl rfl (fun _ => rfl) ?_ kk
  unfold zheap
  (try dsimp only)
  rw [hk]; refine (if_neg hj).trans ?_; rw [hv]
theorem zR_la {k : Nat} {vs : List Value} {p : zP} {j : Int32} {v : Int64} (hf : zfetch mi pc = some (.laload, 1)) (hp : p = some k) (hk : zown h k = some (.inl (1, vs))) (hj : ¬ j < 0) (hv : vs[j.toNatClampNeg]? = some (.long v)) (kk : zG xs d (mi, pc + 1, lv, .long v :: st) h Q) : zG xs d (mi, pc, lv, .int j :: zo p :: st) h Q := by
  subst hp
  refine zG_h (st := .int j :: .ref k :: st) hf rfl rfl (fun _ => rfl) ?_ kk
  unfold zheap
  (try dsimp only)
  rw [hk]; refine (if_neg hj).trans ?_; rw [hv]
theorem zR_aa {t k : Nat} {vs : List Value} {p q : zP} {j : Int32} (hf : zfetch mi pc = some (.aaload, 1)) (hp : p = some k) (hk : zown h k = some (.inl (t, vs))) (ht : 5 ≤ t ∧ t < 10) (hj : ¬ j < 0) (hv : vs[j.toNatClampNeg]? = some (zo q)) (kk : zG xs d (mi, pc + 1, lv, zo q :: st) h Q) : zG xs d (mi, pc, lv, .int j :: zo p :: st) h Q := by
  subst hp
  exact zG_aal hf hk ht hj hv (by cases q with | none => exact Or.inr rfl | some a => exact Or.inl ⟨a, rfl⟩) kk
theorem zR_ias {k : Nat} {vs : List Value} {p : zP} {j v : Int32} {h' : zH} (hf : zfetch mi pc = some (.iastore, 1)) (hp : p = some k) (hk : zown h k = some (.inl (0, vs))) (hj : ¬ j < 0) (hv : j.toNatClampNeg < vs.length) (he : h' = zput h k (.inl (0, vs.set j.toNatClampNeg (.int v)))) (kk : zG xs d (mi, pc + 1, lv, st) h' Q) : zG xs d (mi, pc, lv, .int v :: .int j :: zo p :: st) h Q := by
  subst hp he
  refine zG_h (st := .int v :: .int j :: .ref k :: st) hf rfl rfl (fun _ => rfl) ?_ kk
  unfold zheap
  (try dsimp only)
  rw [hk]; exact (if_neg (fun q => q.elim hj (fun q => by omega)))
theorem zR_bas {k : Nat} {vs : List Value} {p : zP} {j v : Int32} {h' : zH} (hf : zfetch mi pc = some (.bastore, 1)) (hp : p = some k) (hk : zown h k = some (.inl (2, vs))) (hj : ¬ j < 0) (hv : j.toNatClampNeg < vs.length) (he : h' = zput h k (.inl (2, vs.set j.toNatClampNeg (.int (vp_nar .byte v))))) (kk : zG xs d (mi, pc + 1, lv, st) h' Q) : zG xs d (mi, pc, lv, .int v :: .int j :: zo p :: st) h Q := by
  subst hp he
  refine zG_h (st := .int v :: .int j :: .ref k :: st) hf rfl rfl (fun _ => rfl) ?_ kk
  unfold zheap
  (try dsimp only)
  rw [hk]; exact (if_neg (fun q => q.elim hj (fun q => by omega)))
theorem zR_zas {k : Nat} {vs : List Value} {p : zP} {j v : Int32} {h' : zH} (hf : zfetch mi pc = some (.bastore, 1)) (hp : p = some k) (hk : zown h k = some (.inl (4, vs))) (hj : ¬ j < 0) (hv : j.toNatClampNeg < vs.length) (he : h' = zput h k (.inl (4, vs.set j.toNatClampNeg (.int (vp_nar .boolean v))))) (kk : zG xs d (mi, pc + 1, lv, st) h' Q) : zG xs d (mi, pc, lv, .int v :: .int j :: zo p :: st) h Q := by
  subst hp he
  refine zG_h (st := .int v :: .int j :: .ref k :: st) hf rfl rfl (fun _ => rfl) ?_ kk
  unfold zheap
  (try dsimp only)
  rw [hk]; exact (if_neg (fun q => q.elim hj (fun q => by omega)))
theorem zR_sas {k : Nat} {vs : List Value} {p : zP} {j v : Int32} {h' : zH} (hf : zfetch mi pc = some (.sastore, 1)) (hp : p = some k) (hk : zown h k = some (.inl (3, vs))) (hj : ¬ j < 0) (hv : j.toNatClampNeg < vs.length) (he : h' = zput h k (.inl (3, vs.set j.toNatClampNeg (.int (vp_nar .short v))))) (kk : zG xs d (mi, pc + 1, lv, st) h' Q) : zG xs d (mi, pc, lv, .int v :: .int j :: zo p :: st) h Q := by
  subst hp he
  refine zG_h (st := .int v :: .int j :: .ref k :: st) hf rfl rfl (fun _ => rfl) ?_ kk
  unfold zheap
  (try dsimp only)
  rw [hk]; exact (if_neg (fun q => q.elim hj (fun q => by omega)))
theorem zR_las {k : Nat} {vs : List Value} {p : zP} {j : Int32} {v : Int64} {h' : zH} (hf : zfetch mi pc = some (.lastore, 1)) (hp : p = some k) (hk : zown h k = some (.inl (1, vs))) (hj : ¬ j < 0) (hv : j.toNatClampNeg < vs.length) (he : h' = zput h k (.inl (1, vs.set j.toNatClampNeg (.long v)))) (kk : zG xs d (mi, pc + 1, lv, st) h' Q) : zG xs d (mi, pc, lv, .long v :: .int j :: zo p :: st) h Q := by
  subst hp he
  refine zG_h (st := .long v :: .int j :: .ref k :: st) hf rfl rfl (fun _ => rfl) ?_ kk
  unfold zheap
  (try dsimp only)
  rw [hk]; exact (if_neg (fun q => q.elim hj (fun q => by omega)))
/-- what may go into an array of objects -/
def zaok (h : zH) (t : Nat) (q : zP) : Prop := q = none ∨ ∃ v c fs, q = some v ∧ zown h v = some (.inr (c, fs)) ∧ z_acl.getD t 0 = c
theorem zR_aas {t k : Nat} {vs : List Value} {p q : zP} {j : Int32} {h' : zH} (hf : zfetch mi pc = some (.aastore, 1)) (hp : p = some k) (hk : zown h k = some (.inl (t, vs))) (ht : 5 ≤ t ∧ t < 10) (hj : ¬ j < 0) (hv : j.toNatClampNeg < vs.length) (hq : zaok h t q) (he : h' = zput h k (.inl (t, vs.set j.toNatClampNeg (zo q)))) (kk : zG xs d (mi, pc + 1, lv, st) h' Q) : zG xs d (mi, pc, lv, zo q :: .int j :: zo p :: st) h Q := by
  subst hp he
  have ht2 : t < z_aty.length := ht.2
  rcases hq with rfl | ⟨v, c, fs, rfl, ho, hc⟩
  · refine zG_h (st := .null :: .int j :: .ref k :: st) hf rfl rfl (fun _ => rfl) ?_ kk
    unfold zheap
    (try dsimp only)
    rw [hk]; exact (if_neg (fun q => q.elim hj (fun q => by omega)))
  · refine zG_h (st := .ref v :: .int j :: .ref k :: st) hf rfl rfl (fun _ => rfl) ?_ kk
    unfold zheap
    (try dsimp only)
    rw [hk, ho]; exact (if_neg (fun q => q.elim hj (fun q => by omega)))
theorem zR_na {t : ClassFile.ArrayType} {a l : Nat} {v : Value} {n : Int32} {h' : zH} (hf : zfetch mi pc = some (.newarray t, 2)) (ha : znat t = some (a, v)) (hn : ¬ n < 0 ∧ n.toNatClampNeg ≤ 65536) (hl : l = h.1.length + zK0) (he : h' = zadd h (.inl (a, List.replicate n.toNatClampNeg v)) n.toNatClampNeg) (kk : zG xs d (mi, pc + 2, lv, zo (some l) :: st) h' Q) : zG xs d (mi, pc, lv, .int n :: st) h Q := by
  subst hl he
  refine zG_h hf rfl rfl (fun _ => rfl) ?_ kk
  unfold zheap
  (try dsimp only)
  rw [ha]; exact (if_neg (fun q => q.elim hn.1 (fun q => by omega)))
theorem zR_an {x a b l : Nat} {n : Int32} {h' : zH} (hf : zfetch mi pc = some (.anewarray x, 3)) (ha : zlink mi (x + 100000) = some (3, a, b)) (hn : ¬ n < 0 ∧ n.toNatClampNeg ≤ 65536) (hl : l = h.1.length + zK0) (he : h' = zadd h (.inl (a, List.replicate n.toNatClampNeg .null)) n.toNatClampNeg) (kk : zG xs d (mi, pc + 3, lv, zo (some l) :: st) h' Q) : zG xs d (mi, pc, lv, .int n :: st) h Q := by
  subst hl he
  refine zG_h hf rfl rfl (fun _ => rfl) ?_ kk
  unfold zheap
  (try dsimp only)
  rw [ha]; exact (if_neg (fun q => q.elim hn.1 (fun q => by omega)))
theorem zR_new {x c b l : Nat} {fs : List Value} {h' : zH} (hf : zfetch mi pc = some (.new x, 3)) (ha : zlink mi x = some (2, c, b)) (hd : z_def[c]? = some fs) (hl : l = h.1.length + zK0) (he : h' = zadd h (.inr (c, fs)) fs.length) (kk : zG xs d (mi, pc + 3, lv, zo (some l) :: st) h' Q) : zG xs d (mi, pc, lv, st) h Q := by
  subst hl he
  refine zG_h hf rfl rfl (fun _ => rfl) ?_ kk
  unfold zheap
  (try dsimp only)
  rw [ha]; show (match z_def[c]? with | some fs => some (zref h :: st, zadd h (.inr (c, fs)) fs.length) | none => none) = _; rw [hd]; rfl
theorem zR_obj {x a b k : Nat} {p : zP} (hf : zfetch mi pc = some (.invokespecial x, 3)) (ha : zlink mi x = some (11, a, b)) (hp : p = some k) (hc : (st.map fun v => v.category).sum ≤ 8) (kk : zG xs d (mi, pc + 3, lv, st) h Q) : zG xs d (mi, pc, lv, zo p :: st) h Q := by
  subst hp
  refine zG_h (st := .ref k :: st) hf rfl rfl (fun _ => rfl) ?_ kk
  unfold zheap
  (try dsimp only)
  rw [ha]; exact if_pos hc
theorem zR_max {x n : Nat} {a b : Int32} (hf : zfetch mi pc = some (.invokestatic x, 3)) (ha : zlink mi x = some (5, zMx, n)) (hc : (st.map fun v => v.category).sum ≤ 8) (kk : zG xs d (mi, pc + 3, lv, .int (if a < b then b else a) :: st) h Q) : zG xs d (mi, pc, lv, .int b :: .int a :: st) h Q := by
  refine zG_h hf rfl rfl (fun _ => rfl) ?_ kk
  unfold zheap
  (try dsimp only)
  rw [ha]; exact if_pos ⟨rfl, hc⟩
/-! returns and throws -/
theorem zR_ri {x : Int32} (hf : zfetch mi pc = some (.ireturn, 1)) (hr : (z_meth[mi]?).map (fun m => m.2.2.2.1) = some (some .int)) (q : Q (.inl (some (.int x))) h) : zG xs d (mi, pc, lv, [.int x]) h Q := zG_ret hf hr (fun _ => rfl) rfl q
theorem zR_rb {x : Int32} (hf : zfetch mi pc = some (.ireturn, 1)) (hr : (z_meth[mi]?).map (fun m => m.2.2.2.1) = some (some .boolean)) (hb : x = 0 ∨ x = 1) (q : Q (.inl (some (.int x))) h) : zG xs d (mi, pc, lv, [.int x]) h Q := zG_ret hf hr (fun _ => rfl) (if_pos hb) q
theorem zR_rl {x : Int64} (hf : zfetch mi pc = some (.lreturn, 1)) (hr : (z_meth[mi]?).map (fun m => m.2.2.2.1) = some (some .long)) (q : Q (.inl (some (.long x))) h) : zG xs d (mi, pc, lv, [.long x]) h Q := zG_ret hf hr (fun _ => rfl) rfl q
theorem zR_ro {s : String} {p : zP} (hf : zfetch mi pc = some (.areturn, 1)) (hr : (z_meth[mi]?).map (fun m => m.2.2.2.1) = some (some (.object s))) (q : Q (.inl (some (zo p))) h) : zG xs d (mi, pc, lv, [zo p]) h Q := by
  cases p <;> exact zG_ret hf hr (fun _ => rfl) rfl q
theorem zR_ra {s : FieldType} {p : zP} (hf : zfetch mi pc = some (.areturn, 1)) (hr : (z_meth[mi]?).map (fun m => m.2.2.2.1) = some (some (.array s))) (q : Q (.inl (some (zo p))) h) : zG xs d (mi, pc, lv, [zo p]) h Q := by
  cases p <;> exact zG_ret hf hr (fun _ => rfl) rfl q
theorem zR_rv (hf : zfetch mi pc = some (.return_, 1)) (hr : (z_meth[mi]?).map (fun m => m.2.2.2.1) = some none) (q : Q (.inl none) h) : zG xs d (mi, pc, lv, []) h Q := zG_ret hf hr (fun _ => rfl) rfl q
theorem zR_thr {x e ic n : Nat} (hf : zfetch mi pc = some (.new x, n)) (hl : zlink mi x = some (4, e, ic)) (h1 : zfetch mi (pc + 3) = some (.dup, 1)) (h2 : zfetch mi (pc + 4) = some (.invokespecial ic, 3)) (h3 : zfetch mi (pc + 7) = some (.athrow, 1)) (hh : z_hh.getD mi [] = []) (hd : 8 ≤ d) (hc : (st.map fun v => v.category).sum ≤ 8) (q : Q (.inr e) (h.1, h.2.1 + 1, h.2.2 + 6)) : zG xs d (mi, pc, lv, st) h Q := by
  obtain ⟨mt, hm⟩ := zf_m hf
  refine ⟨1, .inr e, _, ?_, q⟩
  rw [zrun]
  (try dsimp only)
  rw [hf, hm]
  (try dsimp only)
  have hs : zstp xs mt.2.2.1 (.new x) n (mi, pc, lv, st) h = none := by
    unfold zstp
    (try dsimp only)
    rw [show zpure (.new x) st = none from rfl]
    (try dsimp only)
    rw [show zbr pc (.new x) st = none from rfl]
    (try dsimp only)
    rw [show zloc mt.2.2.1 (.new x) lv st = none from rfl]
    (try dsimp only)
    rw [show zheap xs mi (.new x) st h = none from by unfold zheap; (try dsimp only); rw [hl]; rfl]
  rw [hs]
  (try dsimp only)
  rw [show zret mt.2.2.2.1 (.new x) st = none from rfl]
  (try dsimp only)
  rw [show zthr mi pc (.new x) st = some e from by unfold zthr; (try dsimp only); rw [hl]; exact if_pos ⟨h1, h2, h3, hh, hc⟩]
  (try dsimp only)
  rw [if_pos hd]
/-! calls -/
theorem zsl_le : ∀ as : List Value, (lg_sl as).length ≤ (as.map fun v => v.category).sum
  | [] => Nat.le_refl _
  | v :: as => by
    have ih := zsl_le as
    have h1 : lg_sl (v :: as) = (if v.category = 2 then [.val v, .second] else [.val v]) ++ lg_sl as := rfl
    rw [h1, List.length_append, List.map_cons, List.sum_cons]
    have h2 : (if v.category = 2 then [Slot.val v, Slot.second] else [Slot.val v]).length ≤ v.category := by cases v <;> exact Nat.le_refl _
    omega
theorem zent_of {j n : Nat} {as : List Value} (hn : (z_meth[j]?).map (fun m => m.2.2.1) = some n) (hl : (as.map fun v => v.category).sum ≤ n) (h0 : 0 < j ∧ j ≠ zMx) : zent j as = true := by
  unfold zent
  cases hm : z_meth[j]? with
  | none => rw [hm] at hn; cases hn
  | some mt =>
    rw [hm] at hn
    obtain rfl : mt.2.2.1 = n := Option.some.inj hn
    exact decide_eq_true ⟨Nat.le_trans (zsl_le as) hl, h0.1, h0.2⟩
theorem zcat_nil {e : Nat} (hh : z_hh.getD mi [] = []) : zcat mi pc e = none ∧ zesc mi pc e = true := by
  unfold zcat zesc
  rw [hh]
  exact ⟨rfl, rfl⟩
end ZR
def zKI (K : Int32 → zH → Prop) (E : Nat → zH → Prop) : zO → zH → Prop := fun o h => match o with
  | .inl (some (.int x)) => K x h
  | .inr e => E e h
  | _ => False
def zKL (K : Int64 → zH → Prop) (E : Nat → zH → Prop) : zO → zH → Prop := fun o h => match o with
  | .inl (some (.long x)) => K x h
  | .inr e => E e h
  | _ => False
def zKR (K : zP → zH → Prop) (E : Nat → zH → Prop) : zO → zH → Prop := fun o h => match o with
  | .inl (some .null) => K none h
  | .inl (some (.ref a)) => K (some a) h
  | .inr e => E e h
  | _ => False
def zKV (K : zH → Prop) (E : Nat → zH → Prop) : zO → zH → Prop := fun o h => match o with
  | .inl none => K h
  | .inr e => E e h
  | _ => False
/-- what comes behind a call: with the call's value on the stack, or caught, or handed on -/
def zAft (xs : List Value) (d mi pc : Nat) (lv : List (Nat × Value)) (rest : List Value) (Q : zO → zH → Prop) : zO → zH → Prop := fun o h1 => match o with
  | .inl v => zG xs d (mi, pc + 3, lv, v.toList ++ rest) h1 Q
  | .inr e => (zcat mi pc e = none ∧ zesc mi pc e = true ∧ Q (.inr e) h1) ∨ ∃ pc' k nL, zcat mi pc e = some (pc', k) ∧ (z_meth[mi]?).map (fun m => m.2.2.1) = some nL ∧ k < nL ∧ zG xs d (mi, pc', zdrop1 lv k, []) h1 Q
def zCall (xs : List Value) (d j : Nat) (as : List Value) (h : zH) (R : zO → zH → Prop) : Prop := ∃ d', d = d' + 1 ∧ zG xs d' (j, 0, lv_args 0 as, []) h R
theorem zG_mono {xs : List Value} {d : Nat} {f : zF} {h : zH} {Q R : zO → zH → Prop} (k : zG xs d f h Q) (i : ∀ o h', Q o h' → R o h') : zG xs d f h R := by
  obtain ⟨n, o, h', hr, hq⟩ := k
  exact ⟨n, o, h', hr, i o h' hq⟩
section ZC
variable {xs : List Value} {d mi pc len nL : Nat} {lv : List (Nat × Value)} {st rest args : List Value} {h : zH} {Q : zO → zH → Prop}
theorem zR_call {i : ClassFile.Instr} {j : Nat} {as : List Value} (hsp : zspec i = false) (hf : zfetch mi pc = some (i, len)) (hs : ∀ nL, zstp xs nL i len (mi, pc, lv, st) h = none) (hz : ∀ ret, zret ret i st = none) (ht : zthr mi pc i st = none) (hc : zcall mi i st h = some (j, as, rest)) (he : zent j as = true) (hcal : zCall xs d j as h (zAft xs d mi pc lv rest Q)) : zG xs d (mi, pc, lv, st) h Q := by
  obtain ⟨d', rfl, hcal⟩ := hcal
  obtain ⟨mt, hm⟩ := zf_m hf
  obtain ⟨n1, o1, h1, hr1, hq1⟩ := hcal
  have hent : ¬ zent j as = false := by rw [he]; decide
  cases o1 with
  | inl v =>
    obtain ⟨n2, o2, h2, hr2, hq2⟩ := hq1
    refine ⟨max n1 n2 + 1, o2, h2, ?_, hq2⟩
    rw [zrun]
    (try dsimp only)
    rw [hf, hm]
    (try dsimp only)
    rw [hs]
    (try dsimp only)
    rw [hz]
    (try dsimp only)
    rw [ht]
    (try dsimp only)
    rw [hc]
    (try dsimp only)
    rw [if_neg hent, zrun_more n1 (max n1 n2) _ _ _ _ (Nat.le_max_left _ _) hr1]
    exact zrun_more n2 (max n1 n2) _ _ _ _ (Nat.le_max_right _ _) hr2
  | inr ev =>
    rcases hq1 with ⟨k2, k3, k4⟩ | ⟨pc', k, nL, k2, k3, k4, n2, o2, h2, hr2, hq2⟩
    · refine ⟨n1 + 1, .inr ev, h1, ?_, k4⟩
      rw [zrun]
      (try dsimp only)
      rw [hf, hm]
      (try dsimp only)
      rw [hs]
      (try dsimp only)
      rw [hz]
      (try dsimp only)
      rw [ht]
      (try dsimp only)
      rw [hc]
      (try dsimp only)
      rw [if_neg hent, hr1]
      (try dsimp only)
      rw [hsp, k2]
      (try dsimp only)
      rw [k3]
      rfl
    · refine ⟨max n1 n2 + 1, o2, h2, ?_, hq2⟩
      rw [hm] at k3
      obtain rfl : mt.2.2.1 = nL := Option.some.inj k3
      rw [zrun]
      (try dsimp only)
      rw [hf, hm]
      (try dsimp only)
      rw [hs]
      (try dsimp only)
      rw [hz]
      (try dsimp only)
      rw [ht]
      (try dsimp only)
      rw [hc]
      (try dsimp only)
      rw [if_neg hent, zrun_more n1 (max n1 n2) _ _ _ _ (Nat.le_max_left _ _) hr1]
      (try dsimp only)
      rw [hsp, k2]
      (try dsimp only)
      rw [if_neg (by decide), if_pos k4]
      exact zrun_more n2 (max n1 n2) _ _ _ _ (Nat.le_max_right _ _) hr2
theorem zR_cs {x j n : Nat} (hf : zfetch mi pc = some (.invokestatic x, 3)) (hl : zlink mi x = some (5, j, n)) (hj : j ≠ zMx) (hst : st = args.reverse ++ rest) (hn : args.length = n) (hcat : (rest.map fun v => v.category).sum ≤ 8) (he : zent j args = true) (hcal : zCall xs d j args h (zAft xs d mi pc lv rest Q)) : zG xs d (mi, pc, lv, st) h Q := by
  obtain ⟨e1, e2⟩ := zst_split (r := rest) hn
  have hp : zpure (.invokestatic x) st = none := by unfold zpure; split <;> first | rfl | (rename_i hi; cases hi) | skip
  have hs : ∀ nL, zstp xs nL (.invokestatic x) 3 (mi, pc, lv, st) h = none := by
    intro nL
    have h9 : zheap xs mi (.invokestatic x) st h = none := by
      unfold zheap
      split <;> first | rfl | skip
      all_goals first | (rename_i hi; cases hi; done) | (rename_i hi; cases hi; rw [hl]; exact if_neg (fun q => hj q.1))
    unfold zstp
    (try dsimp only)
    rw [show zpure (.invokestatic x) st = none from hp]
    (try dsimp only)
    rw [show zbr pc (.invokestatic x) st = none from rfl]
    (try dsimp only)
    rw [show zloc nL (.invokestatic x) lv st = none from rfl]
    (try dsimp only)
    rw [h9]
  refine zR_call (j := j) (as := args) (rest := rest) rfl hf hs (fun _ => rfl) rfl ?_ he hcal
  unfold zcall
  (try dsimp only)
  rw [hl]
  (try dsimp only)
  subst hst
  rw [e1, e2, List.reverse_reverse, if_pos ⟨rfl, by simp; omega, hcat⟩]
theorem zR_cv {x j n k c : Nat} {fs : List Value} {p : zP} (hf : zfetch mi pc = some (.invokevirtual x, 3)) (hl : zlink mi x = some (7, j, n)) (hst : st = args.reverse ++ zo p :: rest) (hn : args.length = n) (hp : p = some k) (hk : zown h k = some (.inr (c, fs))) (hc : c = z_mc.getD j 0) (hcat : (rest.map fun v => v.category).sum ≤ 8) (he : zent j (zo p :: args) = true) (hcal : zCall xs d j (zo p :: args) h (zAft xs d mi pc lv rest Q)) : zG xs d (mi, pc, lv, st) h Q := by
  subst hp
  obtain ⟨e1, e2⟩ := zst_split (r := .ref k :: rest) hn
  have hnp : z_np mi x = n := by unfold z_np; rw [hl]
  refine zR_call (j := j) (as := .ref k :: args) (rest := rest) rfl hf (fun _ => rfl) (fun _ => rfl) rfl ?_ he hcal
  unfold zcall
  (try dsimp only)
  rw [hl, hnp]
  subst hst
  rw [show args.reverse ++ zo (some k) :: rest = args.reverse ++ .ref k :: rest from rfl, e2]
  (try dsimp only)
  rw [hk]
  (try dsimp only)
  rw [e1, List.reverse_reverse, if_pos ⟨rfl, rfl, by simp; omega, hcat, hc⟩]
/-- a constructor (it may not throw here) -/
theorem zR_ci {x t j n k : Nat} {p : zP} {K : zH → Prop} (hf : zfetch mi pc = some (.invokespecial x, 3)) (hl : zlink mi x = some (t, j, n)) (ht : t = 9 ∨ t = 10) (hst : st = args.reverse ++ zo p :: rest) (hn : args.length = n) (hp : p = some k) (hk : (zown h k).isSome = true) (hcat : (rest.map fun v => v.category).sum ≤ 8) (he : zent j (zo p :: args) = true) (hcal : zCall xs d j (zo p :: args) h (zKV K (fun _ _ => False))) (kr : ∀ h1, K h1 → zG xs d (mi, pc + 3, lv, rest) h1 Q) : zG xs d (mi, pc, lv, st) h Q := by
  subst hp
  obtain ⟨d', rfl, hcal⟩ := hcal
  obtain ⟨e1, e2⟩ := zst_split (r := .ref k :: rest) hn
  have hnp : z_np mi x = n := by unfold z_np; rw [hl]
  have hs : ∀ nL, zstp xs nL (.invokespecial x) 3 (mi, pc, lv, st) h = none := by
    intro nL
    have h9 : zheap xs mi (.invokespecial x) st h = none := by
      unfold zheap
      split <;> first | rfl | skip
      all_goals first | (rename_i hi; cases hi; done) | (rename_i hi; cases hi; rw [hl]; rcases ht with rfl | rfl <;> rfl)
    have hp : zpure (.invokespecial x) st = none := by unfold zpure; split <;> first | rfl | (rename_i hi; cases hi) | skip
    unfold zstp
    (try dsimp only)
    rw [show zpure (.invokespecial x) st = none from hp]
    (try dsimp only)
    rw [show zbr pc (.invokespecial x) st = none from rfl]
    (try dsimp only)
    rw [show zloc nL (.invokespecial x) lv st = none from rfl]
    (try dsimp only)
    rw [h9]
  refine zG_call (j := j) (as := .ref k :: args) (rest := rest) hf hs (fun _ => rfl) rfl ?_ he hcal (fun v h1 hq => ?_) (fun e h1 hq => hq.elim)
  · unfold zcall
    (try dsimp only)
    rw [hl, hnp]
    subst hst
    rw [show args.reverse ++ zo (some k) :: rest = args.reverse ++ .ref k :: rest from rfl, e2]
    (try dsimp only)
    rw [e1, List.reverse_reverse, if_pos ⟨ht, rfl, by simp; omega, hcat, hk⟩]
  · cases v with
    | none => exact kr h1 hq
    | some v => exact hq.elim
/-- what a call's continuation must give -/
theorem zA_i {K : Int32 → zH → Prop} {E : Nat → zH → Prop} (kr : ∀ x h1, K x h1 → zG xs d (mi, pc + 3, lv, .int x :: rest) h1 Q) (kx : ∀ e h1, E e h1 → zAft xs d mi pc lv rest Q (.inr e) h1) : ∀ o h1, zKI K E o h1 → zAft xs d mi pc lv rest Q o h1 := by
  intro o h1 hq
  cases o with
  | inr e => exact kx e h1 hq
  | inl v => cases v with
    | none => exact hq.elim
    | some v => cases v <;> first | exact hq.elim | exact kr _ h1 hq
theorem zA_l {K : Int64 → zH → Prop} {E : Nat → zH → Prop} (kr : ∀ x h1, K x h1 → zG xs d (mi, pc + 3, lv, .long x :: rest) h1 Q) (kx : ∀ e h1, E e h1 → zAft xs d mi pc lv rest Q (.inr e) h1) : ∀ o h1, zKL K E o h1 → zAft xs d mi pc lv rest Q o h1 := by
  intro o h1 hq
  cases o with
  | inr e => exact kx e h1 hq
  | inl v => cases v with
    | none => exact hq.elim
    | some v => cases v <;> first | exact hq.elim | exact kr _ h1 hq
theorem zA_r {K : zP → zH → Prop} {E : Nat → zH → Prop} (kr : ∀ x h1, K x h1 → zG xs d (mi, pc + 3, lv, zo x :: rest) h1 Q) (kx : ∀ e h1, E e h1 → zAft xs d mi pc lv rest Q (.inr e) h1) : ∀ o h1, zKR K E o h1 → zAft xs d mi pc lv rest Q o h1 := by
  intro o h1 hq
  cases o with
  | inr e => exact kx e h1 hq
  | inl v => cases v with
    | none => exact hq.elim
    | some v => cases v <;> first | exact hq.elim | exact kr none h1 hq | exact kr (some _) h1 hq
theorem zA_v {K : zH → Prop} {E : Nat → zH → Prop} (kr : ∀ h1, K h1 → zG xs d (mi, pc + 3, lv, rest) h1 Q) (kx : ∀ e h1, E e h1 → zAft xs d mi pc lv rest Q (.inr e) h1) : ∀ o h1, zKV K E o h1 → zAft xs d mi pc lv rest Q o h1 := by
  intro o h1 hq
  cases o with
  | inr e => exact kx e h1 hq
  | inl v => cases v with
    | none => exact kr h1 hq
    | some v => exact hq.elim
theorem zA_x {e : Nat} {h1 : zH} (hh : z_hh.getD mi [] = []) (q : Q (.inr e) h1) : zAft xs d mi pc lv rest Q (.inr e) h1 := Or.inl ⟨(zcat_nil hh).1, (zcat_nil hh).2, q⟩
theorem zCall_mono {j : Nat} {as : List Value} {R S : zO → zH → Prop} (k : zCall xs d j as h R) (i : ∀ o h1, R o h1 → S o h1) : zCall xs d j as h S := by
  obtain ⟨d', e, k⟩ := k
  exact ⟨d', e, zG_mono k i⟩
end ZC
/-! the predicates -/
def zGI (p : zP) (c j : Nat) (h : zH) (K : Int32 → Prop) : Prop := ∃ k fs x, p = some k ∧ zown h k = some (.inr (c, fs)) ∧ fs[j]? = some (.int x) ∧ K x
def zGL (p : zP) (c j : Nat) (h : zH) (K : Int64 → Prop) : Prop := ∃ k fs x, p = some k ∧ zown h k = some (.inr (c, fs)) ∧ fs[j]? = some (.long x) ∧ K x
def zGR (p : zP) (c j : Nat) (h : zH) (K : zP → Prop) : Prop := ∃ k fs x, p = some k ∧ zown h k = some (.inr (c, fs)) ∧ fs[j]? = some (zo x) ∧ K x
def zPF (p : zP) (c j : Nat) (v : Value) (h : zH) (K : zH → Prop) : Prop := ∃ k fs, p = some k ∧ zown h k = some (.inr (c, fs)) ∧ j < fs.length ∧ K (zput h k (.inr (c, fs.set j v)))
def zLN (xs : List Value) (p : zP) (h : zH) (K : Int32 → Prop) : Prop := ∃ k t vs, p = some k ∧ zarr xs h k = some (t, vs) ∧ t < 10 ∧ K (Int32.ofNat vs.length)
def zIA (xs : List Value) (p : zP) (j : Int32) (h : zH) (K : Int32 → Prop) : Prop := ∃ k vs x, p = some k ∧ zarr xs h k = some (0, vs) ∧ ¬ j < 0 ∧ vs[j.toNatClampNeg]? = some (.int x) ∧ K x
def zBA (p : zP) (j : Int32) (h : zH) (K : Int32 → Prop) : Prop := ∃ k t vs x, p = some k ∧ zown h k = some (.inl (t, vs)) ∧ (t = 2 ∨ t = 4) ∧ ¬ j < 0 ∧ vs[j.toNatClampNeg]? = some (.int x) ∧ K x
def zSA (p : zP) (j : Int32) (h : zH) (K : Int32 → Prop) : Prop := ∃ k vs x, p = some k ∧ zown h k = some (.inl (3, vs)) ∧ ¬ j < 0 ∧ vs[j.toNatClampNeg]? = some (.int x) ∧ K x
def zLA (p : zP) (j : Int32) (h : zH) (K : Int64 → Prop) : Prop := ∃ k vs x, p = some k ∧ zown h k = some (.inl (1, vs)) ∧ ¬ j < 0 ∧ vs[j.toNatClampNeg]? = some (.long x) ∧ K x
def zAA (p : zP) (j : Int32) (h : zH) (K : zP → Prop) : Prop := ∃ k t vs x, p = some k ∧ zown h k = some (.inl (t, vs)) ∧ (5 ≤ t ∧ t < 10) ∧ ¬ j < 0 ∧ vs[j.toNatClampNeg]? = some (zo x) ∧ K x
/-- a store into an array of numbers of type t (v: as it is kept) -/
def zST (t : Nat) (p : zP) (j : Int32) (v : Value) (h : zH) (K : zH → Prop) : Prop := ∃ k vs, p = some k ∧ zown h k = some (.inl (t, vs)) ∧ ¬ j < 0 ∧ j.toNatClampNeg < vs.length ∧ K (zput h k (.inl (t, vs.set j.toNatClampNeg v)))
def zAS (p : zP) (j : Int32) (q : zP) (h : zH) (K : zH → Prop) : Prop := ∃ k t vs, p = some k ∧ zown h k = some (.inl (t, vs)) ∧ (5 ≤ t ∧ t < 10) ∧ ¬ j < 0 ∧ j.toNatClampNeg < vs.length ∧ zaok h t q ∧ K (zput h k (.inl (t, vs.set j.toNatClampNeg (zo q))))
def zNA (a : Nat) (v : Value) (n : Int32) (h : zH) (K : Nat → zH → Prop) : Prop := (¬ n < 0 ∧ n.toNatClampNeg ≤ 65536) ∧ K (h.1.length + zK0) (zadd h (.inl (a, List.replicate n.toNatClampNeg v)) n.toNatClampNeg)
def zNO (c : Nat) (fs : List Value) (h : zH) (K : Nat → zH → Prop) : Prop := K (h.1.length + zK0) (zadd h (.inr (c, fs)) fs.length)
theorem zNO_u {c : Nat} {fs : List Value} {h : zH} {K : Nat → zH → Prop} (w : zNO c fs h K) : K (h.1.length + zK0) (zadd h (.inr (c, fs)) fs.length) := w
def zTH (d e : Nat) (h : zH) (Q : zO → zH → Prop) : Prop := 8 ≤ d ∧ Q (.inr e) (h.1, h.2.1 + 1, h.2.2 + 6)
def zCV (xs : List Value) (d j c : Nat) (p : zP) (args : List Value) (h : zH) (R : zO → zH → Prop) : Prop := ∃ k fs, p = some k ∧ zown h k = some (.inr (c, fs)) ∧ zCall xs d j (zo p :: args) h R
def zCN (xs : List Value) (d j : Nat) (p : zP) (args : List Value) (h : zH) (K : zH → Prop) : Prop := ∃ k, p = some k ∧ (zown h k).isSome = true ∧ zCall xs d j (zo p :: args) h (zKV K (fun _ _ => False))
theorem zlc_lt {x y : Int64} : lg_cmp x y < 0 ↔ x < y := by
  unfold lg_cmp
  split
  · rename_i h; exact ⟨fun q => absurd q (by decide), fun q => absurd h (by rw [gt_iff_lt, Int64.lt_iff_toInt_lt]; rw [Int64.lt_iff_toInt_lt] at q; omega)⟩
  · rename_i h
    split
    · rename_i h2; subst h2; exact ⟨fun q => absurd q (by decide), fun q => absurd q h⟩
    · rename_i h2
      refine ⟨fun _ => ?_, fun _ => by decide⟩
      rw [gt_iff_lt, Int64.lt_iff_toInt_lt] at h
      rw [Int64.lt_iff_toInt_lt]
      have : x.toInt ≠ y.toInt := fun q => h2 (Int64.toInt_inj.mp q)
      omega
theorem zlc_eq {x y : Int64} : lg_cmp x y = 0 ↔ x = y := by
  unfold lg_cmp
  split
  · rename_i h; exact ⟨fun q => absurd q (by decide), fun q => by subst q; rw [gt_iff_lt, Int64.lt_iff_toInt_lt] at h; omega⟩
  · split
    · rename_i h2; exact ⟨fun _ => h2, fun _ => rfl⟩
    · rename_i h2; exact ⟨fun q => absurd q (by decide), fun q => absurd q h2⟩
theorem zlc_gt {x y : Int64} : 0 < lg_cmp x y ↔ y < x := by
  unfold lg_cmp
  split
  · rename_i h; exact ⟨fun _ => h, fun _ => by decide⟩
  · rename_i h
    split
    · exact ⟨fun q => absurd q (by decide), fun q => absurd q h⟩
    · exact ⟨fun q => absurd q (by decide), fun q => absurd q h⟩
theorem zlc_ne {x y : Int64} : ¬ lg_cmp x y = 0 ↔ ¬ x = y := not_congr zlc_eq
theorem zlc_ge {x y : Int64} : 0 ≤ lg_cmp x y ↔ y ≤ x := by
  rw [← Int32.not_lt, ← Int64.not_lt]; exact not_congr zlc_lt
theorem zlc_le {x y : Int64} : lg_cmp x y ≤ 0 ↔ x ≤ y := by
  rw [← Int32.not_lt, ← Int64.not_lt]; exact not_congr zlc_gt
theorem zts_all (lo hi : Int) (x : Int32) : (x.toInt < lo ∨ hi < x.toInt) ∨ ∃ j : Nat, j < (hi + 1 - lo).toNat ∧ x = Int32.ofInt (lo + j) := by
  by_cases h1 : x.toInt < lo
  · exact Or.inl (Or.inl h1)
  · by_cases h2 : hi < x.toInt
    · exact Or.inl (Or.inr h2)
    · refine Or.inr ⟨(x.toInt - lo).toNat, by omega, ?_⟩
      rw [show lo + ((x.toInt - lo).toNat : Int) = x.toInt by omega, Int32.ofInt_toInt]
section ZSW
variable {xs : List Value} {d mi pc len : Nat} {lv : List (Nat × Value)} {st : List Value} {h : zH} {Q : zO → zH → Prop}
theorem zR_tsd {dd lo hi : Int} {offs : Array Int} {x : Int32} (t : Nat) (hf : zfetch mi pc = some (.tableswitch dd lo hi offs, len)) (hx : x.toInt < lo ∨ hi < x.toInt) (h0 : 0 ≤ (pc : Int) + dd) (ht : ztg pc dd = t) (kk : zG xs d (mi, t, lv, st) h Q) : zG xs d (mi, pc, lv, .int x :: st) h Q := by
  subst ht
  refine zG_b hf rfl ?_ kk
  unfold zbr
  (try dsimp only)
  rw [if_pos hx, if_pos h0]
theorem zR_sw {i : ClassFile.Instr} {x : Int32} {t : Nat} (hf : zfetch mi pc = some (i, len)) (h0 : zpure i (.int x :: st) = none) (hb : zbr pc i (.int x :: st) = some (t, st)) (kk : zG xs d (mi, t, lv, st) h Q) : zG xs d (mi, pc, lv, .int x :: st) h Q := zG_b hf h0 hb kk
theorem zR_lsd {dd : Int} {ps : Array (Int × Int)} {x : Int32} (t : Nat) (hf : zfetch mi pc = some (.lookupswitch dd ps, len)) (hs : (ps.toList.zip (ps.toList.drop 1)).all (fun (a, next) => a.1 < next.1) = true) (hx : Op.lookupswitch.offset ps.toList dd x.toInt = dd) (h0 : 0 ≤ (pc : Int) + dd) (ht : ztg pc dd = t) (kk : zG xs d (mi, t, lv, st) h Q) : zG xs d (mi, pc, lv, .int x :: st) h Q := by
  subst ht
  refine zG_b hf rfl ?_ kk
  unfold zbr
  (try dsimp only)
  rw [hx, if_pos ⟨hs, h0⟩]
end ZSW
