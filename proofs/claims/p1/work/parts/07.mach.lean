/-! THE SMALL MACHINE: a pure function that runs the methods of the tables (part 01) over a heap of labels. A reference is a label: 0 the script, 1 .. zK0 - 1 the constant arrays, from zK0 on the cells that were made, in their order. -/
/-- a cell: an array (number of its type, elements) or an object (number of its class, fields) -/
abbrev zE : Type := (Nat × List Value) ⊕ (Nat × List Value)
/-- cells; how many were made; how many slots -/
abbrev zH : Type := List zE × Nat × Nat
/-- method, pc, locals, stack -/
abbrev zF : Type := Nat × Nat × List (Nat × Value) × List Value
/-- returned, or threw (number of the exception's class) -/
abbrev zO : Type := Option Value ⊕ Nat
def zK0 : Nat := 1 + z_sp.length
def zfetch (mi pc : Nat) : Option (ClassFile.Instr × Nat) := match z_meth[mi]? with
  | some m => (m.2.2.2.2.find? (fun q => q.1 == pc)).map (fun q => q.2)
  | none => none
def zlink (mi idx : Nat) : Option (Nat × Nat × Nat) := ((z_link.getD (z_mc.getD mi 0) []).find? (fun q => q.1 == idx)).map (fun q => q.2)
def zgetl (lv : List (Nat × Value)) (i : Nat) : Option Value := (lv.find? (fun q => q.1 == i)).map (fun q => q.2)
def zst1 (lv : List (Nat × Value)) (i : Nat) (v : Value) : List (Nat × Value) := (i, v) :: lv.filter (fun q => !(q.1 == i) && !(q.1 + 1 == i && q.2.category == 2))
def zst2 (lv : List (Nat × Value)) (i : Nat) (v : Value) : List (Nat × Value) := (i, v) :: lv.filter (fun q => !(q.1 == i) && (!(q.1 == i + 1) && !(q.1 + 1 == i && q.2.category == 2)))
/-- the array under a label: its type's number, its elements -/
def zarr (xs : List Value) (h : zH) (k : Nat) : Option (Nat × List Value) :=
  if k = 0 then some (0, xs) else if k < zK0 then z_sp[k - 1]? else match h.1[k - zK0]? with
    | some (.inl a) => some a
    | _ => none
/-- a made cell -/
def zown (h : zH) (k : Nat) : Option zE := if k < zK0 then none else h.1[k - zK0]?
def zput (h : zH) (k : Nat) (e : zE) : zH := (h.1.set (k - zK0) e, h.2.1, h.2.2)
def zadd (h : zH) (e : zE) (n : Nat) : zH := (h.1 ++ [e], h.2.1 + 1, h.2.2 + n)
def zref (h : zH) : Value := .ref (h.1.length + zK0)
/-- instructions that change the stack alone -/
def zpure (i : ClassFile.Instr) (st : List Value) : Option (List Value) := match i, st with
  | .iconst n, r => some (.int (Int32.ofInt n) :: r)
  | .bipush n, r => some (.int (Int8.ofInt n).toInt32 :: r)
  | .sipush n, r => some (.int (Int16.ofInt n).toInt32 :: r)
  | .lconst n, r => some (.long (Int64.ofNat (n : Nat)) :: r)
  | .aconst_null, r => some (.null :: r)
  | .iadd, .int y :: .int x :: r => some (.int (x + y) :: r)
  | .isub, .int y :: .int x :: r => some (.int (x - y) :: r)
  | .imul, .int y :: .int x :: r => some (.int (x * y) :: r)
  | .iand, .int y :: .int x :: r => some (.int (x &&& y) :: r)
  | .ior, .int y :: .int x :: r => some (.int (x ||| y) :: r)
  | .ixor, .int y :: .int x :: r => some (.int (x ^^^ y) :: r)
  | .ishl, .int y :: .int x :: r => some (.int (x <<< (y &&& 31)) :: r)
  | .ishr, .int y :: .int x :: r => some (.int (x >>> (y &&& 31)) :: r)
  | .iushr, .int y :: .int x :: r => some (.int (x.toUInt32 >>> (y.toUInt32 &&& Int32.toUInt32 31)).toInt32 :: r)
  | .ineg, .int x :: r => some (.int (-x) :: r)
  | .ladd, .long y :: .long x :: r => some (.long (x + y) :: r)
  | .lsub, .long y :: .long x :: r => some (.long (x - y) :: r)
  | .lmul, .long y :: .long x :: r => some (.long (x * y) :: r)
  | .land, .long y :: .long x :: r => some (.long (x &&& y) :: r)
  | .lor, .long y :: .long x :: r => some (.long (x ||| y) :: r)
  | .lxor, .long y :: .long x :: r => some (.long (x ^^^ y) :: r)
  | .lneg, .long x :: r => some (.long (-x) :: r)
  | .lshl, .int y :: .long x :: r => some (.long (x <<< (y.toInt64 &&& 63)) :: r)
  | .lshr, .int y :: .long x :: r => some (.long (x >>> (y.toInt64 &&& 63)) :: r)
  | .lushr, .int y :: .long x :: r => some (.long (x.toUInt64 >>> (y.toInt64.toUInt64 &&& Int64.toUInt64 63)).toInt64 :: r)
  | .lcmp, .long y :: .long x :: r => some (.int (lg_cmp x y) :: r)
  | .i2l, .int x :: r => some (.long x.toInt64 :: r)
  | .l2i, .long x :: r => some (.int x.toInt32 :: r)
  | .i2b, .int x :: r => some (.int x.toInt8.toInt32 :: r)
  | .i2s, .int x :: r => some (.int x.toInt16.toInt32 :: r)
  | .dup, v :: r => if v.category = 1 then some (v :: v :: r) else none
  | .pop, v :: r => if v.category = 1 then some r else none
  | .dup_x1, v :: w :: r => if v.category = 1 ∧ w.category = 1 then some (v :: w :: v :: r) else none
  | .dup2, v :: w :: r => if v.category = 1 ∧ w.category = 1 then some (v :: w :: v :: w :: r) else none
  | _, _ => none
def zc (c : ClassFile.Cond) (x y : Int32) : Bool := match c with
  | .eq => decide (x = y)
  | .ne => decide (¬ x = y)
  | .lt => decide (x < y)
  | .ge => decide (y ≤ x)
  | .gt => decide (y < x)
  | .le => decide (x ≤ y)
def ztg (pc : Nat) (o : Int) : Nat := ((pc : Int) + o).toNat
/-- branches: where to, and the stack -/
def zbr (pc : Nat) (i : ClassFile.Instr) (st : List Value) : Option (Nat × List Value) := match i, st with
  | .goto o, r => some (ztg pc o, r)
  | .ifCond c o, .int x :: r => some (if zc c x 0 = true then ztg pc o else pc + 3, r)
  | .if_icmp c o, .int y :: .int x :: r => some (if zc c x y = true then ztg pc o else pc + 3, r)
  | .ifnull o, .null :: r => some (ztg pc o, r)
  | .ifnull _, .ref _ :: r => some (pc + 3, r)
  | .ifnonnull o, .ref _ :: r => some (ztg pc o, r)
  | .ifnonnull _, .null :: r => some (pc + 3, r)
  | .if_acmp .eq o, .null :: .null :: r => some (ztg pc o, r)
  | .if_acmp .eq _, .null :: .ref _ :: r => some (pc + 3, r)
  | .if_acmp .eq _, .ref _ :: .null :: r => some (pc + 3, r)
  | .if_acmp .ne _, .null :: .null :: r => some (pc + 3, r)
  | .if_acmp .ne o, .null :: .ref _ :: r => some (ztg pc o, r)
  | .if_acmp .ne o, .ref _ :: .null :: r => some (ztg pc o, r)
  | .tableswitch d lo hi offs, .int x :: r => if x.toInt < lo ∨ hi < x.toInt then (if 0 ≤ (pc : Int) + d then some (ztg pc d, r) else none) else match offs[(x.toInt - lo).toNat]? with
    | some o => if 0 ≤ (pc : Int) + o then some (ztg pc o, r) else none
    | none => none
  | .lookupswitch d ps, .int x :: r => if (ps.toList.zip (ps.toList.drop 1)).all (fun (a, next) => a.1 < next.1) = true ∧ 0 ≤ (pc : Int) + Op.lookupswitch.offset ps.toList d x.toInt then some (ztg pc (Op.lookupswitch.offset ps.toList d x.toInt), r) else none
  | _, _ => none
/-- locals: loads, stores, iinc; nL: how many there are -/
def zloc (nL : Nat) (i : ClassFile.Instr) (lv : List (Nat × Value)) (st : List Value) : Option (List (Nat × Value) × List Value) := match i, st with
  | .iload k, r => match zgetl lv k with | some (.int x) => some (lv, .int x :: r) | _ => none
  | .iload_n k, r => match zgetl lv k with | some (.int x) => some (lv, .int x :: r) | _ => none
  | .lload k, r => match zgetl lv k with | some (.long x) => some (lv, .long x :: r) | _ => none
  | .lload_n k, r => match zgetl lv k with | some (.long x) => some (lv, .long x :: r) | _ => none
  | .aload k, r => match zgetl lv k with | some (.ref x) => some (lv, .ref x :: r) | some .null => some (lv, .null :: r) | _ => none
  | .aload_n k, r => match zgetl lv k with | some (.ref x) => some (lv, .ref x :: r) | some .null => some (lv, .null :: r) | _ => none
  | .istore k, .int x :: r => if k < nL then some (zst1 lv k (.int x), r) else none
  | .istore_n k, .int x :: r => if (k : Nat) < nL then some (zst1 lv k (.int x), r) else none
  | .lstore k, .long x :: r => if k + 1 < nL then some (zst2 lv k (.long x), r) else none
  | .lstore_n k, .long x :: r => if (k : Nat) + 1 < nL then some (zst2 lv k (.long x), r) else none
  | .astore k, .ref x :: r => if k < nL then some (zst1 lv k (.ref x), r) else none
  | .astore_n k, .ref x :: r => if (k : Nat) < nL then some (zst1 lv k (.ref x), r) else none
  | .astore k, .null :: r => if k < nL then some (zst1 lv k .null, r) else none
  | .astore_n k, .null :: r => if (k : Nat) < nL then some (zst1 lv k .null, r) else none
  | .iinc k n, r => match zgetl lv k with | some (.int x) => if k < nL then some (zst1 lv k (.int (x + Int32.ofInt n)), r) else none | _ => none
  | _, _ => none
def zfits (ty : FieldType) (v : Value) : Bool := match ty, v with
  | .int, .int _ => true
  | .long, .long _ => true
  | .boolean, .int x => decide (x = 0 ∨ x = 1)
  | .object _, .ref _ => true
  | .object _, .null => true
  | .array _, .ref _ => true
  | .array _, .null => true
  | _, _ => false
/-- the number of an array type whose elements are numbers -/
def znat (t : ClassFile.ArrayType) : Option (Nat × Value) := match t with
  | .int => some (0, .int 0)
  | .long => some (1, .long 0)
  | .byte => some (2, .int 0)
  | .short => some (3, .int 0)
  | .boolean => some (4, .int 0)
  | _ => none
/-- the heap: fields, arrays, what is made; constants of the pool -/
def zheap (xs : List Value) (mi : Nat) (i : ClassFile.Instr) (st : List Value) (h : zH) : Option (List Value × zH) := match i, st with
  | .getfield x, .ref k :: r => match zlink mi x, zown h k with
    | some (t, c, j), some (.inr (c', fs)) => if t < 2 ∧ c = c' then (fs[j]?).map (fun v => (v :: r, h)) else none
    | _, _ => none
  | .putfield x, v :: .ref k :: r => match zlink mi x, zown h k with
    | some (t, c, j), some (.inr (c', fs)) => if t < 2 ∧ c = c' ∧ j < fs.length ∧ zfits ((z_fty.getD c []).getD j .int) v = true ∧ ((z_fin.getD c []).getD j true = false ∨ (t = 0 ∧ z_ini.getD mi false = true ∧ z_mc.getD mi 0 = c)) then some (r, zput h k (.inr (c, fs.set j v))) else none
    | _, _ => none
  | .getstatic x, r => match zlink mi x with
    | some (12, a, _) => if a < z_sp.length then some (.ref (a + 1) :: r, h) else none
    | _ => none
  | .ldc2_w x, r => match zlink mi x with
    | some (13, a, _) => match z_kv[a]? with | some (.long v) => some (.long v :: r, h) | _ => none
    | _ => none
  | .arraylength, .ref k :: r => match zarr xs h k with
    | some (t, vs) => if t < z_aty.length then some (.int (Int32.ofNat vs.length) :: r, h) else none
    | _ => none
  | .iaload, .int j :: .ref k :: r => match zarr xs h k with
    | some (0, vs) => if j < 0 then none else match vs[j.toNatClampNeg]? with | some (.int v) => some (.int v :: r, h) | _ => none
    | _ => none
  | .baload, .int j :: .ref k :: r => match zown h k with
    | some (.inl (2, vs)) => if j < 0 then none else match vs[j.toNatClampNeg]? with | some (.int v) => some (.int v :: r, h) | _ => none
    | some (.inl (4, vs)) => if j < 0 then none else match vs[j.toNatClampNeg]? with | some (.int v) => some (.int v :: r, h) | _ => none
    | _ => none
  | .saload, .int j :: .ref k :: r => match zown h k with
    | some (.inl (3, vs)) => if j < 0 then none else match vs[j.toNatClampNeg]? with | some (.int v) => some (.int v :: r, h) | _ => none
    | _ => none
  | .laload, .int j :: .ref k :: r => match zown h k with
    | some (.inl (1, vs)) => if j < 0 then none else match vs[j.toNatClampNeg]? with | some (.long v) => some (.long v :: r, h) | _ => none
    | _ => none
  | .aaload, .int j :: .ref k :: r => match zown h k with
    | some (.inl (t, vs)) => if j < 0 ∨ t < 5 ∨ z_aty.length ≤ t then none else match vs[j.toNatClampNeg]? with | some (.ref v) => some (.ref v :: r, h) | some .null => some (.null :: r, h) | _ => none
    | _ => none
  | .iastore, .int v :: .int j :: .ref k :: r => match zown h k with
    | some (.inl (0, vs)) => if j < 0 ∨ vs.length ≤ j.toNatClampNeg then none else some (r, zput h k (.inl (0, vs.set j.toNatClampNeg (.int v))))
    | _ => none
  | .bastore, .int v :: .int j :: .ref k :: r => match zown h k with
    | some (.inl (2, vs)) => if j < 0 ∨ vs.length ≤ j.toNatClampNeg then none else some (r, zput h k (.inl (2, vs.set j.toNatClampNeg (.int (vp_nar .byte v)))))
    | some (.inl (4, vs)) => if j < 0 ∨ vs.length ≤ j.toNatClampNeg then none else some (r, zput h k (.inl (4, vs.set j.toNatClampNeg (.int (vp_nar .boolean v)))))
    | _ => none
  | .sastore, .int v :: .int j :: .ref k :: r => match zown h k with
    | some (.inl (3, vs)) => if j < 0 ∨ vs.length ≤ j.toNatClampNeg then none else some (r, zput h k (.inl (3, vs.set j.toNatClampNeg (.int (vp_nar .short v)))))
    | _ => none
  | .lastore, .long v :: .int j :: .ref k :: r => match zown h k with
    | some (.inl (1, vs)) => if j < 0 ∨ vs.length ≤ j.toNatClampNeg then none else some (r, zput h k (.inl (1, vs.set j.toNatClampNeg (.long v))))
    | _ => none
  | .aastore, .null :: .int j :: .ref k :: r => match zown h k with
    | some (.inl (t, vs)) => if j < 0 ∨ t < 5 ∨ z_aty.length ≤ t ∨ vs.length ≤ j.toNatClampNeg then none else some (r, zput h k (.inl (t, vs.set j.toNatClampNeg .null)))
    | _ => none
  | .aastore, .ref v :: .int j :: .ref k :: r => match zown h k, zown h v with
    | some (.inl (t, vs)), some (.inr (c, _)) => if j < 0 ∨ t < 5 ∨ z_aty.length ≤ t ∨ vs.length ≤ j.toNatClampNeg ∨ ¬ z_acl.getD t 0 = c then none else some (r, zput h k (.inl (t, vs.set j.toNatClampNeg (.ref v))))
    | _, _ => none
  | .newarray t, .int n :: r => match znat t with
    | some (a, v) => if n < 0 ∨ 65536 < n.toNatClampNeg then none else some (zref h :: r, zadd h (.inl (a, List.replicate n.toNatClampNeg v)) n.toNatClampNeg)
    | _ => none
  | .anewarray x, .int n :: r => match zlink mi (x + 100000) with
    | some (3, a, _) => if n < 0 ∨ 65536 < n.toNatClampNeg then none else some (zref h :: r, zadd h (.inl (a, List.replicate n.toNatClampNeg .null)) n.toNatClampNeg)
    | _ => none
  | .new x, r => match zlink mi x with
    | some (2, c, _) => match z_def[c]? with | some fs => some (zref h :: r, zadd h (.inr (c, fs)) fs.length) | none => none
    | _ => none
  | .invokestatic x, .int b :: .int a :: r => match zlink mi x with
    | some (5, j, _) => if j = zMx ∧ (r.map fun v => v.category).sum ≤ 8 then some (.int (if a < b then b else a) :: r, h) else none
    | _ => none
  | .invokespecial x, .ref _ :: r => match zlink mi x with
    | some (11, _, _) => if (r.map fun v => v.category).sum ≤ 8 then some (r, h) else none
    | _ => none
  | _, _ => none
def z_np (mi x : Nat) : Nat := match zlink mi x with
  | some (_, _, n) => n
  | none => 0
/-- a call: the method, its arguments, what stays on the stack -/
def zcall (mi : Nat) (i : ClassFile.Instr) (st : List Value) (h : zH) : Option (Nat × List Value × List Value) := match i with
  | .invokestatic x => match zlink mi x with
    | some (t, j, n) => if t = 5 ∧ n ≤ st.length ∧ ((st.drop n).map fun v => v.category).sum ≤ 8 then some (j, (st.take n).reverse, st.drop n) else none
    | _ => none
  | .invokevirtual x => match zlink mi x, st.drop (z_np mi x) with
    | some (t, j, n), .ref k :: r => match zown h k with
      | some (.inr (c, _)) => if t = 7 ∧ n = z_np mi x ∧ n ≤ st.length ∧ (r.map fun v => v.category).sum ≤ 8 ∧ c = z_mc.getD j 0 then some (j, .ref k :: (st.take n).reverse, r) else none
      | _ => none
    | _, _ => none
  | .invokespecial x => match zlink mi x, st.drop (z_np mi x) with
    | some (t, j, n), .ref k :: r => if (t = 9 ∨ t = 10) ∧ n = z_np mi x ∧ n ≤ st.length ∧ (r.map fun v => v.category).sum ≤ 8 ∧ (zown h k).isSome = true then some (j, .ref k :: (st.take n).reverse, r) else none
    | _, _ => none
  | _ => none
/-- the end of a method by a return: what it answers -/
def zret (ret : Option FieldType) (i : ClassFile.Instr) (st : List Value) : Option (Option Value) := match i, st, ret with
  | .ireturn, [.int x], some .int => some (some (.int x))
  | .ireturn, [.int x], some .boolean => if x = 0 ∨ x = 1 then some (some (.int x)) else none
  | .lreturn, [.long x], some .long => some (some (.long x))
  | .areturn, [.ref x], some (.object _) => some (some (.ref x))
  | .areturn, [.null], some (.object _) => some (some .null)
  | .areturn, [.ref x], some (.array _) => some (some (.ref x))
  | .areturn, [.null], some (.array _) => some (some .null)
  | .return_, [], none => some none
  | _, _, _ => none
/-- 'throw new E()' at pc: the number of E -/
def zthr (mi pc : Nat) (i : ClassFile.Instr) (st : List Value) : Option Nat := match i with
  | .new x => match zlink mi x with
    | some (4, e, ic) => if zfetch mi (pc + 3) = some (.dup, 1) ∧ zfetch mi (pc + 4) = some (.invokespecial ic, 3) ∧ zfetch mi (pc + 7) = some (.athrow, 1) ∧ z_hh.getD mi [] = [] ∧ (st.map fun v => v.category).sum ≤ 8 then some e else none
    | _ => none
  | _ => none
/-- one step inside a method -/
def zstp (xs : List Value) (nL : Nat) (i : ClassFile.Instr) (len : Nat) (f : zF) (h : zH) : Option (zF × zH) :=
  match zpure i f.2.2.2 with
  | some st => some ((f.1, f.2.1 + len, f.2.2.1, st), h)
  | none => match zbr f.2.1 i f.2.2.2 with
    | some (t, st) => some ((f.1, t, f.2.2.1, st), h)
    | none => match zloc nL i f.2.2.1 f.2.2.2 with
      | some (lv, st) => some ((f.1, f.2.1 + len, lv, st), h)
      | none => match zheap xs f.1 i f.2.2.2 h with
        | some (st, h') => some ((f.1, f.2.1 + len, f.2.2.1, st), h')
        | none => none
/-- where an exception of class number e, thrown by the call at pc, is caught: behind the store of it; the local that it is stored in -/
def zcat (mi pc e : Nat) : Option (Nat × Nat) :=
  match (z_hh.getD mi []).find? (fun q => decide (q.1 ≤ pc ∧ pc < q.2.1) && (match zlink mi q.2.2.2 with | some (15, a, _) => a == e | _ => true)) with
  | some q => match zlink mi q.2.2.2, zfetch mi q.2.2.1 with
    | some (15, _, _), some (.astore k, len) => some (q.2.2.1 + len, k)
    | some (15, _, _), some (.astore_n k, len) => some (q.2.2.1 + len, k)
    | _, _ => none
  | none => none
def zesc (mi pc e : Nat) : Bool := (z_hh.getD mi []).all (fun q => !(decide (q.1 ≤ pc ∧ pc < q.2.1)) || (match zlink mi q.2.2.2 with | some (15, a, _) => !(a == e) | _ => false))
/-- the method j is there, it isn't the law itself, and it has room for these arguments -/
def zent (j : Nat) (as : List Value) : Bool := match z_meth[j]? with
  | some mj => decide ((lg_sl as).length ≤ mj.2.2.1 ∧ 0 < j ∧ j ≠ zMx)
  | none => false
def zspec (i : ClassFile.Instr) : Bool := match i with
  | .invokespecial _ => true
  | _ => false
/-- n: fuel; d: how many calls may stand at once -/
def zrun (xs : List Value) : Nat → Nat → zF → zH → Option (zO × zH)
  | 0, _, _, _ => none
  | n + 1, d, f, h => match zfetch f.1 f.2.1, z_meth[f.1]? with
    | some (i, len), some mt => match zstp xs mt.2.2.1 i len f h with
      | some (f', h') => zrun xs n d f' h'
      | none => match zret mt.2.2.2.1 i f.2.2.2 with
        | some v => some (.inl v, h)
        | none => match zthr f.1 f.2.1 i f.2.2.2 with
          | some e => if 8 ≤ d then some (.inr e, (h.1, h.2.1 + 1, h.2.2 + 6)) else none
          | none => match zcall f.1 i f.2.2.2 h, d with
            | some (j, as, rest), d' + 1 => if zent j as = false then none else match zrun xs n d' (j, 0, lv_args 0 as, []) h with
              | some (.inl v, h') => zrun xs n (d' + 1) (f.1, f.2.1 + 3, f.2.2.1, v.toList ++ rest) h'
              | some (.inr e, h') => if zspec i = true then none else match zcat f.1 f.2.1 e with
                | some (pc, k) => if k < mt.2.2.1 then zrun xs n (d' + 1) (f.1, pc, f.2.2.1.filter (fun q => !(q.1 == k) && !(q.1 + 1 == k && q.2.category == 2)), []) h' else none
                | none => if zesc f.1 f.2.1 e = true then some (.inr e, h') else none
              | none => none
            | _, _ => none
    | _, _ => none
