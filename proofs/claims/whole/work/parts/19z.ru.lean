/-! the doing of code, as a function of the nodes -/
def zmn (s : Bool) (n : Nat) : Term := .sub (.arg s.toNat) (.arg n)
def zsg (V : Term) : Bool := match V with
  | .sub (.arg s) _ => s == 1
  | _ => false
def zna (V : Term) : Nat := match V with
  | .sub _ (.arg n) => n
  | _ => 0
def ztr (b : Bool) : Term := .arg (if b = true then 22 else 21)
def zv1 (V : Term) : Term := match V with
  | .div (.arg _) v => v
  | .add (.div (.arg _) v) _ => v
  | v => v
def zv2 (V : Term) : Term := match V with
  | .add (.div (.arg _) _) w => w
  | v => v
def zrws (V : Term) : List Term := match V with
  | .old l => zels l
  | .length l => zels l
  | .sum l => zels l
  | _ => []
def zsize (V : Term) : Nat := match V with
  | .mul (.arg k) _ => k
  | V => (zrws V).length
def zpr (e : Term) : Term × Term := (zv1 e, zv2 e)
/-- the newest change of a key -/
def zfd (key : Term) : List Term → Term
  | [] => .arg 24
  | e :: L => if zcmp (zv1 e) key = 0 then (if zgo e = 1 then .arg 24 else .div (.arg 25) (zv2 e)) else zfd key L
def zgt (key V : Term) : Term := match V with
  | .sum l => zfd key (zels l)
  | .length l => zget key ((zels l).map zpr)
  | _ => .arg 24
def zud (key opt V : Term) : Term := match V with
  | .sum l => .sum (.rem (match opt with
      | .div (.arg _) v => zent2 key v
      | _ => .add (.div (.arg 29) key) key) l)
  | .length l => .length (zenc ((zupl key opt ((zels l).map zpr)).map fun e => zent2 e.1 e.2))
  | V => V
def zcons (x y : Term) : Term := match y with
  | .old l => .old (.rem x l)
  | y => y
def ztk (V : Term) : Nat := match V with
  | .mul (.arg k) _ => k
  | _ => 0
def ztw (V : Term) : Nat := match V with
  | .mul _ (.arg w) => w
  | _ => 0
def zszd (bits : Nat) (r : Bool × Nat) : Option Term := if r.2 < 2 ^ bits then some (zmn r.1 r.2) else none
def zcpn (r : Int32) : Term := if r = 0 then zmn false 0 else if r < 0 then zmn true 1 else zmn false 1
def ztst (c : Nat) (s : Bool) (n : Nat) : Bool := if c = 69 then n == 0 else if c = 70 then n != 0 else if c = 71 then s else if c = 72 then !s && n != 0 else if c = 73 then s || n == 0 else !s
/-- what a plain instruction puts on the stack; none: too many bits or characters -/
def zrv (bits c : Nat) (st : List Term) (C : Term) : Option Term :=
  if c = 31 then some (zkat st 0)
  else if c = 34 then some C
  else if c = 35 then some (.arg 20)
  else if c = 36 then some (.add (.div (.arg 23) (zkat st 0)) (zkat st 1))
  else if c = 37 then some (zv1 (zkat st 0))
  else if c = 38 then some (zv2 (zkat st 0))
  else if c = 39 then some (.div (.arg 25) (zkat st 0))
  else if c = 40 then some (.arg 24)
  else if c = 42 then some (.div (.arg 26) (zkat st 0))
  else if c = 43 then some (.div (.arg 27) (zkat st 0))
  else if c = 45 then some (.old .null)
  else if c = 46 then some (zcons (zkat st 0) (zkat st 1))
  else if c = 48 then some (zmn false (zsize (zkat st 0)))
  else if c = 51 then some (.length .null)
  else if c = 52 then some (zgt (zkat st 0) (zkat st 1))
  else if c = 53 then some (zud (zkat st 0) (zkat st 1) (zkat st 2))
  else if c = 54 then some (ztr (zgt (zkat st 0) (zkat st 1) != .arg 24))
  else if c = 55 then some (ztr (zkat st 0 == .arg 22 && zkat st 1 == .arg 22))
  else if c = 56 then some (ztr (zkat st 0 == .arg 22 || zkat st 1 == .arg 22))
  else if c = 57 then some (ztr (zkat st 0 == .arg 21))
  else if c = 60 then zszd bits (zsum (zsg (zkat st 0)) (zna (zkat st 0)) (zsg (zkat st 1)) (zna (zkat st 1)))
  else if c = 61 then zszd bits (zsum (zsg (zkat st 0)) (zna (zkat st 0)) (!(zsg (zkat st 1))) (zna (zkat st 1)))
  else if c = 62 then zszd bits ((zsg (zkat st 0) != zsg (zkat st 1)) && (zna (zkat st 0) * zna (zkat st 1) != 0), zna (zkat st 0) * zna (zkat st 1))
  else if c = 63 then (if zna (zkat st 1) = 0 then some (.arg 24) else
    if (zquo (zsg (zkat st 0)) (zna (zkat st 0)) (zsg (zkat st 1)) (zna (zkat st 1))).1.2 < 2 ^ bits ∧ (zquo (zsg (zkat st 0)) (zna (zkat st 0)) (zsg (zkat st 1)) (zna (zkat st 1))).2 < 2 ^ bits then some (.div (.arg 25) (.add (.div (.arg 23) (zmn (zquo (zsg (zkat st 0)) (zna (zkat st 0)) (zsg (zkat st 1)) (zna (zkat st 1))).1.1 (zquo (zsg (zkat st 0)) (zna (zkat st 0)) (zsg (zkat st 1)) (zna (zkat st 1))).1.2)) (zmn false (zquo (zsg (zkat st 0)) (zna (zkat st 0)) (zsg (zkat st 1)) (zna (zkat st 1))).2))) else none)
  else if c = 64 then some (zmn (!(zsg (zkat st 0)) && zna (zkat st 0) != 0) (zna (zkat st 0)))
  else if c = 65 then some (zmn false (zna (zkat st 0)))
  else if c = 66 then some (if zsg (zkat st 0) = true then .arg 24 else .div (.arg 25) (zkat st 0))
  else if c = 67 then some (zkat st 0)
  else if c = 68 then some (zcpn (zcmp (zkat st 0) (zkat st 1)))
  else if c = 75 then (if ztk (zkat st 0) + ztk (zkat st 1) ≤ 8 then some (.mul (.arg (ztk (zkat st 0) + ztk (zkat st 1))) (.arg (ztw (zkat st 0) + ztw (zkat st 1) / 2 ^ (8 * ztk (zkat st 0))))) else none)
  else some (ztr (ztst c (zsg (zkat st 0)) (zna (zkat st 0))))
def zop (bits c : Nat) (st : List Term) (C : Term) : Option (List Term) := if c = 30 then some (st.drop 1) else if c = 32 then some (zkat st 1 :: zkat st 0 :: st.drop 2) else (zrv bits c st C).map fun v => v :: st.drop (zktk c)
/-- how a call's code ends: 2 the bound of cost, 3 of bits, 4 FAIL with a value; or a stack, and what was paid -/
abbrev zro := (Nat × Term) ⊕ (List Term × Nat)
abbrev zrR := Nat → List Term × Nat → zro
def zitm (V : Term) : List Term := match V with
  | .length l => (zels l).map fun e => .add (.div (.arg 23) (zv1 e)) (zv2 e)
  | V => zrws V
def zit (r : List Term × Nat → zro) (bound : Nat) : List Term → List Term × Nat → zro
  | [], s => .inr s
  | v :: l, s => if s.2 + 1 ≤ bound then (match r (v :: s.1, s.2 + 1) with
      | .inl e => .inl e
      | .inr s' => zit r bound l s') else .inl (2, .null)
def zmpl (r : List Term × Nat → zro) (bound : Nat) : List Term → List Term → List Term × Nat → zro
  | [], acc, s => .inr (.old (zenc acc) :: s.1, s.2)
  | v :: l, acc, s => if s.2 + 1 ≤ bound then (match r (v :: s.1, s.2 + 1) with
      | .inl e => .inl e
      | .inr s' => zmpl r bound l (acc ++ [zkat s'.1 0]) (s'.1.drop 1, s'.2)) else .inl (2, .null)
def zlpl (r : List Term × Nat → zro) (bound : Nat) : Nat → List Term × Nat → zro
  | 0, s => .inr (s.1.drop 1, s.2)
  | n + 1, s => if zkat s.1 0 = .arg 22 then (if s.2 + 1 ≤ bound then (match r (s.1.drop 1, s.2 + 1) with
      | .inl e => .inl e
      | .inr s' => zlpl r bound n s') else .inl (2, .null)) else .inr (s.1.drop 1, s.2)
def zcst (c : Nat) (st : List Term) : Nat := if c = 53 then (match zkat st 2 with
  | .sum _ => 1
  | V => 1 + zsize V) else 1
/-- the constant of PUSH -/
def zpcn (N : List zNt) (j : Nat) : Term := match zTy N (j + 1) 0 with
  | .inr T => ztv N (znx N (j + 1)) false T
  | _ => .null
def zract (N : List zNt) (bits bound : Nat) (r : zrR) (j : Nat) (e : zNt) (st : List Term) (p : Nat) : zro :=
  if eC e = 33 then (match r (j + 1) (st.drop 1, p) with
    | .inl x => .inl x
    | .inr (l, q) => .inr (zkat st 0 :: l, q))
  else if eC e = 58 then r (if zkat st 0 = .arg 22 then j + 1 else znx N (j + 1)) (st.drop 1, p)
  else if eC e = 41 then (match zkat st 0 with
    | .div (.arg _) v => r (znx N (j + 1)) (v :: st.drop 1, p)
    | _ => r (j + 1) (st.drop 1, p))
  else if eC e = 44 then (match zkat st 0 with
    | .div (.arg c) v => r (if c = 26 then j + 1 else znx N (j + 1)) (v :: st.drop 1, p)
    | _ => .inl (0, .null))
  else if eC e = 47 then (match zkat st 0 with
    | .old (.rem v l) => r (j + 1) (v :: .old l :: st.drop 1, p)
    | _ => r (znx N (j + 1)) (st.drop 1, p))
  else if eC e = 49 then zit (r (j + 1)) bound (zitm (zkat st 0)) (st.drop 1, p)
  else if eC e = 50 then zmpl (r (j + 1)) bound (zrws (zkat st 0)) [] (st.drop 1, p)
  else if eC e = 59 then zlpl (r (j + 1)) bound 151 (st, p)
  else if eC e = 76 then .inl (4, zkat st 0)
  else (match zop bits (eC e) st (zpcn N j) with
    | none => .inl (3, .null)
    | some l => .inr (l, p))
def zrst (N : List zNt) (bits bound : Nat) (r : zrR) (j : Nat) (s : List Term × Nat) : zro := match N[j]? with
  | none => .inl (0, .null)
  | some e => if s.2 + zcst (eC e) s.1 ≤ bound then zract N bits bound r j e s.1 (s.2 + zcst (eC e) s.1) else .inl (2, .null)
def zrfo (g : Nat → List Term × Nat → zro) : List Nat → List Term × Nat → zro
  | [], s => .inr s
  | j :: l, s => match g j s with
    | .inl e => .inl e
    | .inr s' => zrfo g l s'
def zrB (N : List zNt) (bits bound : Nat) (r : zrR) (i : Nat) (s : List Term × Nat) : zro := match N[i]? with
  | none => .inl (0, .null)
  | some e => zrfo (zrst N bits bound r) (zchn N (eM e) (i + 1)) s
/-- a row of code is done -/
def zrbl (N : List zNt) (bits bound : Nat) : zrR := zfix (fun _ => .inl (0, .null)) (zrB N bits bound) 200
theorem zrfo_congr {g g' : Nat → List Term × Nat → zro} : ∀ (l : List Nat) (s : List Term × Nat), (∀ j, j ∈ l → g j = g' j) → zrfo g l s = zrfo g' l s
  | [], s, _ => rfl
  | j :: l, s, h => by
    rw [zrfo, zrfo, h j List.mem_cons_self]
    cases g' j s with
    | inl p => rfl
    | inr s' => exact zrfo_congr l s' (fun j hj => h j (List.mem_cons_of_mem _ hj))
theorem zract_congr {N : List zNt} {bits bound : Nat} {r r' : zrR} {j : Nat} (h1 : r (j + 1) = r' (j + 1)) (h2 : r (znx N (j + 1)) = r' (znx N (j + 1))) : zract N bits bound r j = zract N bits bound r' j := by
  funext e st p
  have hi : ∀ (c : Prop) [Decidable c], r (if c then j + 1 else znx N (j + 1)) = r' (if c then j + 1 else znx N (j + 1)) := fun c _ => by
    by_cases hc : c
    · rw [if_pos hc]; exact h1
    · rw [if_neg hc]; exact h2
  have h44 : (match zkat st 0 with
    | .div (.arg c) v => r (if c = 26 then j + 1 else znx N (j + 1)) (v :: st.drop 1, p)
    | _ => .inl (0, .null)) = (match zkat st 0 with
    | .div (.arg c) v => r' (if c = 26 then j + 1 else znx N (j + 1)) (v :: st.drop 1, p)
    | _ => .inl (0, .null)) := by
    split
    · rw [hi]
    · rfl
  unfold zract
  rw [h1, h2, hi, h44]
theorem zrbl_eq {N : List zNt} {bits bound : Nat} (hN : N.length ≤ 100) (i : Nat) : zrbl N bits bound i = zrB N bits bound (zrbl N bits bound) i := by
  have := zfix_eq (bot := fun _ => .inl (0, .null)) (body := zrB N bits bound) (n := N.length) (g := 200) (i := i) (fun r i hi => funext fun s => by
    unfold zrB; rw [List.getElem?_eq_none hi]) (fun r r' i hr => funext fun s => by
    unfold zrB
    cases he : N[i]? with
    | none => rfl
    | some e =>
      dsimp only
      rw [zrfo_congr _ _ (fun j hj => ?_)]
      have hj := zchn_ge _ _ _ hj
      funext s
      unfold zrst
      rw [zract_congr (hr (j + 1) (by omega)) (hr (znx N (j + 1)) (by have := znx_ge (N := N) (i := j + 1); omega))]) (by omega)
  exact this
/-! values of a type -/
/-- keys ascend -/
def zSrt (es : List (Term × Term)) : Prop := List.Pairwise (fun a b => zcmp a.1 b.1 < 0) es
def zVt : Term → Term → Prop
  | .arg c, V => (c = 0 ∧ V = .arg 20) ∨ (c = 1 ∧ (V = .arg 21 ∨ V = .arg 22)) ∨ ((c = 2 ∨ c = 3) ∧ ∃ s n, V = zmn s n ∧ n < 2 ^ 120 ∧ (s = true → n ≠ 0) ∧ (c = 3 → s = false)) ∨ (c = 4 ∧ ∃ k w, V = .mul (.arg k) (.arg w) ∧ zTxo k w)
  | .div (.arg c) T, V => (c = 6 ∧ (V = .arg 24 ∨ ∃ v, V = .div (.arg 25) v ∧ zVt T v)) ∨ (c = 8 ∧ ∃ L, V = .old (zenc L) ∧ ∀ v ∈ L, zVt T v)
  | .add (.div (.arg c) A) B, V => (c = 5 ∧ ∃ a b, V = .add (.div (.arg 23) a) b ∧ zVt A a ∧ zVt B b) ∨ (c = 7 ∧ ((∃ v, V = .div (.arg 26) v ∧ zVt A v) ∨ ∃ v, V = .div (.arg 27) v ∧ zVt B v)) ∨ (c = 9 ∧ ∃ es : List (Term × Term), V = .length (zenc (es.map fun e => zent2 e.1 e.2)) ∧ (∀ e ∈ es, zVt A e.1 ∧ zVt B e.2) ∧ zSrt es) ∨ (c = 10 ∧ ∃ L, V = .sum (zenc L) ∧ ∀ x ∈ L, ∃ k v, zVt A k ∧ ((x = zent2 k v ∧ zVt B v) ∨ x = .add (.div (.arg 29) k) k))
  | _, _ => False
theorem zels_enc : ∀ L : List Term, zels (zenc L) = L
  | [] => rfl
  | v :: L => by rw [zenc, zels, zels_enc L]
theorem zsh2 {T : Term} (h : zTok T) (hc : ztc T = 5 ∨ ztc T = 7 ∨ ztc T = 9 ∨ ztc T = 10) : T = .add (.div (.arg (ztc T)) (zt1 T)) (zt2 T) := by
  unfold zTok at h
  split at h
  · rename_i c; have : c = 5 ∨ c = 7 ∨ c = 9 ∨ c = 10 := hc; omega
  · rename_i c a; have : c = 5 ∨ c = 7 ∨ c = 9 ∨ c = 10 := hc; omega
  · rfl
  · exact h.elim
theorem zsh1 {T : Term} (h : zTok T) (hc : ztc T = 6 ∨ ztc T = 8) : T = .div (.arg (ztc T)) (zt1 T) := by
  unfold zTok at h
  split at h
  · rename_i c; have : c = 6 ∨ c = 8 := hc; omega
  · rfl
  · rename_i c a b; have : c = 6 ∨ c = 8 := hc; omega
  · exact h.elim
section RT
variable {T A B V W a b c K : Term}
theorem zVt_unit (ht : zTok T) (hc : ztc T = 0) (hv : zVt T V) : V = .arg 20 := by
  rw [zarg_c ht (by omega), hc] at hv
  rcases hv with ⟨_, h⟩ | ⟨h, _⟩ | ⟨h, _⟩ | ⟨h, _⟩
  · exact h
  · omega
  · omega
  · omega
theorem zVt_bool (ht : zTok T) (hc : ztc T = 1) (hv : zVt T V) : V = .arg 21 ∨ V = .arg 22 := by
  rw [zarg_c ht (by omega), hc] at hv
  rcases hv with ⟨h, _⟩ | ⟨_, h⟩ | ⟨h, _⟩ | ⟨h, _⟩
  · omega
  · exact h
  · omega
  · omega
theorem zVt_num (ht : zTok T) (hc : ztc T = 2 ∨ ztc T = 3) (hv : zVt T V) : ∃ s n, V = zmn s n ∧ n < 2 ^ 120 ∧ (s = true → n ≠ 0) ∧ (ztc T = 3 → s = false) := by
  rw [zarg_c ht (by omega)] at hv
  rcases hv with ⟨h, _⟩ | ⟨h, _⟩ | ⟨_, h⟩ | ⟨h, _⟩
  · omega
  · omega
  · exact h
  · omega
theorem zVt_text (ht : zTok T) (hc : ztc T = 4) (hv : zVt T V) : ∃ k w, V = .mul (.arg k) (.arg w) ∧ zTxo k w := by
  rw [zarg_c ht (by omega), hc] at hv
  rcases hv with ⟨h, _⟩ | ⟨h, _⟩ | ⟨h, _⟩ | ⟨_, h⟩
  · omega
  · omega
  · omega
  · exact h
theorem zVt_pair (ht : zTok T) (hc : ztc T = 5) (hv : zVt T V) : ∃ a b, V = .add (.div (.arg 23) a) b ∧ zVt (zt1 T) a ∧ zVt (zt2 T) b := by
  rw [zsh2 ht (by omega), hc] at hv
  rcases hv with ⟨_, h⟩ | ⟨h, _⟩ | ⟨h, _⟩ | ⟨h, _⟩
  · exact h
  · omega
  · omega
  · omega
theorem zVt_opt (ht : zTok T) (hc : ztc T = 6) (hv : zVt T V) : V = .arg 24 ∨ ∃ v, V = .div (.arg 25) v ∧ zVt (zt1 T) v := by
  rw [zsh1 ht (by omega), hc] at hv
  rcases hv with ⟨_, h⟩ | ⟨h, _⟩
  · exact h
  · omega
theorem zVt_or (ht : zTok T) (hc : ztc T = 7) (hv : zVt T V) : (∃ v, V = .div (.arg 26) v ∧ zVt (zt1 T) v) ∨ ∃ v, V = .div (.arg 27) v ∧ zVt (zt2 T) v := by
  rw [zsh2 ht (by omega), hc] at hv
  rcases hv with ⟨h, _⟩ | ⟨_, h⟩ | ⟨h, _⟩ | ⟨h, _⟩
  · omega
  · exact h
  · omega
  · omega
theorem zVt_list (ht : zTok T) (hc : ztc T = 8) (hv : zVt T V) : ∃ L, V = .old (zenc L) ∧ ∀ v ∈ L, zVt (zt1 T) v := by
  rw [zsh1 ht (by omega), hc] at hv
  rcases hv with ⟨h, _⟩ | ⟨_, h⟩
  · omega
  · exact h
theorem zVt_map (ht : zTok T) (hc : ztc T = 9) (hv : zVt T V) : ∃ es : List (Term × Term), V = .length (zenc (es.map fun e => zent2 e.1 e.2)) ∧ (∀ e ∈ es, zVt (zt1 T) e.1 ∧ zVt (zt2 T) e.2) ∧ zSrt es := by
  rw [zsh2 ht (by omega), hc] at hv
  rcases hv with ⟨h, _⟩ | ⟨h, _⟩ | ⟨_, h⟩ | ⟨h, _⟩
  · omega
  · omega
  · exact h
  · omega
theorem zVt_big (ht : zTok T) (hc : ztc T = 10) (hv : zVt T V) : ∃ L, V = .sum (zenc L) ∧ ∀ x ∈ L, ∃ k v, zVt (zt1 T) k ∧ ((x = zent2 k v ∧ zVt (zt2 T) v) ∨ x = .add (.div (.arg 29) k) k) := by
  rw [zsh2 ht (by omega), hc] at hv
  rcases hv with ⟨h, _⟩ | ⟨h, _⟩ | ⟨h, _⟩ | ⟨_, h⟩
  · omega
  · omega
  · omega
  · exact h
theorem zpr_ent (k v : Term) : zpr (zent2 k v) = (k, v) := rfl
theorem zpr_map (es : List (Term × Term)) : (es.map fun e => zent2 e.1 e.2).map zpr = es := by
  rw [List.map_map]
  exact (List.map_congr_left (fun e _ => rfl)).trans (List.map_id _)
/-! the order of simple values -/
theorem zord_v (s : Bool) (n : Nat) (t : Bool) (m : Nat) : zord s n t m = -1 ∨ zord s n t m = 0 ∨ zord s n t m = 1 := by
  unfold zord
  split
  · split
    · exact Or.inl rfl
    · exact Or.inr (Or.inr rfl)
  · split
    · exact Or.inr (Or.inl rfl)
    · split
      · exact Or.inl rfl
      · exact Or.inr (Or.inr rfl)
/-- a number that is ordered as they are -/
def zint (s : Bool) (n : Nat) : Int := if s = true then -(n : Int) else n
theorem zord_i {s : Bool} {n : Nat} {t : Bool} {m : Nat} (hs : s = true → n ≠ 0) (ht : t = true → m ≠ 0) : zord s n t m = if zint s n < zint t m then -1 else if zint s n = zint t m then 0 else 1 := by
  cases s with
  | false =>
    cases t with
    | false =>
      show (if n = m then (0 : Int32) else if (decide (n < m)) ≠ false then -1 else 1) = if ((n : Int) < m) then -1 else if (n : Int) = m then 0 else 1
      by_cases h : n = m
      · subst h; rw [if_pos rfl, if_neg (by omega), if_pos rfl]
      · rw [if_neg h]
        by_cases h2 : n < m
        · rw [decide_eq_true h2, if_pos (by decide), if_pos (by omega)]
        · rw [decide_eq_false h2, if_neg (by decide), if_neg (by omega), if_neg (by omega)]
    | true =>
      have := ht rfl
      show (1 : Int32) = if ((n : Int) < -(m : Int)) then -1 else if (n : Int) = -(m : Int) then 0 else 1
      rw [if_neg (by omega), if_neg (by omega)]
  | true =>
    have := hs rfl
    cases t with
    | false =>
      show (-1 : Int32) = if (-(n : Int) < (m : Int)) then -1 else if -(n : Int) = (m : Int) then 0 else 1
      rw [if_pos (by omega)]
    | true =>
      show (if n = m then (0 : Int32) else if (decide (n < m)) ≠ true then -1 else 1) = if (-(n : Int) < -(m : Int)) then -1 else if -(n : Int) = -(m : Int) then 0 else 1
      by_cases h : n = m
      · subst h; rw [if_pos rfl, if_neg (by omega), if_pos rfl]
      · rw [if_neg h]
        by_cases h2 : n < m
        · rw [decide_eq_true h2, if_neg (by decide), if_neg (by omega), if_neg (by omega)]
        · rw [decide_eq_false h2, if_pos (by decide), if_pos (by omega)]
/-- simple values of one type are ordered -/
def zOr (a b c : Term) : Prop := (zcmp a b = -1 ∨ zcmp a b = 0 ∨ zcmp a b = 1) ∧ (zcmp a b = 0 ↔ a = b) ∧ (zcmp a b = -1 ↔ zcmp b a = 1) ∧ (zcmp a b = -1 → zcmp b c = -1 → zcmp a c = -1)
theorem ztxo_eq {k l w : Nat} (h1 : zTxo k w) (h2 : zTxo l w) : k = l := by
  have key : ∀ {k l : Nat}, zTxo k w → zTxo l w → k < l → False := by
    rintro k l ⟨a1, a2, a3, a4⟩ ⟨b1, b2, b3, b4⟩ hlt
    have := (b4 k hlt).1
    have e : w / 2 ^ (8 * (7 - k)) % 256 = 0 := by
      have hk : 8 * (8 - k) = 8 * (7 - k) + 8 := by omega
      rw [hk, Nat.pow_add] at a3
      have : w / 2 ^ (8 * (7 - k)) % 2 ^ 8 = 0 := by
        have h := Nat.mod_mul_right_div_self w (2 ^ (8 * (7 - k))) (2 ^ 8)
        rw [a3] at h
        rw [← h, Nat.zero_div]
      exact this
    omega
  rcases Nat.lt_trichotomy k l with h | h | h
  · exact (key h1 h2 h).elim
  · exact h
  · exact (key h2 h1 h).elim
theorem zSimp_t : ∀ (K a b : Term), zTok K → ztsim K = true → zVt K a → zVt K b → zSimp a b := by
  intro K
  fun_induction ztsim K with
  | case1 c =>
    intro a b hk hs ha hb
    have hc : 1 ≤ c ∧ c ≤ 4 := of_decide_eq_true hs
    rcases ha with ⟨h, _⟩ | ⟨h1, h2⟩ | ⟨h1, s, n, h2, _⟩ | ⟨h1, k, w, h2, _⟩
    · omega
    · rcases hb with ⟨h, _⟩ | ⟨g1, g2⟩ | ⟨g1, _⟩ | ⟨g1, _⟩
      · omega
      · rcases h2 with rfl | rfl <;> rcases g2 with rfl | rfl <;> exact ⟨by decide, by decide⟩
      · omega
      · omega
    · rcases hb with ⟨h, _⟩ | ⟨g1, _⟩ | ⟨g1, t, m, g2, _⟩ | ⟨g1, _⟩
      · omega
      · omega
      · rw [h2, g2]; trivial
      · omega
    · rcases hb with ⟨h, _⟩ | ⟨g1, _⟩ | ⟨g1, _⟩ | ⟨g1, l, u, g2, _⟩
      · omega
      · omega
      · omega
      · rw [h2, g2]; trivial
  | case2 c A B ih1 ih2 =>
    intro a b hk hs ha hb
    simp at hs
    obtain ⟨⟨rfl, s1⟩, s2⟩ := hs
    rcases ha with ⟨_, a1, a2, rfl, h1, h2⟩ | ⟨h, _⟩ | ⟨h, _⟩ | ⟨h, _⟩
    · rcases hb with ⟨_, b1, b2, rfl, g1, g2⟩ | ⟨h, _⟩ | ⟨h, _⟩ | ⟨h, _⟩
      · exact ⟨⟨rfl, rfl⟩, ih1 a1 b1 hk.2.1 s1 h1 g1, ih2 a2 b2 hk.2.2 s2 h2 g2⟩
      · omega
      · omega
      · omega
    · omega
    · omega
    · omega
  | case3 => intro a b hk hs; cases hs
theorem zdep_t : ∀ (K a : Term), zTok K → ztsim K = true → zVt K a → zdep a + 1 ≤ ztdep K ∧ zdep a ≤ 7 + zdep a := by
  intro K
  fun_induction ztsim K with
  | case1 c =>
    intro a hk hs ha
    have hc : 1 ≤ c ∧ c ≤ 4 := of_decide_eq_true hs
    refine ⟨?_, by omega⟩
    rcases ha with ⟨h, _⟩ | ⟨h1, h2⟩ | ⟨h1, s, n, h2, _⟩ | ⟨h1, k, w, h2, _⟩
    · omega
    · rcases h2 with rfl | rfl <;> exact (by decide : 0 + 1 ≤ 1)
    · rw [h2]; exact (by decide : 0 + 1 ≤ 1)
    · rw [h2]; exact (by decide : 0 + 1 ≤ 1)
  | case2 c A B ih1 ih2 =>
    intro a hk hs ha
    simp at hs
    obtain ⟨⟨rfl, s1⟩, s2⟩ := hs
    refine ⟨?_, by omega⟩
    rcases ha with ⟨_, a1, a2, rfl, h1, h2⟩ | ⟨h, _⟩ | ⟨h, _⟩ | ⟨h, _⟩
    · have q1 := (ih1 a1 hk.2.1 s1 h1).1
      have q2 := (ih2 a2 hk.2.2 s2 h2).1
      show 1 + max (zdep a1) (zdep a2) + 1 ≤ 1 + max (ztdep A) (ztdep B)
      omega
    · omega
    · omega
    · omega
  | case3 => intro a hk hs; cases hs
theorem zOr_t : ∀ (K a b c : Term), zTok K → ztsim K = true → zVt K a → zVt K b → zVt K c → zOr a b c := by
  intro K
  fun_induction ztsim K with
  | case1 q =>
    intro a b c hk hs ha hb hc
    have hq : 1 ≤ q ∧ q ≤ 4 := of_decide_eq_true hs
    rcases ha with ⟨h, _⟩ | ⟨h1, h2⟩ | ⟨h1, s, n, h2, h3, h4, _⟩ | ⟨h1, k, w, h2, h3⟩
    · omega
    · rcases hb with ⟨h, _⟩ | ⟨g1, g2⟩ | ⟨g1, _⟩ | ⟨g1, _⟩
      · omega
      · rcases hc with ⟨h, _⟩ | ⟨f1, f2⟩ | ⟨f1, _⟩ | ⟨f1, _⟩
        · omega
        · unfold zOr
          rcases h2 with rfl | rfl <;> rcases g2 with rfl | rfl <;> rcases f2 with rfl | rfl <;> decide
        · omega
        · omega
      · omega
      · omega
    · rcases hb with ⟨h, _⟩ | ⟨g1, _⟩ | ⟨g1, t, m, g2, g3, g4, _⟩ | ⟨g1, _⟩
      · omega
      · omega
      · rcases hc with ⟨h, _⟩ | ⟨f1, _⟩ | ⟨f1, u, l, f2, f3, f4, _⟩ | ⟨f1, _⟩
        · omega
        · omega
        · rw [h2, g2, f2]
          have tb : ∀ z : Bool, (z.toNat == 1) = z := fun z => by cases z <;> rfl
          have cm : ∀ s n t m, zcmp (zmn s n) (zmn t m) = zord s n t m := fun s n t m => by
            show zord (s.toNat == 1) n (t.toNat == 1) m = _
            rw [tb, tb]
          unfold zOr
          rw [cm, cm, cm, cm]
          have inj : zint s n = zint t m ↔ zmn s n = zmn t m := by
            cases s with
            | false =>
              cases t with
              | false =>
                refine ⟨fun z => ?_, fun z => ?_⟩
                · have z : (n : Int) = m := z
                  have : n = m := by omega
                  rw [this]
                · injection z with _ z
                  injection z with z
                  show (n : Int) = m
                  omega
              | true =>
                have := g4 rfl
                refine ⟨fun z => ?_, fun z => ?_⟩
                · have z : (n : Int) = -(m : Int) := z
                  omega
                · injection z with z _
                  injection z with z
                  cases z
            | true =>
              have := h4 rfl
              cases t with
              | false =>
                refine ⟨fun z => ?_, fun z => ?_⟩
                · have z : -(n : Int) = (m : Int) := z
                  omega
                · injection z with z _
                  injection z with z
                  cases z
              | true =>
                refine ⟨fun z => ?_, fun z => ?_⟩
                · have z : -(n : Int) = -(m : Int) := z
                  have : n = m := by omega
                  rw [this]
                · injection z with _ z
                  injection z with z
                  show -(n : Int) = -(m : Int)
                  omega
          rw [zord_i h4 g4, zord_i g4 h4, zord_i g4 f4, zord_i h4 f4]
          refine ⟨?_, ?_, ?_, ?_⟩
          · split
            · exact Or.inl rfl
            · split
              · exact Or.inr (Or.inl rfl)
              · exact Or.inr (Or.inr rfl)
          · rw [← inj]
            split
            · constructor
              · intro z; exact absurd z (by decide)
              · intro z; omega
            · split
              · constructor
                · intro _; assumption
                · intro _; rfl
              · constructor
                · intro z; exact absurd z (by decide)
                · intro z; omega
          · split
            · rw [if_neg (by omega), if_neg (by omega)]
              exact ⟨fun _ => rfl, fun _ => rfl⟩
            · split
              · rw [if_neg (by omega), if_pos (by omega)]
                exact ⟨fun z => absurd z (by decide), fun z => absurd z (by decide)⟩
              · rw [if_pos (by omega)]
                exact ⟨fun z => absurd z (by decide), fun z => absurd z (by decide)⟩
          · intro z1 z2
            have q1 : zint s n < zint t m := by
              by_cases q : zint s n < zint t m
              · exact q
              · rw [if_neg q] at z1; split at z1 <;> exact absurd z1 (by decide)
            have q2 : zint t m < zint u l := by
              by_cases q : zint t m < zint u l
              · exact q
              · rw [if_neg q] at z2; split at z2 <;> exact absurd z2 (by decide)
            rw [if_pos (by omega)]
        · omega
      · omega
    · rcases hb with ⟨h, _⟩ | ⟨g1, _⟩ | ⟨g1, _⟩ | ⟨g1, l, u, g2, g3⟩
      · omega
      · omega
      · omega
      · rcases hc with ⟨h, _⟩ | ⟨f1, _⟩ | ⟨f1, _⟩ | ⟨f1, l2, u2, f2, f3⟩
        · omega
        · omega
        · omega
        · rw [h2, g2, f2]
          unfold zOr
          show ((if w < u then (-1 : Int32) else if w = u then 0 else 1) = -1 ∨ (if w < u then (-1 : Int32) else if w = u then 0 else 1) = 0 ∨ (if w < u then (-1 : Int32) else if w = u then 0 else 1) = 1) ∧ ((if w < u then (-1 : Int32) else if w = u then 0 else 1) = 0 ↔ _) ∧ ((if w < u then (-1 : Int32) else if w = u then 0 else 1) = -1 ↔ (if u < w then (-1 : Int32) else if u = w then 0 else 1) = 1) ∧ ((if w < u then (-1 : Int32) else if w = u then 0 else 1) = -1 → (if u < u2 then (-1 : Int32) else if u = u2 then 0 else 1) = -1 → (if w < u2 then (-1 : Int32) else if w = u2 then 0 else 1) = -1)
          refine ⟨?_, ?_, ?_, ?_⟩
          · split
            · exact Or.inl rfl
            · split
              · exact Or.inr (Or.inl rfl)
              · exact Or.inr (Or.inr rfl)
          · split
            · constructor
              · intro z; exact absurd z (by decide)
              · intro z; injection z with _ z; injection z with z; omega
            · split
              · rename_i hwu
                subst hwu
                rw [ztxo_eq h3 g3]
                exact ⟨fun _ => rfl, fun _ => rfl⟩
              · constructor
                · intro z; exact absurd z (by decide)
                · intro z; injection z with _ z; injection z with z; omega
          · split
            · rw [if_neg (by omega), if_neg (by omega)]
              exact ⟨fun _ => rfl, fun _ => rfl⟩
            · split
              · rw [if_neg (by omega), if_pos (by omega)]
                exact ⟨fun z => absurd z (by decide), fun z => absurd z (by decide)⟩
              · rw [if_pos (by omega)]
                exact ⟨fun z => absurd z (by decide), fun z => absurd z (by decide)⟩
          · intro z1 z2
            have q1 : w < u := by
              by_cases q : w < u
              · exact q
              · rw [if_neg q] at z1; split at z1 <;> exact absurd z1 (by decide)
            have q2 : u < u2 := by
              by_cases q : u < u2
              · exact q
              · rw [if_neg q] at z2; split at z2 <;> exact absurd z2 (by decide)
            rw [if_pos (by omega)]
  | case2 q A B ih1 ih2 =>
    intro a b c hk hs ha hb hc
    simp at hs
    obtain ⟨⟨rfl, s1⟩, s2⟩ := hs
    rcases ha with ⟨_, a1, a2, rfl, h1, h2⟩ | ⟨h, _⟩ | ⟨h, _⟩ | ⟨h, _⟩
    · rcases hb with ⟨_, b1, b2, rfl, g1, g2⟩ | ⟨h, _⟩ | ⟨h, _⟩ | ⟨h, _⟩
      · rcases hc with ⟨_, c1, c2, rfl, f1, f2⟩ | ⟨h, _⟩ | ⟨h, _⟩ | ⟨h, _⟩
        · have o1 := ih1 a1 b1 c1 hk.2.1 s1 h1 g1 f1
          have o2 := ih2 a2 b2 c2 hk.2.2 s2 h2 g2 f2
          have o1' := ih1 b1 a1 c1 hk.2.1 s1 g1 h1 f1
          have o2' := ih2 b2 a2 c2 hk.2.2 s2 g2 h2 f2
          have o3 := ih1 b1 c1 a1 hk.2.1 s1 g1 f1 h1
          have o4 := ih1 a1 c1 b1 hk.2.1 s1 h1 f1 g1
          unfold zOr
          have cm : ∀ x1 x2 y1 y2, zcmp (.add (.div (.arg 23) x1) x2) (.add (.div (.arg 23) y1) y2) = if zcmp x1 y1 = 0 then zcmp x2 y2 else zcmp x1 y1 := fun _ _ _ _ => rfl
          rw [cm, cm, cm, cm]
          obtain ⟨p1, p2, p3, p4⟩ := o1
          obtain ⟨q1, q2, q3, q4⟩ := o2
          refine ⟨?_, ?_, ?_, ?_⟩
          · split
            · exact q1
            · exact p1
          · split
            · rename_i z
              rw [q2, p2.mp z]
              constructor
              · rintro rfl; rfl
              · intro z; injection z
            · rename_i z
              constructor
              · intro w; exact absurd w z
              · intro w
                injection w with w _
                injection w with _ w
                exact absurd (p2.mpr w) z
          · by_cases z : zcmp a1 b1 = 0
            · rw [if_pos z, if_pos (by rw [p2.mp z]; have := o1'.2.1; rw [p2.mp z] at this; exact this.mpr rfl)]
              exact q3
            · rw [if_neg z, if_neg (fun w => z (by rw [o1'.2.1.mp w]; have := p2; rw [o1'.2.1.mp w] at this; exact this.mpr rfl))]
              exact p3
          · intro z1 z2
            by_cases w1 : zcmp a1 b1 = 0
            · rw [if_pos w1] at z1
              have e1 := p2.mp w1
              subst e1
              by_cases w2 : zcmp a1 c1 = 0
              · rw [if_pos w2] at z2 ⊢
                exact q4 z1 z2
              · rw [if_neg w2] at z2 ⊢
                exact z2
            · rw [if_neg w1] at z1
              by_cases w2 : zcmp b1 c1 = 0
              · have e2 := o3.2.1.mp w2
                subst e2
                rw [if_neg w1]
                exact z1
              · rw [if_neg w2] at z2
                have := p4 z1 z2
                rw [this, if_neg (by decide)]
        · omega
        · omega
        · omega
      · omega
      · omega
      · omega
    · omega
    · omega
    · omega
  | case3 => intro a b c hk hs; cases hs
end RT
/-! maps: keys ascend; bigs: the newest change counts -/
def zbm : List Term → List (Term × Term)
  | [] => []
  | x :: L => zupl (zv1 x) (if zgo x = 1 then .arg 24 else .div (.arg 25) (zv2 x)) (zbm L)
def zopl (key opt : Term) : List (Term × Term) := match opt with
  | .div (.arg _) v => [(key, v)]
  | _ => []
section RM
variable {K key opt : Term} {es : List (Term × Term)}
theorem zkb_c0 {e : Term × Term} (h : zcmp e.1 key < 0) : zkb key (e :: es) = zkb key es + 1 := by rw [zkb, if_pos h]
theorem zkb_c1 {e : Term × Term} (h : ¬ zcmp e.1 key < 0) : zkb key (e :: es) = 0 := by rw [zkb, if_neg h]
theorem zka_s {e : Term × Term} {i : Nat} : zka key (e :: es) (i + 1) = zka key es i := by unfold zka; rw [List.getElem?_cons_succ]
theorem zka_0 {e : Term × Term} : zka key (e :: es) 0 = (zcmp e.1 key == 0) := by
  unfold zka
  rw [List.getElem?_cons_zero]
theorem zupl_nil : zupl key opt [] = zopl key opt := by
  unfold zupl
  rw [List.take_nil, List.drop_nil, List.nil_append, List.append_nil]
  rfl
theorem zupl_lt {e : Term × Term} (h : zcmp e.1 key < 0) : zupl key opt (e :: es) = e :: zupl key opt es := by
  unfold zupl
  rw [zkb_c0 h, zka_s, List.take_succ_cons, List.cons_append, show zkb key es + 1 + (zka key es (zkb key es)).toNat = zkb key es + (zka key es (zkb key es)).toNat + 1 by omega, List.drop_succ_cons]
theorem zupl_ge {e : Term × Term} (h : ¬ zcmp e.1 key < 0) : zupl key opt (e :: es) = zopl key opt ++ (if zcmp e.1 key = 0 then es else e :: es) := by
  unfold zupl zopl
  rw [zkb_c1 h, List.take_zero, List.nil_append, zka_0, Nat.zero_add]
  congr 1
  by_cases q : zcmp e.1 key = 0
  · rw [if_pos q, q]; rfl
  · rw [if_neg q, beq_false_of_ne q]; rfl
theorem zget_nil : zget key [] = .arg 24 := rfl
theorem zget_lt {e : Term × Term} (h : zcmp e.1 key < 0) : zget key (e :: es) = zget key es := by
  unfold zget
  rw [zkb_c0 h, zka_s, List.getElem?_cons_succ]
theorem zget_ge {e : Term × Term} (h : ¬ zcmp e.1 key < 0) : zget key (e :: es) = if zcmp e.1 key = 0 then .div (.arg 25) e.2 else .arg 24 := by
  unfold zget
  rw [zkb_c1 h, zka_0, List.getElem?_cons_zero]
  by_cases q : zcmp e.1 key = 0
  · rw [if_pos q, q]; rfl
  · rw [if_neg q, beq_false_of_ne q]; rfl
theorem zlt_m {a b : Term} (h : zcmp a b = -1 ∨ zcmp a b = 0 ∨ zcmp a b = 1) : (zcmp a b < 0 ↔ zcmp a b = -1) := by
  rcases h with h | h | h <;> rw [h] <;> decide
/-- behind a greater key there is none that is equal -/
theorem zfd_gt (hk : zTok K) (hs : ztsim K = true) (hy : zVt K key) : ∀ (es : List (Term × Term)), (∀ e ∈ es, zVt K e.1) → (∀ e ∈ es, zcmp key e.1 = -1) → zfd key (es.map fun e => zent2 e.1 e.2) = .arg 24
  | [], _, _ => rfl
  | e :: es, h1, h2 => by
    have ho := zOr_t K key e.1 key hk hs hy (h1 e List.mem_cons_self) hy
    have ho2 := zOr_t K e.1 key key hk hs (h1 e List.mem_cons_self) hy hy
    have hne : zcmp e.1 key ≠ 0 := fun z => by
      have := h2 e List.mem_cons_self
      rw [ho.2.2.1] at this
      rw [this] at z
      exact absurd z (by decide)
    show (if zcmp e.1 key = 0 then _ else zfd key (es.map fun e => zent2 e.1 e.2)) = _
    rw [if_neg hne]
    exact zfd_gt hk hs hy es (fun e he => h1 e (List.mem_cons_of_mem _ he)) (fun e he => h2 e (List.mem_cons_of_mem _ he))
theorem zget_fd (hk : zTok K) (hs : ztsim K = true) (hy : zVt K key) : ∀ (es : List (Term × Term)), (∀ e ∈ es, zVt K e.1) → zSrt es → zget key es = zfd key (es.map fun e => zent2 e.1 e.2)
  | [], _, _ => rfl
  | e :: es, h1, h2 => by
    obtain ⟨p1, p2⟩ := List.pairwise_cons.mp h2
    have he := h1 e List.mem_cons_self
    have ho := zOr_t K e.1 key key hk hs he hy hy
    show _ = (if zcmp e.1 key = 0 then (if zgo (zent2 e.1 e.2) = 1 then .arg 24 else .div (.arg 25) e.2) else zfd key (es.map fun e => zent2 e.1 e.2))
    by_cases q : zcmp e.1 key < 0
    · have q1 := (zlt_m ho.1).mp q
      rw [zget_lt q, if_neg (by rw [q1]; decide)]
      exact zget_fd hk hs hy es (fun e he => h1 e (List.mem_cons_of_mem _ he)) p2
    · rw [zget_ge q]
      by_cases q0 : zcmp e.1 key = 0
      · rw [if_pos q0, if_pos q0]; rfl
      · rw [if_neg q0, if_neg q0]
        have hg : zcmp e.1 key = 1 := by
          rcases ho.1 with z | z | z
          · rw [z] at q; exact absurd (by decide) q
          · exact absurd z q0
          · exact z
        refine (zfd_gt hk hs hy es (fun e he => h1 e (List.mem_cons_of_mem _ he)) (fun e' he' => ?_)).symm
        have o2 := zOr_t K key e.1 e'.1 hk hs hy he (h1 e' (List.mem_cons_of_mem _ he'))
        have lt := p1 e' he'
        have o3 := zOr_t K e.1 e'.1 key hk hs he (h1 e' (List.mem_cons_of_mem _ he')) hy
        exact o2.2.2.2 (o2.2.2.1.mpr hg) ((zlt_m o3.1).mp lt)
theorem zopl_in {x : Term × Term} (h : x ∈ zopl key opt) : x.1 = key ∧ ∃ c, opt = .div (.arg c) x.2 := by
  unfold zopl at h
  split at h
  · simp at h; rw [h]; exact ⟨rfl, _, rfl⟩
  · cases h
theorem zupl_in : ∀ (es : List (Term × Term)) (x : Term × Term), x ∈ zupl key opt es → x ∈ es ∨ x ∈ zopl key opt
  | [], x, h => by rw [zupl_nil] at h; exact Or.inr h
  | e :: es, x, h => by
    by_cases q : zcmp e.1 key < 0
    · rw [zupl_lt q] at h
      rcases List.mem_cons.mp h with rfl | h
      · exact Or.inl List.mem_cons_self
      · rcases zupl_in es x h with z | z
        · exact Or.inl (List.mem_cons_of_mem _ z)
        · exact Or.inr z
    · rw [zupl_ge q] at h
      rcases List.mem_append.mp h with z | z
      · exact Or.inr z
      · split at z
        · exact Or.inl (List.mem_cons_of_mem _ z)
        · exact Or.inl z
theorem zupl_len : ∀ (es : List (Term × Term)), (zupl key opt es).length ≤ es.length + 1
  | [] => by rw [zupl_nil]; unfold zopl; split <;> simp
  | e :: es => by
    by_cases q : zcmp e.1 key < 0
    · rw [zupl_lt q, List.length_cons, List.length_cons]; have := zupl_len es; omega
    · rw [zupl_ge q, List.length_append]
      have h1 : (zopl key opt).length ≤ 1 := by unfold zopl; split <;> simp
      have h2 : (if zcmp e.1 key = 0 then es else e :: es).length ≤ (e :: es).length := by split <;> simp
      omega
theorem zupl_srt (hk : zTok K) (hs : ztsim K = true) (hy : zVt K key) : ∀ (es : List (Term × Term)), (∀ e ∈ es, zVt K e.1) → zSrt es → zSrt (zupl key opt es)
  | [], _, _ => by rw [zupl_nil]; unfold zopl; split <;> simp [zSrt]
  | e :: es, h1, h2 => by
    obtain ⟨p1, p2⟩ := List.pairwise_cons.mp h2
    have he := h1 e List.mem_cons_self
    have ho := zOr_t K e.1 key key hk hs he hy hy
    have he' : ∀ e' ∈ es, zVt K e'.1 := fun e' h' => h1 e' (List.mem_cons_of_mem _ h')
    by_cases q : zcmp e.1 key < 0
    · rw [zupl_lt q]
      refine List.pairwise_cons.mpr ⟨fun x hx => ?_, zupl_srt hk hs hy es he' p2⟩
      rcases zupl_in es x hx with z | z
      · exact p1 x z
      · rw [(zopl_in z).1]; exact q
    · rw [zupl_ge q]
      have keylt : ∀ x ∈ (if zcmp e.1 key = 0 then es else e :: es), zcmp key x.1 < 0 := by
        intro x hx
        have big : ∀ e' ∈ es, zcmp key e'.1 < 0 := by
          intro e' h'
          have o2 := zOr_t K key e.1 e'.1 hk hs hy he (he' e' h')
          have o3 := zOr_t K e.1 e'.1 key hk hs he (he' e' h') hy
          have o4 := zOr_t K key e'.1 key hk hs hy (he' e' h') hy
          by_cases q0 : zcmp e.1 key = 0
          · rw [← ho.2.1.mp q0]; exact p1 e' h'
          · have hg : zcmp e.1 key = 1 := by
              rcases ho.1 with z | z | z
              · rw [z] at q; exact absurd (by decide) q
              · exact absurd z q0
              · exact z
            exact (zlt_m o4.1).mpr (o2.2.2.2 (o2.2.2.1.mpr hg) ((zlt_m o3.1).mp (p1 e' h')))
        by_cases q0 : zcmp e.1 key = 0
        · rw [if_pos q0] at hx; exact big x hx
        · rw [if_neg q0] at hx
          rcases List.mem_cons.mp hx with rfl | hx
          · have hg : zcmp x.1 key = 1 := by
              rcases ho.1 with z | z | z
              · rw [z] at q; exact absurd (by decide) q
              · exact absurd z q0
              · exact z
            have o2 := zOr_t K key x.1 key hk hs hy he hy
            exact (zlt_m o2.1).mpr (o2.2.2.1.mpr hg)
          · exact big x hx
      have srt2 : zSrt (if zcmp e.1 key = 0 then es else e :: es) := by
        split
        · exact p2
        · exact h2
      unfold zopl
      split
      · exact List.pairwise_cons.mpr ⟨keylt, srt2⟩
      · exact srt2
/-- what is found behind a change -/
theorem zget_gt (hk : zTok K) (hs : ztsim K = true) (hy : zVt K key) (es : List (Term × Term)) (h1 : ∀ e ∈ es, zVt K e.1) (h2 : zSrt es) (h : ∀ e ∈ es, zcmp key e.1 = -1) : zget key es = .arg 24 := by
  rw [zget_fd hk hs hy es h1 h2]; exact zfd_gt hk hs hy es h1 h
theorem zlt_t {a b : Term} (hk : zTok K) (hs : ztsim K = true) (ha : zVt K a) (hb : zVt K b) : zcmp a b < 0 ↔ zcmp a b = -1 := zlt_m (zOr_t K a b b hk hs ha hb hb).1
theorem zgt_t {a b : Term} (hk : zTok K) (hs : ztsim K = true) (ha : zVt K a) (hb : zVt K b) (h : ¬ zcmp a b < 0) (h0 : zcmp a b ≠ 0) : zcmp b a = -1 := by
  have o := zOr_t K a b b hk hs ha hb hb
  have o2 := zOr_t K b a b hk hs hb ha hb
  rcases o.1 with z | z | z
  · rw [z] at h; exact absurd (by decide) h
  · exact absurd z h0
  · exact o2.2.2.1.mpr z
theorem ztr_t {a b c : Term} (hk : zTok K) (hs : ztsim K = true) (ha : zVt K a) (hb : zVt K b) (hc : zVt K c) : zcmp a b = -1 → zcmp b c = -1 → zcmp a c = -1 := (zOr_t K a b c hk hs ha hb hc).2.2.2
theorem zeq_t {a b : Term} (hk : zTok K) (hs : ztsim K = true) (ha : zVt K a) (hb : zVt K b) : zcmp a b = 0 ↔ a = b := (zOr_t K a b b hk hs ha hb hb).2.1
theorem zget_rest {k : Term} (hk : zTok K) (hs : ztsim K = true) (hy : zVt K key) (hx : zVt K k) {e : Term × Term} (h1 : ∀ x ∈ e :: es, zVt K x.1) (h2 : zSrt (e :: es)) (hne : zcmp k key ≠ 0) : zget key (if zcmp e.1 k = 0 then es else e :: es) = zget key (e :: es) := by
  obtain ⟨p1, p2⟩ := List.pairwise_cons.mp h2
  have he := h1 e List.mem_cons_self
  have he' : ∀ e' ∈ es, zVt K e'.1 := fun e' h' => h1 e' (List.mem_cons_of_mem _ h')
  by_cases q0 : zcmp e.1 k = 0
  · rw [if_pos q0]
    have e0 := (zeq_t hk hs he hx).mp q0
    by_cases q2 : zcmp e.1 key < 0
    · rw [zget_lt q2]
    · have hn2 : zcmp e.1 key ≠ 0 := by rw [e0]; exact hne
      rw [zget_ge q2, if_neg hn2]
      exact zget_gt hk hs hy es he' p2 (fun e' h' => ztr_t hk hs hy he (he' e' h') (zgt_t hk hs he hy q2 hn2) ((zlt_t hk hs he (he' e' h')).mp (p1 e' h')))
  · rw [if_neg q0]
theorem zget_upl0 {k : Term} (hk : zTok K) (hs : ztsim K = true) (hy : zVt K key) (hx : zVt K k) {e : Term × Term} (h1 : ∀ x ∈ e :: es, zVt K x.1) (h2 : zSrt (e :: es)) (q : ¬ zcmp e.1 k < 0) : zget key (if zcmp e.1 k = 0 then es else e :: es) = if zcmp k key = 0 then .arg 24 else zget key (e :: es) := by
  obtain ⟨p1, p2⟩ := List.pairwise_cons.mp h2
  have he := h1 e List.mem_cons_self
  have he' : ∀ e' ∈ es, zVt K e'.1 := fun e' h' => h1 e' (List.mem_cons_of_mem _ h')
  by_cases hz : zcmp k key = 0
  · rw [if_pos hz, ← (zeq_t hk hs hx hy).mp hz]
    by_cases q0 : zcmp e.1 k = 0
    · rw [if_pos q0]
      refine zget_gt hk hs hx es he' p2 (fun e' h' => ?_)
      rw [← (zeq_t hk hs he hx).mp q0]
      exact (zlt_t hk hs he (he' e' h')).mp (p1 e' h')
    · rw [if_neg q0, zget_ge q, if_neg q0]
  · rw [if_neg hz]
    exact zget_rest hk hs hy hx h1 h2 hz
theorem zget_upl1 {k v : Term} (hk : zTok K) (hs : ztsim K = true) (hy : zVt K key) (hx : zVt K k) {e : Term × Term} (h1 : ∀ x ∈ e :: es, zVt K x.1) (h2 : zSrt (e :: es)) (q : ¬ zcmp e.1 k < 0) : zget key ((k, v) :: (if zcmp e.1 k = 0 then es else e :: es)) = if zcmp k key = 0 then .div (.arg 25) v else zget key (e :: es) := by
  obtain ⟨p1, p2⟩ := List.pairwise_cons.mp h2
  have he := h1 e List.mem_cons_self
  by_cases q2 : zcmp k key < 0
  · have hz : zcmp k key ≠ 0 := fun z => by rw [z] at q2; exact absurd q2 (by decide)
    rw [zget_lt (e := (k, v)) q2, if_neg hz]
    exact zget_rest hk hs hy hx h1 h2 hz
  · rw [zget_ge (e := (k, v)) q2]
    by_cases hz : zcmp k key = 0
    · rw [if_pos hz, if_pos hz]
    · rw [if_neg hz, if_neg hz]
      have kk := zgt_t hk hs hx hy q2 hz
      refine (zget_gt hk hs hy (e :: es) h1 h2 (fun e' h' => ?_)).symm
      have hke : zcmp k e.1 = -1 ∨ k = e.1 := by
        by_cases q0 : zcmp e.1 k = 0
        · exact Or.inr ((zeq_t hk hs he hx).mp q0).symm
        · exact Or.inl (zgt_t hk hs he hx q q0)
      have ke' : zcmp k e'.1 = -1 ∨ k = e'.1 := by
        rcases List.mem_cons.mp h' with rfl | h''
        · exact hke
        · have lt := (zlt_t hk hs he (h1 e' h')).mp (p1 e' h'')
          rcases hke with z | z
          · exact Or.inl (ztr_t hk hs hx he (h1 e' h') z lt)
          · rw [z]; exact Or.inl lt
      rcases ke' with z | z
      · exact ztr_t hk hs hy hx (h1 e' h') kk z
      · rw [← z]; exact kk
theorem zget_upl {k : Term} (hk : zTok K) (hs : ztsim K = true) (hy : zVt K key) (hx : zVt K k) (ho : opt = .arg 24 ∨ ∃ v, opt = .div (.arg 25) v) : ∀ (es : List (Term × Term)), (∀ e ∈ es, zVt K e.1) → zSrt es → zget key (zupl k opt es) = if zcmp k key = 0 then opt else zget key es
  | [], _, _ => by
    rw [zupl_nil, zget_nil]
    rcases ho with rfl | ⟨v, rfl⟩
    · show zget key [] = _
      rw [zget_nil]; split <;> rfl
    · show zget key [(k, v)] = _
      by_cases q : zcmp k key < 0
      · rw [zget_lt (e := (k, v)) q, zget_nil, if_neg (fun z => by rw [z] at q; exact absurd q (by decide))]
      · rw [zget_ge (e := (k, v)) q]
  | e :: es, h1, h2 => by
    obtain ⟨p1, p2⟩ := List.pairwise_cons.mp h2
    have he' : ∀ e' ∈ es, zVt K e'.1 := fun e' h' => h1 e' (List.mem_cons_of_mem _ h')
    by_cases q : zcmp e.1 k < 0
    · rw [zupl_lt q]
      by_cases q2 : zcmp e.1 key < 0
      · rw [zget_lt q2, zget_lt q2]
        exact zget_upl hk hs hy hx ho es he' p2
      · rw [zget_ge q2, zget_ge q2]
        have hne : zcmp k key ≠ 0 := fun z => by rw [← (zeq_t hk hs hx hy).mp z] at q2; exact q2 q
        rw [if_neg hne]
    · rw [zupl_ge q]
      rcases ho with rfl | ⟨v, rfl⟩
      · exact zget_upl0 hk hs hy hx h1 h2 q
      · exact zget_upl1 hk hs hy hx h1 h2 q
/-- a big's changes -/
def zbt (K : Term) (x : Term) : Prop := ∃ k v, zVt K k ∧ (x = zent2 k v ∨ x = .add (.div (.arg 29) k) k)
theorem zbm_ok (hk : zTok K) (hs : ztsim K = true) : ∀ (L : List Term), (∀ x ∈ L, zbt K x) → (∀ e ∈ zbm L, zVt K e.1) ∧ zSrt (zbm L) ∧ (zbm L).length ≤ L.length
  | [], _ => ⟨fun _ h => (by cases h), List.Pairwise.nil, Nat.le_refl _⟩
  | x :: L, h => by
    obtain ⟨i1, i2, i3⟩ := zbm_ok hk hs L (fun y hy => h y (List.mem_cons_of_mem _ hy))
    obtain ⟨k, v, hv, hx⟩ := h x List.mem_cons_self
    have hk1 : zv1 x = k := by rcases hx with rfl | rfl <;> rfl
    rw [zbm, hk1]
    refine ⟨fun e he => ?_, zupl_srt hk hs hv _ i1 i2, ?_⟩
    · rcases zupl_in _ e he with z | z
      · exact i1 e z
      · rw [(zopl_in z).1]; exact hv
    · have := zupl_len (key := k) (opt := if zgo x = 1 then .arg 24 else .div (.arg 25) (zv2 x)) (zbm L)
      rw [List.length_cons]
      omega
theorem zfd_bm (hk : zTok K) (hs : ztsim K = true) (hy : zVt K key) : ∀ (L : List Term), (∀ x ∈ L, zbt K x) → zfd key L = zget key (zbm L)
  | [], _ => rfl
  | x :: L, h => by
    obtain ⟨i1, i2, _⟩ := zbm_ok hk hs L (fun y hy => h y (List.mem_cons_of_mem _ hy))
    obtain ⟨k, v, hv, hx⟩ := h x List.mem_cons_self
    have hk1 : zv1 x = k := by rcases hx with rfl | rfl <;> rfl
    rw [zbm, hk1, zget_upl hk hs hy hv (by split; exact Or.inl rfl; exact Or.inr ⟨_, rfl⟩) _ i1 i2, zfd, hk1, zfd_bm hk hs hy L (fun y hy => h y (List.mem_cons_of_mem _ hy))]
end RM
