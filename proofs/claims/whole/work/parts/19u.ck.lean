/-! THE CHECK, as a function of the nodes -/
/-- how many parts an instruction has -/
def zkip (c : Nat) : Nat := [0, 0, 0, 1, 2, 0, 0, 0, 0, 0, 1, 2, 1, 1, 2, 1, 0, 2, 0, 1, 1, 2, 0, 0, 0, 0, 0, 0, 2, 1, 0, 0, 0, 0, 0, 0, 0, 0, 0, 0, 0, 0, 0, 0, 0, 0, 0].getD (c - 30) 99
def zkI (e : zNt) : Bool := eS e == 3 && decide (30 ≤ eC e) && decide (eC e ≤ 76) && eM e == zkip (eC e)
def zkat (st : List Term) (i : Nat) : Term := st.getD i (.arg 0)
def zkhs (st : List Term) (i c : Nat) : Bool := decide (i < st.length) && ztc (zkat st i) == c
def zkm (T : Term) : Bool := ztc T == 9 || ztc T == 10
def zkn (T : Term) : Bool := ztc T == 2 || ztc T == 3
/-- what an instruction wants of the stack -/
def zkrd (c : Nat) (st : List Term) (held : Nat) : Bool :=
  if c = 34 ∨ c = 35 ∨ c = 40 ∨ c = 45 ∨ c = 51 then true
  else if c = 30 ∨ c = 31 ∨ c = 33 ∨ c = 39 ∨ c = 42 ∨ c = 43 then decide (1 ≤ st.length)
  else if c = 32 ∨ c = 36 then decide (2 ≤ st.length)
  else if c = 37 ∨ c = 38 then zkhs st 0 5
  else if c = 41 then zkhs st 0 6
  else if c = 44 then zkhs st 0 7
  else if c = 47 then zkhs st 0 8 && decide (st.length + held < 12)
  else if c = 50 then zkhs st 0 8
  else if c = 49 then zkhs st 0 8 || zkhs st 0 9
  else if c = 48 then zkhs st 0 8 || zkhs st 0 9 || zkhs st 0 4
  else if c = 46 then zkhs st 1 8 && zt1 (zkat st 1) == zkat st 0
  else if c = 52 ∨ c = 54 then zkm (zkat st 1) && zt1 (zkat st 1) == zkat st 0
  else if c = 53 then zkm (zkat st 2) && zt1 (zkat st 2) == zkat st 0 && zkhs st 1 6 && zt2 (zkat st 2) == zt1 (zkat st 1)
  else if c = 55 ∨ c = 56 then zkhs st 0 1 && zkhs st 1 1
  else if c = 57 ∨ c = 58 ∨ c = 59 then zkhs st 0 1
  else if c = 60 ∨ c = 61 ∨ c = 62 ∨ c = 63 then zkn (zkat st 0) && zkn (zkat st 1)
  else if c = 64 then zkn (zkat st 0)
  else if c = 67 then zkhs st 0 3
  else if c = 68 then ztsim (zkat st 0) && zkat st 0 == zkat st 1
  else if c = 75 then zkhs st 0 4 && zkhs st 1 4
  else if c = 76 then ztsim (zkat st 0) || zkhs st 0 0
  else zkhs st 0 2
def zksm (c : Nat) (st : List Term) : Term := if c ≠ 61 ∧ zkhs st 0 3 = true ∧ zkhs st 1 3 = true then .arg 3 else .arg 2
/-- what an instruction without a type or a row leaves -/
def zkaf (c : Nat) (st : List Term) : List Term :=
  if c = 31 then zkat st 0 :: st
  else if c = 32 then zkat st 1 :: zkat st 0 :: st.drop 2
  else if c = 35 then .arg 0 :: st
  else if c = 36 then .add (.div (.arg 5) (zkat st 0)) (zkat st 1) :: st.drop 2
  else if c = 37 then zt1 (zkat st 0) :: st.drop 1
  else if c = 38 then zt2 (zkat st 0) :: st.drop 1
  else if c = 39 then .div (.arg 6) (zkat st 0) :: st.drop 1
  else if c = 48 ∨ c = 65 then .arg 3 :: st.drop 1
  else if c = 52 then .div (.arg 6) (zt2 (zkat st 1)) :: st.drop 2
  else if c = 53 then st.drop 2
  else if c = 54 then .arg 1 :: st.drop 2
  else if c = 57 then st
  else if c = 60 ∨ c = 61 ∨ c = 62 then zksm c st :: st.drop 2
  else if c = 63 then .div (.arg 6) (.add (.div (.arg 5) (zksm c st)) (.arg 3)) :: st.drop 2
  else if c = 64 ∨ c = 67 then .arg 2 :: st.drop 1
  else if c = 66 then .div (.arg 6) (.arg 3) :: st.drop 1
  else if c = 68 then .arg 2 :: st.drop 2
  else if 69 ≤ c ∧ c ≤ 74 then .arg 1 :: st.drop 1
  else st.drop 1
abbrev zkcs := Option (List Term) × Nat × Nat
abbrev zkR := Nat → List Term → Nat → Nat → Nat → Nat ⊕ zkcs
/-- what an instruction that tells a type leaves -/
def zkty (N : List zNt) (j c : Nat) (st : List Term) : Nat ⊕ List Term := match zTy N (j + 1) 0 with
  | .inl p => .inl p
  | .inr T => if c = 34 then (match zMi N (znx N (j + 1)) false T with
        | some p => .inl p
        | none => .inr (T :: st))
    else if c = 40 then .inr (.div (.arg 6) T :: st)
    else if c = 42 then .inr (.add (.div (.arg 7) (zkat st 0)) T :: st.drop 1)
    else if c = 43 then .inr (.add (.div (.arg 7) T) (zkat st 0) :: st.drop 1)
    else if c = 45 then .inr (.div (.arg 8) T :: st)
    else if ztsim T = true then (match zTy N (znx N (j + 1)) 0 with
        | .inl p => .inl p
        | .inr U => .inr (.add (.div (.arg 9) T) U :: st))
      else .inl (zFp N (j + 1))
/-- the stacks of the two rows -/
def zkf1 (c : Nat) (st : List Term) : List Term := if c = 44 then zt1 (zkat st 0) :: st.drop 1 else if c = 47 then zt1 (zkat st 0) :: st else st.drop 1
def zkf2 (c : Nat) (st : List Term) : List Term := if c = 41 then zt1 (zkat st 0) :: st.drop 1 else if c = 44 then zt2 (zkat st 0) :: st.drop 1 else st.drop 1
def zkbg (c : Nat) (st : List Term) : List Term := if c = 59 then st.drop 1 else (if ztc (zkat st 0) = 9 then .add (.div (.arg 5) (zt1 (zkat st 0))) (zt2 (zkat st 0)) else zt1 (zkat st 0)) :: st.drop 1
def zkei (p : Nat) (o1 o2 : Option (List Term)) (a b : Nat) : Nat ⊕ zkcs := match o1, o2 with
  | none, _ => .inr (o2, a, b)
  | some _, none => .inr (o1, a, b)
  | some l1, some l2 => if l1 = l2 then .inr (o1, a, b) else .inl p
def zkrp (p c : Nat) (st : List Term) (o : Option (List Term)) (a b : Nat) : Nat ⊕ zkcs := match o with
  | none => .inl p
  | some l => if c = 50 then (if l.length = st.length ∧ l.drop 1 = st.drop 1 then .inr (some (.div (.arg 8) (zkat l 0) :: st.drop 1), a, b) else .inl p)
    else if l = (if c = 59 then st else st.drop 1) then .inr (some (st.drop 1), a, b) else .inl p
/-- what an instruction leaves -/
def zkE (N : List zNt) (r : zkR) (j : Nat) (e : zNt) (st : List Term) (held a b : Nat) : Nat ⊕ zkcs :=
  if eC e = 33 then (match r (j + 1) (st.drop 1) (held + 1) a b with
    | .inl p => .inl p
    | .inr (none, _) => .inl (eF e)
    | .inr (some l, a, b) => .inr (some (zkat st 0 :: l), a, b))
  else if eC e = 58 ∨ eC e = 41 ∨ eC e = 44 ∨ eC e = 47 then (match r (j + 1) (zkf1 (eC e) st) held a b with
    | .inl p => .inl p
    | .inr (o1, a, b) => (match r (znx N (j + 1)) (zkf2 (eC e) st) held a b with
      | .inl p => .inl p
      | .inr (o2, a, b) => zkei (eF e) o1 o2 a b))
  else if eC e = 49 ∨ eC e = 50 ∨ eC e = 59 then (match r (j + 1) (zkbg (eC e) st) held a b with
    | .inl p => .inl p
    | .inr (o, a, b) => zkrp (eF e) (eC e) st o a b)
  else if eC e = 34 ∨ eC e = 40 ∨ eC e = 42 ∨ eC e = 43 ∨ eC e = 45 ∨ eC e = 51 then (match zkty N j (eC e) st with
    | .inl p => .inl p
    | .inr l => .inr (some l, a, b))
  else if eC e = 76 then .inr (none, a, b)
  else .inr (some (zkaf (eC e) st), a, b)
def zkpo (p held : Nat) (s : zkcs) : Nat ⊕ zkcs := match s.1 with
  | none => .inr s
  | some st => if st.length + held ≤ 12 ∧ ztdep (zkat st 0) ≤ 8 then .inr (some st, s.2.1, max s.2.2 (st.length + held)) else .inl p
def zkin (N : List zNt) (r : zkR) (held j : Nat) (s : zkcs) : Nat ⊕ zkcs := match N[j]? with
  | none => .inl 0
  | some e => match s.1 with
    | none => .inl (eF e)
    | some st => if (zkI e && zkrd (eC e) st held) = true then (match zkE N r j e st held (s.2.1 + 1) s.2.2 with
        | .inl p => .inl p
        | .inr s' => zkpo (eF e) held s')
      else .inl (eF e)
def zkfo (g : Nat → zkcs → Nat ⊕ zkcs) : List Nat → zkcs → Nat ⊕ zkcs
  | [], s => .inr s
  | j :: l, s => match g j s with
    | .inl p => .inl p
    | .inr s' => zkfo g l s'
def zkB (N : List zNt) (r : zkR) (i : Nat) (st : List Term) (held a b : Nat) : Nat ⊕ zkcs := match N[i]? with
  | none => .inl 0
  | some e => if eS e = 2 then zkfo (zkin N r held) (zchn N (eM e) (i + 1)) (some st, a, max b (st.length + held)) else .inl (eF e)
/-- the check of a row of code -/
def zkbl (N : List zNt) : zkR := zfix (fun _ _ _ _ => .inl 0) (zkB N) 200
theorem zkfo_congr {g g' : Nat → zkcs → Nat ⊕ zkcs} : ∀ (l : List Nat) (s : zkcs), (∀ j, j ∈ l → g j = g' j) → zkfo g l s = zkfo g' l s
  | [], s, _ => rfl
  | j :: l, s, h => by
    rw [zkfo, zkfo, h j List.mem_cons_self]
    cases g' j s with
    | inl p => rfl
    | inr s' => exact zkfo_congr l s' (fun j hj => h j (List.mem_cons_of_mem _ hj))
theorem zkE_congr {N : List zNt} {r r' : zkR} {j : Nat} (h1 : r (j + 1) = r' (j + 1)) (h2 : r (znx N (j + 1)) = r' (znx N (j + 1))) : zkE N r j = zkE N r' j := by
  funext e st held a b
  unfold zkE
  rw [h1, h2]
theorem zkbl_eq {N : List zNt} (hN : N.length ≤ 100) (i : Nat) : zkbl N i = zkB N (zkbl N) i := by
  have := zfix_eq (bot := fun _ _ _ _ => .inl 0) (body := zkB N) (n := N.length) (g := 200) (i := i) (fun r i hi => funext fun st => funext fun held => funext fun a => funext fun b => by
    unfold zkB; rw [List.getElem?_eq_none hi]) (fun r r' i hr => funext fun st => funext fun held => funext fun a => funext fun b => by
    unfold zkB
    cases he : N[i]? with
    | none => rfl
    | some e =>
      dsimp only
      rw [zkfo_congr _ _ (fun j hj => ?_)]
      have hj := zchn_ge _ _ _ hj
      funext s
      unfold zkin
      rw [zkE_congr (hr (j + 1) (by omega)) (hr (znx N (j + 1)) (by have := znx_ge (N := N) (i := j + 1); omega))]) (by omega)
  exact this
/-! the class's stacks of types -/
def zStk (h : zH) : List Term → Nat → Prop
  | [], b => zown h b = some (.inr (8, [.int 0, .null, .null]))
  | T :: L, b => ∃ t b', zown h b = some (.inr (8, [.int (nI (L.length + 1)), .ref t, .ref b'])) ∧ zTyp h T t ∧ zStk h L b'
def zSto (h : zH) (o : Option (List Term)) (b : Nat) : Prop := match o with
  | none => zown h b = some (.inr (8, [.int (-1), .null, .null]))
  | some L => zStk h L b
theorem zStk_fr {h h' : zH} (H7 : ∀ k fs, zown h k = some (.inr (7, fs)) → zown h' k = some (.inr (7, fs))) (H8 : ∀ k fs, zown h k = some (.inr (8, fs)) → zown h' k = some (.inr (8, fs))) : ∀ (L : List Term) (b : Nat), zStk h L b → zStk h' L b
  | [], b, hs => H8 b _ hs
  | T :: L, b, ⟨t, b', h1, h2, h3⟩ => ⟨t, b', H8 b _ h1, zTyp_fr H7 T t h2, zStk_fr H7 H8 L b' h3⟩
theorem zSto_fr {h h' : zH} (H7 : ∀ k fs, zown h k = some (.inr (7, fs)) → zown h' k = some (.inr (7, fs))) (H8 : ∀ k fs, zown h k = some (.inr (8, fs)) → zown h' k = some (.inr (8, fs))) : ∀ (o : Option (List Term)) (b : Nat), zSto h o b → zSto h' o b
  | none, b, hs => H8 b _ hs
  | some L, b, hs => zStk_fr H7 H8 L b hs
theorem zStk_ex {h h' : zH} {c s b : Nat} {L : List Term} (hs : zStk h L b) (e : zEx h h' c s) : zStk h' L b := zStk_fr (fun k fs q => e.1 k _ q) (fun k fs q => e.1 k _ q) L b hs
theorem zStk_at {h : zH} : ∀ {L : List Term} {b : Nat}, zStk h L b → ∃ p q, zown h b = some (.inr (8, [.int (nI L.length), p, q]))
  | [], b, hs => ⟨_, _, hs⟩
  | T :: L, b, ⟨t, b', h1, h2, h3⟩ => ⟨_, _, h1⟩
section STK
variable {xs : List Value} {d : Nat} {h : zH} {Q : zO → zH → Prop} {a b c i t : Nat} {L : List Term} {T : Term}
theorem zc54 {p q : zP} {x : Int32} {K : zH → Prop} (g : K (zadd h (.inr (8, [.int x, zo p, zo q])) 3)) : zCN xs (d + 1) 54 (some (h.1.length + zK0)) [.int x, zo p, zo q] (zadd h (.inr (8, [.int 0, .null, .null])) 3) K := by
  refine ⟨_, rfl, by rw [zown_new]; rfl, d, rfl, zm_54 ⟨_, rfl, ?_⟩⟩
  refine zX_pf zown_new (show 0 < 3 by decide) ?_
  rw [zput_new]
  refine zX_pf zown_new (show 1 < 3 by decide) ?_
  rw [zput_new]
  refine zX_pf zown_new (show 2 < 3 by decide) ?_
  rw [zput_new]
  exact g
theorem zc55 (hs : zStk h L b) (ht : zTyp h T t) (g : ∀ h' a, zEx h h' 1 3 → zStk h' (T :: L) a → Q (.inl (some (.ref a))) h') : zG xs (d + 1) (55, 0, lv_args 0 [zo (some b), zo (some t)], []) h Q := by
  obtain ⟨p, q, ho⟩ := zStk_at hs
  refine zm_55 (zNO_i (zX_gi (zown_add ho) rfl ?_))
  rw [nI_1]
  exact zc54 (p := some t) (q := some b) (g _ _ zEx_add ⟨t, b, zown_new, zTyp_add ht, zStk_ex hs zEx_add⟩)
theorem zc53 (ht : zTyp h T t) (g : ∀ h' a, zEx h h' 2 6 → zStk h' [T] a → Q (.inl (some (.ref a))) h') : zG xs (d + 2) (53, 0, lv_args 0 [zo (some t)], []) h Q := by
  refine zm_53 (zNO_i (zc54 (p := none) (q := none) ?_))
  have hs : zStk (zadd h (.inr (8, [.int 0, .null, .null])) 3) [] (h.1.length + zK0) := zown_new
  exact zX_cv zown_new (zc55 (d := d) hs (zTyp_add ht) (fun h' a e1 s1 => zKR_v (g h' a (zEx_trans zEx_add e1) s1)))
theorem zc91 (g : ∀ h' a, zEx h h' 1 3 → zSto h' none a → Q (.inl (some (.ref a))) h') : zG xs (d + 1) (91, 0, lv_args 0 [], []) h Q :=
  zm_91 (zNO_i (zc54 (p := none) (q := none) (g _ _ zEx_add zown_new)))
theorem zc57 {o : Option (List Term)} (hs : zSto h o b) (hl : ∀ L, o = some L → L.length < 1000) (g : Q (.inl (some (.int (zB o.isNone)))) h) : zG xs d (57, 0, lv_args 0 [zo (some b)], []) h Q := by
  cases o with
  | none => exact zm_57 (zX_gi hs rfl ⟨fun _ => ⟨Or.inr rfl, g⟩, fun z => absurd rfl z⟩)
  | some L =>
    obtain ⟨p, q, ho⟩ := zStk_at hs
    have := hl L rfl
    refine zm_57 (zX_gi ho rfl ⟨fun z => absurd (show nI L.length < 0 by rw [z]; decide) (nI_pos (by omega)), fun _ => ⟨Or.inl rfl, g⟩⟩)
theorem zc62 {n : Nat} (hs : zStk h L b) (hn : n < 1000) (g : ∀ a, zStk h (L.drop n) a → Q (.inl (some (.ref a))) h) : zG xs d (62, 0, lv_args 0 [zo (some b), .int (nI n)], []) h Q := by
  refine zm_62 (fun m l1 l2 l3 h1 => ∃ k b', h1 = h ∧ l1 = nI n ∧ l2 = some b' ∧ l3 = nI k ∧ m = n - k ∧ k ≤ n ∧ zStk h (L.drop k) b') ?_ ?_
  · rintro m l1 l2 l3 h1 ⟨k, b', rfl, rfl, rfl, rfl, rfl, hk, hs'⟩
    refine pk_lt k n (fun hlt => ?_) (fun hge => ?_)
    · cases hd : L.drop k with
      | nil =>
        rw [hd] at hs'
        refine zX_gn hs' rfl ⟨fun _ => ?_, fun z => absurd rfl z⟩
        refine g b' ?_
        have : L.drop n = [] := by
          have := List.drop_eq_nil_iff.mp hd
          exact List.drop_eq_nil_iff.mpr (by omega)
        rw [this]
        exact hs'
      | cons U r =>
        rw [hd] at hs'
        obtain ⟨t, b2, h1, h2, h3⟩ := hs'
        refine zX_gr h1 rfl ⟨fun z => (by cases z), fun _ => zX_gr h1 rfl ?_⟩
        intro x9 hx9
        subst hx9
        refine ⟨_, by omega, k + 1, b2, rfl, rfl, rfl, nI_1 k, rfl, by omega, ?_⟩
        have : L.drop (k + 1) = r := by rw [← List.drop_drop, hd]; rfl
        rw [this]; exact h3
    · have : k = n := by omega
      subst this
      exact g b' hs'
  · exact ⟨_, 0, b, rfl, rfl, rfl, rfl, rfl, Nat.zero_le _, hs⟩
theorem zc61p (hs : zStk h L b) (hi : i < L.length) (hl : L.length < 1000) (g : ∀ t, zTyp h (zkat L i) t → Q (.inl (some (.ref t))) h) : zG xs (d + 1) (61, 0, lv_args 0 [zo (some b), .int (nI i)], []) h Q := by
  obtain ⟨p, q, ho⟩ := zStk_at hs
  refine zm_61 (zX_cv ho (zc62 hs (by omega) (fun a ha => zKR_v ?_)))
  rw [List.drop_eq_getElem_cons hi] at ha
  obtain ⟨t, b', h1, h2, h3⟩ := ha
  have : zkat L i = L[i] := by unfold zkat; rw [List.getD_eq_getElem?_getD, List.getElem?_eq_getElem hi]; rfl
  rw [← this] at h2
  exact zX_gr h1 rfl (zX_gi ho rfl ⟨fun _ => ⟨fun z => (by cases z), fun _ => g t h2⟩, fun z => absurd (nI_lt hi (by omega)) z⟩)
theorem zc61 (hs : zStk h L b) (hi : i < 1000) (hl : L.length < 1000) (g : ∀ h' t, zEx h h' 1 5 → zTyp h' (zkat L i) t → Q (.inl (some (.ref t))) h') : zG xs (d + 1) (61, 0, lv_args 0 [zo (some b), .int (nI i)], []) h Q := by
  by_cases hlt : i < L.length
  · exact zc61p hs hlt hl (fun t ht => g h t (zEx_le (zEx_refl h) (by omega) (by omega)) ht)
  · obtain ⟨p, q, ho⟩ := zStk_at hs
    refine zm_61 (zX_cv ho (zc62 hs hi (fun a ha => zKR_v ?_)))
    rw [List.drop_eq_nil_iff.mpr (by omega)] at ha
    have e0 : zkat L i = .arg 0 := by unfold zkat; rw [List.getD_eq_getElem?_getD, List.getElem?_eq_none (by omega)]; rfl
    rw [e0] at g
    refine zX_gn ha rfl (zX_gi ho rfl ⟨fun z => absurd ((nI_ltI (by omega) (by omega)).mp z) hlt, fun _ => ?_⟩)
    exact zNty (c := 0) (p := none) (q := none) (K := fun a1 h4 => Q (.inl (some (zo (some a1)))) h4) (x := 0) (y := 0) (Or.inl ⟨rfl, rfl, rfl, by decide⟩) (show 1 < 2 ^ 30 by decide) (fun h' e1 t1 _ => g h' _ e1 t1)
theorem zc61f (hs : zSto h none b) (g : ∀ h' t, zEx h h' 1 5 → zTyp h' (.arg 0) t → Q (.inl (some (.ref t))) h') : zG xs (d + 1) (61, 0, lv_args 0 [zo (some b), .int 0], []) h Q := by
  have hs : zown h b = some (.inr (8, [.int (-1), .null, .null])) := hs
  refine zm_61 (zX_cv hs (zm_62 (fun m l1 l2 l3 h1 => h1 = h ∧ l1 = 0 ∧ l2 = some b ∧ l3 = 0) ?_ ?_))
  · rintro m l1 l2 l3 h1 ⟨rfl, rfl, rfl, rfl⟩
    refine ⟨fun z => absurd z (by decide), fun _ => zKR_v ?_⟩
    refine zX_gn hs rfl (zX_gi hs rfl ⟨fun z => absurd z (by decide), fun _ => ?_⟩)
    exact zNty (c := 0) (p := none) (q := none) (K := fun a1 h4 => Q (.inl (some (zo (some a1)))) h4) (x := 0) (y := 0) (Or.inl ⟨rfl, rfl, rfl, by decide⟩) (show 1 < 2 ^ 30 by decide) (fun h' e1 t1 _ => g h' _ e1 t1)
  · exact ⟨0, rfl, rfl, rfl, rfl⟩
theorem zc60 (hs : zStk h L b) (hi : i < 1000) (hl : L.length < 1000) (hc : c < 1000) (g : Q (.inl (some (.int (zB (zkhs L i c))))) h) : zG xs (d + 2) (60, 0, lv_args 0 [zo (some b), .int (nI i), .int (nI c)], []) h Q := by
  obtain ⟨p, q, ho⟩ := zStk_at hs
  refine zm_60 (zX_gi ho rfl (pk_lt i L.length (fun hlt => ?_) (fun hge => ?_)))
  · refine zX_cv ho (zc61p (d := d) hs hlt hl (fun t ht => zKR_v (zTyp_gc ht (fun h10 => pk_eq (ztc (zkat L i)) c (fun e => ?_) (fun e => ?_)))))
    · unfold zkhs at g
      rw [decide_eq_true hlt, e, beq_self_eq_true] at g
      exact ⟨Or.inr rfl, g⟩
    · unfold zkhs at g
      rw [beq_false_of_ne e, Bool.and_false] at g
      exact ⟨Or.inl rfl, g⟩
  · unfold zkhs at g
    rw [decide_eq_false (by omega)] at g
    exact ⟨Or.inl rfl, g⟩
theorem zc63n (g : Q (.inl (some (.int 1))) h) : zG xs d (63, 0, lv_args 0 [zo none, zo none], []) h Q :=
  zm_63 ⟨fun _ => ⟨Or.inl rfl, fun _ => ⟨Or.inr rfl, g⟩, fun z => absurd rfl z⟩, fun z => absurd rfl z⟩
theorem zc63 : ∀ (T U : Term) (a b d : Nat) (Q : zO → zH → Prop), zTyp h T a → zTyp h U b → ztdep T ≤ d → Q (.inl (some (.int (zB (T == U))))) h → zG xs d (63, 0, lv_args 0 [zo (some a), zo (some b)], []) h Q := by
  intro T
  have same : ∀ {T U : Term} {a b d : Nat} {Q : zO → zH → Prop}, zTyp h T a → zTyp h U b → ((¬ ztc T = ztc U) → Q (.inl (some (.int 0))) h) → (∀ p q p' q', zown h a = some (.inr (7, [.int (nI (ztc T)), zo p, zo q, .int (nI (ztdep T)), .int (zB (ztsim T))])) → zown h b = some (.inr (7, [.int (nI (ztc U)), zo p', zo q', .int (nI (ztdep U)), .int (zB (ztsim U))])) → ztc T = ztc U → zCall xs d 63 [zo p, zo p'] h (zKI (fun x9 h10 => ((x9 = 0 → zw_63_62 xs d Q h10) ∧ (¬ x9 = 0 → zGR (some a) 7 2 h10 fun x11 => zGR (some b) 7 2 h10 fun x13 => zCall xs d 63 [zo x11, zo x13] h10 (zKI (fun x15 h16 => ((x15 = 0 → zw_63_62 xs d Q h16) ∧ (¬ x15 = 0 → zw_63_63 xs d Q (1 : Int32) h16))) (fun e h => Q (.inr e) h))))) (fun e h => Q (.inr e) h))) → zG xs d (63, 0, lv_args 0 [zo (some a), zo (some b)], []) h Q := by
    intro T U a b d Q ht hu k0 k1
    obtain ⟨tk, p, q, ho, _⟩ := zTyp_at T a ht
    obtain ⟨uk, p', q', hu', _⟩ := zTyp_at U b hu
    have c1 := zTok_c tk
    have c2 := zTok_c uk
    refine zm_63 ⟨fun z => (by cases z), fun _ => ⟨fun z => (by cases z), fun _ => zX_gi ho rfl (zX_gi hu' rfl (pk_eq (ztc T) (ztc U) (fun e => ?_) (fun e => ⟨Or.inl rfl, k0 e⟩)))⟩⟩
    have := k1 p q p' q' ho hu' e
    have gr : ∀ {a : Nat} {fs : List Value} {p : zP} {K : zP → Prop}, zown h a = some (.inr (7, fs)) → fs[1]? = some (zo p) → K p → zGR (some a) 7 1 h K := fun {a fs p K} h1 h2 k => by
      cases p with
      | none => exact zX_gn h1 h2 k
      | some x => exact zX_gr h1 h2 k
    exact gr ho rfl (gr hu' rfl this)
  have sh : ∀ {U : Term} {b : Nat}, zTyp h U b → (∃ c, U = .arg c ∧ c ≤ 4) ∨ (∃ c t e, U = .div (.arg c) t ∧ (c = 6 ∨ c = 8) ∧ zown h b = some (.inr (7, [.int (nI c), .ref e, .null, .int (nI (ztdep U)), .int (zB (ztsim U))])) ∧ zTyp h t e) ∨ (∃ c t u e f, U = .add (.div (.arg c) t) u ∧ (c = 5 ∨ c = 7 ∨ c = 9 ∨ c = 10) ∧ zown h b = some (.inr (7, [.int (nI c), .ref e, .ref f, .int (nI (ztdep U)), .int (zB (ztsim U))])) ∧ zTyp h t e ∧ zTyp h u f) := by
    intro U b hu
    unfold zTyp at hu
    split at hu
    · exact Or.inl ⟨_, rfl, hu.2⟩
    · obtain ⟨⟨e, h1, h2⟩, h3⟩ := hu; exact Or.inr (Or.inl ⟨_, _, e, rfl, h3, h1, h2⟩)
    · obtain ⟨⟨e, f, h1, h2, h4⟩, h3⟩ := hu; exact Or.inr (Or.inr ⟨_, _, _, e, f, rfl, h3, h1, h2, h4⟩)
    · exact hu.elim
  fun_induction ztdep T with
  | case1 c t ih =>
    intro U a b d Q ht hu hd g
    obtain ⟨⟨e1, o1, t1⟩, hc⟩ := ht
    have ht : zTyp h (.div (.arg c) t) a := ⟨⟨e1, o1, t1⟩, hc⟩
    obtain ⟨d', rfl⟩ : ∃ d', d = d' + 1 := ⟨d - 1, by omega⟩
    refine same ht hu (fun hne => ?_) (fun p q p' q' ho hu' he => ?_)
    · have : ((Term.div (.arg c) t) == U) = false := beq_false_of_ne (fun z => hne (by rw [z]))
      rw [this] at g; exact g
    · have hcc : ztc (.div (.arg c) t) = c := rfl
      rw [hcc] at he
      rcases sh hu with ⟨c', rfl, hc'⟩ | ⟨c', u, e2, rfl, hc', o2, u1⟩ | ⟨c', u, u', e2, f2, rfl, hc', o2, u1, u2⟩
      · have : c = c' := he; omega
      · have : c = c' := he
        subst this
        rw [o1] at ho
        rw [o2] at hu'
        have hp : zo p = .ref e1 := by injection ho with z; injection z with z; injection z with _ z; injection z with _ z; injection z with z _; exact z.symm
        have hp' : zo p' = .ref e2 := by injection hu' with z; injection z with z; injection z with _ z; injection z with _ z; injection z with z _; exact z.symm
        rw [hp, hp']
        refine ⟨d', rfl, ih u e1 e2 d' _ t1 u1 (by omega) (zKI_v ⟨fun z => ?_, fun z => ?_⟩)⟩
        · have hne := zB_0.mp z
          have : ((Term.div (.arg c) t) == (.div (.arg c) u)) = false := beq_false_of_ne (fun z => by
            injection z with _ z
            rw [z, beq_self_eq_true] at hne
            cases hne)
          rw [this] at g
          exact ⟨Or.inl rfl, g⟩
        · have heq : t = u := by
            cases hq : (t == u) with
            | false => rw [hq] at z; exact absurd rfl z
            | true => exact eq_of_beq hq
          subst heq
          rw [beq_self_eq_true] at g
          exact zX_gn o1 rfl (zX_gn o2 rfl ⟨d', rfl, zc63n (zKI_v ⟨fun z => absurd z (by decide), fun _ => ⟨Or.inr rfl, g⟩⟩)⟩)
      · have : c = c' := he; omega
  | case2 c t1 t2 ih1 ih2 =>
    intro U a b d Q ht hu hd g
    obtain ⟨⟨e1, f1, o1, k1, k2⟩, hc⟩ := ht
    have ht : zTyp h (.add (.div (.arg c) t1) t2) a := ⟨⟨e1, f1, o1, k1, k2⟩, hc⟩
    obtain ⟨d', rfl⟩ : ∃ d', d = d' + 1 := ⟨d - 1, by omega⟩
    refine same ht hu (fun hne => ?_) (fun p q p' q' ho hu' he => ?_)
    · have : ((Term.add (.div (.arg c) t1) t2) == U) = false := beq_false_of_ne (fun z => hne (by rw [z]))
      rw [this] at g; exact g
    · have hcc : ztc (.add (.div (.arg c) t1) t2) = c := rfl
      rw [hcc] at he
      rcases sh hu with ⟨c', rfl, hc'⟩ | ⟨c', u, e2, rfl, hc', o2, u1⟩ | ⟨c', u, u', e2, f2, rfl, hc', o2, u1, u2⟩
      · have : c = c' := he; omega
      · have : c = c' := he; omega
      · have : c = c' := he
        subst this
        rw [o1] at ho
        rw [o2] at hu'
        have hp : zo p = .ref e1 := by injection ho with z; injection z with z; injection z with _ z; injection z with _ z; injection z with z _; exact z.symm
        have hp' : zo p' = .ref e2 := by injection hu' with z; injection z with z; injection z with _ z; injection z with _ z; injection z with z _; exact z.symm
        rw [hp, hp']
        refine ⟨d', rfl, ih1 u e1 e2 d' _ k1 u1 (by omega) (zKI_v ⟨fun z => ?_, fun z => ?_⟩)⟩
        · have hne := zB_0.mp z
          have : ((Term.add (.div (.arg c) t1) t2) == (.add (.div (.arg c) u) u')) = false := beq_false_of_ne (fun z => by
            injection z with z _
            injection z with _ z
            rw [z, beq_self_eq_true] at hne
            cases hne)
          rw [this] at g
          exact ⟨Or.inl rfl, g⟩
        · have heq : t1 = u := by
            cases hq : (t1 == u) with
            | false => rw [hq] at z; exact absurd rfl z
            | true => exact eq_of_beq hq
          subst heq
          refine zX_gr o1 rfl (zX_gr o2 rfl ⟨d', rfl, ih2 u' f1 f2 d' _ k2 u2 (by omega) (zKI_v ⟨fun z => ?_, fun z => ?_⟩)⟩)
          · have hne := zB_0.mp z
            have : ((Term.add (.div (.arg c) t1) t2) == (.add (.div (.arg c) t1) u')) = false := beq_false_of_ne (fun z => by
              injection z with _ z
              rw [z, beq_self_eq_true] at hne
              cases hne)
            rw [this] at g
            exact ⟨Or.inl rfl, g⟩
          · have heq : t2 = u' := by
              cases hq : (t2 == u') with
              | false => rw [hq] at z; exact absurd rfl z
              | true => exact eq_of_beq hq
            subst heq
            rw [beq_self_eq_true] at g
            exact ⟨Or.inr rfl, g⟩
  | case3 T h1 h2 =>
    intro U a b d Q ht hu hd g
    obtain ⟨d', rfl⟩ : ∃ d', d = d' + 1 := ⟨d - 1, by omega⟩
    rcases sh ht with ⟨c, rfl, hc⟩ | ⟨c', u, e2, rfl, _⟩ | ⟨c', u, u', e2, f2, rfl, _⟩
    · refine same ht hu (fun hne => ?_) (fun p q p' q' ho hu' he => ?_)
      · have : ((Term.arg c) == U) = false := beq_false_of_ne (fun z => hne (by rw [z]))
        rw [this] at g; exact g
      · have he : c = ztc U := he
        rcases sh hu with ⟨c', rfl, hc'⟩ | ⟨c', u, e2, rfl, hc', _⟩ | ⟨c', u, u', e2, f2, rfl, hc', _⟩
        · have : c = c' := he
          subst this
          have o1 := ht.1
          have o2 := hu.1
          rw [o1] at ho
          rw [o2] at hu'
          have hp : p = none := by injection ho with z; injection z with z; injection z with _ z; injection z with _ z; injection z with z _; cases p; rfl; cases z
          have hp' : p' = none := by injection hu' with z; injection z with z; injection z with _ z; injection z with _ z; injection z with z _; cases p'; rfl; cases z
          subst hp
          subst hp'
          rw [beq_self_eq_true] at g
          exact ⟨d', rfl, zc63n (zKI_v ⟨fun z => absurd z (by decide), fun _ => zX_gn o1 rfl (zX_gn o2 rfl ⟨d', rfl, zc63n (zKI_v ⟨fun z => absurd z (by decide), fun _ => ⟨Or.inr rfl, g⟩⟩)⟩)⟩)⟩
        · have : c = c' := he; omega
        · have : c = c' := he; omega
    · exact absurd rfl (h1 _ _)
    · exact absurd rfl (h2 _ _ _)
end STK
/-! the class's checker: the small methods -/
section STK2
variable {xs : List Value} {d : Nat} {h : zH} {Q : zO → zH → Prop} {a b c i t ck : Nat} {L L' : List Term} {T : Term}
theorem zkat_lt (hi : i < L.length) : zkat L i = L[i] := by unfold zkat; rw [List.getD_eq_getElem?_getD, List.getElem?_eq_getElem hi]; rfl
theorem zc72 (hs : zStk h L a) (hs' : zStk h L' b) (hl : L.length < 1000) (hl' : L'.length < 1000) (hd : ∀ i, ztdep (zkat L i) ≤ 9) (g : Q (.inl (some (.int (zB (decide (L = L')))))) h) : zG xs (d + 12) (72, 0, lv_args 0 [zo (some a), zo (some b)], []) h Q := by
  obtain ⟨p, q, ho⟩ := zStk_at hs
  obtain ⟨p', q', ho'⟩ := zStk_at hs'
  refine zm_72 (fun m l0 l1 l2 l3 h1 => h1 = h ∧ l0 = some a ∧ l1 = some b ∧ ((L.length ≠ L'.length ∧ l2 = 0 ∧ l3 = 0 ∧ m = 0) ∨ (L.length = L'.length ∧ ∃ k, l3 = nI k ∧ k ≤ L.length ∧ m = L.length - k ∧ ((l2 = 1 ∧ L.take k = L'.take k) ∨ (l2 = 0 ∧ L ≠ L'))))) ?_ ?_
  · rintro m l0 l1 l2 l3 h1 ⟨rfl, rfl, rfl, hc⟩
    refine zX_gi ho rfl ?_
    rcases hc with ⟨hne, rfl, rfl, rfl⟩ | ⟨he, k, rfl, hk, rfl, hc⟩
    · rw [decide_eq_false (fun z => hne (by rw [z]))] at g
      exact ⟨fun _ => ⟨fun _ => ⟨Or.inl rfl, g⟩, fun z => absurd rfl z⟩, fun _ => ⟨Or.inl rfl, g⟩⟩
    · rcases hc with ⟨rfl, ht⟩ | ⟨rfl, hne⟩
      · refine pk_lt k L.length (fun hlt => ⟨fun z => absurd z (by decide), fun _ => ?_⟩) (fun hge => ⟨Or.inr rfl, ?_⟩)
        · refine zX_cv ho (zc61p (d := d + 10) hs hlt hl (fun t ht' => zKR_v (zX_cv ho' (zc61p (d := d + 10) hs' (by omega) hl' (fun t' ht2 => zKR_v ?_)))))
          refine ⟨d + 11, rfl, zc63 _ _ t t' (d + 11) _ ht' ht2 (by have := hd k; omega) (zKI_v ?_)⟩
          intro x13 hx13
          subst hx13
          refine ⟨_, by omega, rfl, rfl, rfl, Or.inr ⟨he, k + 1, nI_1 k, by omega, rfl, ?_⟩⟩
          by_cases hq : zkat L k = zkat L' k
          · rw [hq, beq_self_eq_true]
            refine Or.inl ⟨rfl, ?_⟩
            rw [List.take_succ_eq_append_getElem hlt, List.take_succ_eq_append_getElem (by omega : k < L'.length), ht, ← zkat_lt hlt, ← zkat_lt, hq]
          · rw [beq_false_of_ne hq]
            exact Or.inr ⟨rfl, fun z => hq (by rw [z])⟩
        · rw [List.take_of_length_le (by omega), List.take_of_length_le (by omega)] at ht
          rw [decide_eq_true ht] at g
          exact g
      · rw [decide_eq_false hne] at g
        exact ⟨fun _ => ⟨fun _ => ⟨Or.inl rfl, g⟩, fun z => absurd rfl z⟩, fun _ => ⟨Or.inl rfl, g⟩⟩
  · refine zX_gi ho rfl (zX_gi ho' rfl (pk_eq L.length L'.length (fun e => ?_) (fun e => ?_)))
    · exact ⟨_, rfl, rfl, rfl, Or.inr ⟨e, 0, rfl, Nat.zero_le _, rfl, Or.inl ⟨rfl, rfl⟩⟩⟩
    · exact ⟨_, rfl, rfl, rfl, Or.inl ⟨e, rfl, rfl, rfl⟩⟩
theorem zspi : zarr xs h 2 = some (0, ([0, 0, 0, 1, 2, 0, 0, 0, 0, 0, 1, 2, 1, 1, 2, 1, 0, 2, 0, 1, 1, 2, 0, 0, 0, 0, 0, 0, 2, 1, 0, 0, 0, 0, 0, 0, 0, 0, 0, 0, 0, 0, 0, 0, 0, 0, 0] : List Nat).map (fun n => Value.int (nI n))) := rfl
theorem zc58 {N : List zNt} {e : zNt} {f : Nat} (hN : zNg N) (hn : zNd h N f i a) (he : N[i]? = some e) (g : Q (.inl (some (.int (zB (zkI e))))) h) : zG xs d (58, 0, lv_args 0 [zo (some a)], []) h Q := by
  obtain ⟨k1, k2, k3, k4, _⟩ := hN.2 i e he
  apply zm_58
  refine zNd_gS hn he ⟨fun z => ?_, fun z => ?_⟩
  · have h3 : eS e = 3 := by
      by_cases q : eS e = 3
      · exact q
      · rw [if_neg q] at z
        have := (nI_eq (a := eS e) (b := 4) (by omega) (by decide)).mp z
        omega
    have gC : ∀ {K : Int32 → Prop}, K (nI (eC e)) → zGI (some a) 4 2 h K := fun k => zNd_gC hn he (by rw [if_pos h3]; exact k)
    refine gC (pk_lt (eC e) 30 (fun lt => ?_) (fun ge => gC (pk_lt 76 (eC e) (fun lt => ?_) (fun le => gC ?_))))
    · have : zkI e = false := by unfold zkI; rw [decide_eq_false (show ¬ 30 ≤ eC e by omega)]; simp
      rw [this] at g; exact ⟨Or.inl rfl, g⟩
    · have : zkI e = false := by unfold zkI; rw [decide_eq_false (show ¬ eC e ≤ 76 by omega)]; simp
      rw [this] at g; exact ⟨Or.inl rfl, g⟩
    · refine ⟨2, 0, _, rfl, zspi, by decide, ?_⟩
      rw [show nI (eC e) - (30 : Int32) = nI (eC e - 30) from pk_sub (b := 30) ge]
      refine pk_lt (eC e - 30) 47 (fun _ => ?_) (fun z => absurd z (by omega)) rfl rfl
      refine zNd_gN hn he (gC ?_)
      rw [show nI (eC e) - (30 : Int32) = nI (eC e - 30) from pk_sub (b := 30) ge]
      have hp : ∃ x, ([0, 0, 0, 1, 2, 0, 0, 0, 0, 0, 1, 2, 1, 1, 2, 1, 0, 2, 0, 1, 1, 2, 0, 0, 0, 0, 0, 0, 2, 1, 0, 0, 0, 0, 0, 0, 0, 0, 0, 0, 0, 0, 0, 0, 0, 0, 0] : List Nat)[eC e - 30]? = some x := ⟨_, List.getElem?_eq_getElem (show eC e - 30 < 47 by omega)⟩
      obtain ⟨x, hx⟩ := hp
      have hx2 : zkip (eC e) = x := by unfold zkip; rw [List.getD_eq_getElem?_getD, hx]; rfl
      have hx3 : x < 100 := by
        have := List.mem_of_getElem? hx
        have all : ∀ y ∈ ([0, 0, 0, 1, 2, 0, 0, 0, 0, 0, 1, 2, 1, 1, 2, 1, 0, 2, 0, 1, 1, 2, 0, 0, 0, 0, 0, 0, 2, 1, 0, 0, 0, 0, 0, 0, 0, 0, 0, 0, 0, 0, 0, 0, 0, 0, 0] : List Nat), y < 100 := by decide
        exact all x this
      refine ⟨2, _, nI x, rfl, zspi, nI_pos (by omega), by rw [nI_clamp (by omega), List.getElem?_map, hx]; rfl, pk_eq (eM e) x (fun z => ?_) (fun z => ?_)⟩
      · have : zkI e = true := by unfold zkI; rw [h3, decide_eq_true ge, decide_eq_true le, hx2, z]; simp
        rw [this] at g; exact ⟨Or.inr rfl, g⟩
      · have : zkI e = false := by unfold zkI; rw [hx2, beq_false_of_ne z]; simp
        rw [this] at g; exact ⟨Or.inl rfl, g⟩
  · have h3 : eS e ≠ 3 := fun q => by rw [if_pos q] at z; exact z rfl
    have : zkI e = false := by unfold zkI; rw [beq_false_of_ne h3]; rfl
    rw [this] at g; exact ⟨Or.inl rfl, g⟩
theorem zcc (hc : c < 256) {k : Nat} (hk : k < 256) (z : nI c = nI k) : c = k := (nI_eq (by omega) (by omega)).mp z
theorem zcx {k : Nat} (z : ¬ nI c = nI k) : c ≠ k := fun q => z (by rw [q])
theorem zBt {b : Bool} (h : ¬ zB b = 0) : b = true := by cases b; exact absurd rfl h; rfl
/-- two tests, one behind the other -/
theorem zc65 (hk : zCk h ck) (hs : zStk h L b) (hl : L.length < 1000) (hd : ∀ i, ztdep (zkat L i) ≤ 9) (g : ∀ h', zEx h h' 4 20 → Q (.inl (some (.int (zB (zkrd 53 L i))))) h') : zG xs (d + 14) (65, 0, lv_args 0 [zo (some ck), zo (some b)], []) h Q := by
  obtain ⟨p, q, ho⟩ := zStk_at hs
  have hz : zkrd 53 L i = (zkm (zkat L 2) && zt1 (zkat L 2) == zkat L 0 && zkhs L 1 6 && zt2 (zkat L 2) == zt1 (zkat L 1)) := rfl
  rw [hz] at g
  refine zm_65 (zX_cv ho (zc61 (i := 2) (d := d + 12) hs (by decide) hl (fun h1 t e1 t1 => zKR_v ?_)))
  have s1 := zStk_ex hs e1
  obtain ⟨fs, to⟩ := zTyp_own t1
  refine zX_cv to (zc64 t1 (zKI_v ⟨fun z => ?_, fun z => ?_⟩))
  · have : zkm (zkat L 2) = false := zB_0.mp z
    rw [this] at g
    exact ⟨Or.inl rfl, g h1 (zEx_le e1 (by omega) (by omega))⟩
  · have m1 : zkm (zkat L 2) = true := zBt z
    rw [m1, Bool.true_and] at g
    refine zX_cv to (zc10 t1 (fun f1 tf => zKR_v (zX_cv (e1.1 _ _ ho) (zc61 (i := 0) (d := d + 12) s1 (by decide) hl (fun h2 u e2 t2 => zKR_v ?_)))))
    have tf2 := zTyp_ex tf e2
    have h9 : ztdep (zt1 (zkat L 2)) ≤ 9 := Nat.le_trans (zpt_dep (kd := true) (T := zkat L 2) (e := default) (fst := true)) (hd 2)
    refine ⟨d + 13, rfl, zc63 _ _ _ _ (d + 13) _ tf2 t2 (by omega) (zKI_v ⟨fun z => ?_, fun z => ?_⟩)⟩
    · rw [zB_0.mp z] at g
      exact ⟨Or.inl rfl, g h2 (zEx_le (zEx_trans e1 e2) (by omega) (by omega))⟩
    · rw [zBt z, Bool.true_and] at g
      have s2 := zStk_ex s1 e2
      refine zX_cv (e2.1 _ _ (e1.1 _ _ ho)) (zc60 (i := 1) (c := 6) (d := d + 11) s2 (by decide) hl (by decide) (zKI_v ⟨fun z => ?_, fun z => ?_⟩))
      · rw [zB_0.mp z] at g
        exact ⟨Or.inl rfl, g h2 (zEx_le (zEx_trans e1 e2) (by omega) (by omega))⟩
      · rw [zBt z, Bool.true_and] at g
        have t1' := zTyp_ex t1 e2
        obtain ⟨fs', to'⟩ := zTyp_own t1'
        refine zX_cv to' (zc66 t1' (fun f2 tf3 => zKR_v (zX_cv (e2.1 _ _ (e1.1 _ _ ho)) (zc61 (i := 1) (d := d + 12) s2 (by decide) hl (fun h3 v e3 t3 => zKR_v ?_)))))
        obtain ⟨fs3, to3⟩ := zTyp_own t3
        refine zX_cv to3 (zc10 t3 (fun f4 tf4 => zKR_v ?_))
        have h92 : ztdep (zt2 (zkat L 2)) ≤ 9 := Nat.le_trans (zpt_dep (kd := true) (T := zkat L 2) (e := default) (fst := false)) (hd 2)
        have ex := zEx_le (zEx_trans (zEx_trans e1 e2) e3) (show 1 + 1 + 1 ≤ 4 by omega) (show 5 + 5 + 5 ≤ 20 by omega)
        refine ⟨d + 13, rfl, zc63 _ _ _ _ (d + 13) _ (zTyp_ex tf3 e3) tf4 (by omega) (zKI_v ⟨fun z => ?_, fun z => ?_⟩)⟩
        · rw [zB_0.mp z] at g
          exact ⟨Or.inl rfl, g h3 ex⟩
        · rw [zBt z] at g
          exact ⟨Or.inr rfl, g h3 ex⟩
theorem zc67 (hk : zCk h ck) (hs : zStk h L b) (hl : L.length < 1000) (hd : ∀ i, ztdep (zkat L i) ≤ 9) (hc5 : 55 ≤ c) (hc7 : c ≤ 76) (hc : c < 256) (g : ∀ h', zEx h h' 4 20 → Q (.inl (some (.int (zB (zkrd c L i))))) h') : zG xs (d + 14) (67, 0, lv_args 0 [zo (some ck), .int (nI c), zo (some b)], []) h Q := by
  obtain ⟨p, q, ho⟩ := zStk_at hs
  refine zm_67 ⟨fun z => ?_, fun z => ?_, fun z => ?_, fun z => ?_, fun z => ?_, fun z => ?_, fun z => ?_, fun z => ?_, fun z => ?_⟩
  · rcases z with z | z
    · obtain rfl : c = 55 := zcc hc (by decide) z
      have hz : zkrd 55 L i = (zkhs L 0 1 && zkhs L 1 1) := rfl
      rw [hz] at g
      refine zX_cv ho (zc60 (i := 0) (c := 1) (d := d + 11) hs (by decide) hl (by decide) (zKI_v ⟨fun z => ?_, fun z => zX_cv ho (zc60 (i := 1) (c := 1) (d := d + 11) hs (by decide) hl (by decide) (zKI_v ⟨fun z2 => ?_, fun z2 => ?_⟩))⟩))
      · rw [zB_0.mp z] at g; exact ⟨Or.inl rfl, g h (zEx_le (zEx_refl h) (by omega) (by omega))⟩
      · rw [zBt z, zB_0.mp z2] at g; exact ⟨Or.inl rfl, g h (zEx_le (zEx_refl h) (by omega) (by omega))⟩
      · rw [zBt z, zBt z2] at g; exact ⟨Or.inr rfl, g h (zEx_le (zEx_refl h) (by omega) (by omega))⟩
    · obtain rfl : c = 56 := zcc hc (by decide) z
      have hz : zkrd 56 L i = (zkhs L 0 1 && zkhs L 1 1) := rfl
      rw [hz] at g
      refine zX_cv ho (zc60 (i := 0) (c := 1) (d := d + 11) hs (by decide) hl (by decide) (zKI_v ⟨fun z => ?_, fun z => zX_cv ho (zc60 (i := 1) (c := 1) (d := d + 11) hs (by decide) hl (by decide) (zKI_v ⟨fun z2 => ?_, fun z2 => ?_⟩))⟩))
      · rw [zB_0.mp z] at g; exact ⟨Or.inl rfl, g h (zEx_le (zEx_refl h) (by omega) (by omega))⟩
      · rw [zBt z, zB_0.mp z2] at g; exact ⟨Or.inl rfl, g h (zEx_le (zEx_refl h) (by omega) (by omega))⟩
      · rw [zBt z, zBt z2] at g; exact ⟨Or.inr rfl, g h (zEx_le (zEx_refl h) (by omega) (by omega))⟩
  · rcases z with z | z | z
    · obtain rfl : c = 57 := zcc hc (by decide) z
      exact zX_cv ho (zc60 (i := 0) (c := 1) (d := d + 11) hs (by decide) hl (by decide) (zKI_v ⟨zB_01 _, g h (zEx_le (zEx_refl h) (by omega) (by omega))⟩))
    · obtain rfl : c = 58 := zcc hc (by decide) z
      exact zX_cv ho (zc60 (i := 0) (c := 1) (d := d + 11) hs (by decide) hl (by decide) (zKI_v ⟨zB_01 _, g h (zEx_le (zEx_refl h) (by omega) (by omega))⟩))
    · obtain rfl : c = 59 := zcc hc (by decide) z
      exact zX_cv ho (zc60 (i := 0) (c := 1) (d := d + 11) hs (by decide) hl (by decide) (zKI_v ⟨zB_01 _, g h (zEx_le (zEx_refl h) (by omega) (by omega))⟩))
  · rcases z with z | z | z | z
    · obtain rfl : c = 60 := zcc hc (by decide) z
      have hz : zkrd 60 L i = (zkn (zkat L 0) && zkn (zkat L 1)) := rfl
      rw [hz] at g
      refine zX_cv ho (zc61 (i := 0) (d := d + 12) hs (by decide) hl (fun h1 t e1 t1 => zKR_v ?_))
      obtain ⟨fs, to⟩ := zTyp_own t1
      refine zX_cv to (zc68 t1 (zKI_v ⟨fun z => ?_, fun z => ?_⟩))
      · have : zkn (zkat L 0) = false := zB_0.mp z
        rw [this] at g; exact ⟨Or.inl rfl, g h1 (zEx_le e1 (by omega) (by omega))⟩
      · have m1 : zkn (zkat L 0) = true := zBt z
        rw [m1, Bool.true_and] at g
        refine zX_cv (e1.1 _ _ ho) (zc61 (i := 1) (d := d + 12) (zStk_ex hs e1) (by decide) hl (fun h2 u e2 t2 => zKR_v ?_))
        obtain ⟨fs2, to2⟩ := zTyp_own t2
        have ex := zEx_le (zEx_trans e1 e2) (show 1 + 1 ≤ 4 by omega) (show 5 + 5 ≤ 20 by omega)
        refine zX_cv to2 (zc68 t2 (zKI_v ⟨fun z => ?_, fun z => ?_⟩))
        · have : zkn (zkat L 1) = false := zB_0.mp z
          rw [this] at g; exact ⟨Or.inl rfl, g h2 ex⟩
        · have : zkn (zkat L 1) = true := zBt z
          rw [this] at g; exact ⟨Or.inr rfl, g h2 ex⟩
    · obtain rfl : c = 61 := zcc hc (by decide) z
      have hz : zkrd 61 L i = (zkn (zkat L 0) && zkn (zkat L 1)) := rfl
      rw [hz] at g
      refine zX_cv ho (zc61 (i := 0) (d := d + 12) hs (by decide) hl (fun h1 t e1 t1 => zKR_v ?_))
      obtain ⟨fs, to⟩ := zTyp_own t1
      refine zX_cv to (zc68 t1 (zKI_v ⟨fun z => ?_, fun z => ?_⟩))
      · have : zkn (zkat L 0) = false := zB_0.mp z
        rw [this] at g; exact ⟨Or.inl rfl, g h1 (zEx_le e1 (by omega) (by omega))⟩
      · have m1 : zkn (zkat L 0) = true := zBt z
        rw [m1, Bool.true_and] at g
        refine zX_cv (e1.1 _ _ ho) (zc61 (i := 1) (d := d + 12) (zStk_ex hs e1) (by decide) hl (fun h2 u e2 t2 => zKR_v ?_))
        obtain ⟨fs2, to2⟩ := zTyp_own t2
        have ex := zEx_le (zEx_trans e1 e2) (show 1 + 1 ≤ 4 by omega) (show 5 + 5 ≤ 20 by omega)
        refine zX_cv to2 (zc68 t2 (zKI_v ⟨fun z => ?_, fun z => ?_⟩))
        · have : zkn (zkat L 1) = false := zB_0.mp z
          rw [this] at g; exact ⟨Or.inl rfl, g h2 ex⟩
        · have : zkn (zkat L 1) = true := zBt z
          rw [this] at g; exact ⟨Or.inr rfl, g h2 ex⟩
    · obtain rfl : c = 62 := zcc hc (by decide) z
      have hz : zkrd 62 L i = (zkn (zkat L 0) && zkn (zkat L 1)) := rfl
      rw [hz] at g
      refine zX_cv ho (zc61 (i := 0) (d := d + 12) hs (by decide) hl (fun h1 t e1 t1 => zKR_v ?_))
      obtain ⟨fs, to⟩ := zTyp_own t1
      refine zX_cv to (zc68 t1 (zKI_v ⟨fun z => ?_, fun z => ?_⟩))
      · have : zkn (zkat L 0) = false := zB_0.mp z
        rw [this] at g; exact ⟨Or.inl rfl, g h1 (zEx_le e1 (by omega) (by omega))⟩
      · have m1 : zkn (zkat L 0) = true := zBt z
        rw [m1, Bool.true_and] at g
        refine zX_cv (e1.1 _ _ ho) (zc61 (i := 1) (d := d + 12) (zStk_ex hs e1) (by decide) hl (fun h2 u e2 t2 => zKR_v ?_))
        obtain ⟨fs2, to2⟩ := zTyp_own t2
        have ex := zEx_le (zEx_trans e1 e2) (show 1 + 1 ≤ 4 by omega) (show 5 + 5 ≤ 20 by omega)
        refine zX_cv to2 (zc68 t2 (zKI_v ⟨fun z => ?_, fun z => ?_⟩))
        · have : zkn (zkat L 1) = false := zB_0.mp z
          rw [this] at g; exact ⟨Or.inl rfl, g h2 ex⟩
        · have : zkn (zkat L 1) = true := zBt z
          rw [this] at g; exact ⟨Or.inr rfl, g h2 ex⟩
    · obtain rfl : c = 63 := zcc hc (by decide) z
      have hz : zkrd 63 L i = (zkn (zkat L 0) && zkn (zkat L 1)) := rfl
      rw [hz] at g
      refine zX_cv ho (zc61 (i := 0) (d := d + 12) hs (by decide) hl (fun h1 t e1 t1 => zKR_v ?_))
      obtain ⟨fs, to⟩ := zTyp_own t1
      refine zX_cv to (zc68 t1 (zKI_v ⟨fun z => ?_, fun z => ?_⟩))
      · have : zkn (zkat L 0) = false := zB_0.mp z
        rw [this] at g; exact ⟨Or.inl rfl, g h1 (zEx_le e1 (by omega) (by omega))⟩
      · have m1 : zkn (zkat L 0) = true := zBt z
        rw [m1, Bool.true_and] at g
        refine zX_cv (e1.1 _ _ ho) (zc61 (i := 1) (d := d + 12) (zStk_ex hs e1) (by decide) hl (fun h2 u e2 t2 => zKR_v ?_))
        obtain ⟨fs2, to2⟩ := zTyp_own t2
        have ex := zEx_le (zEx_trans e1 e2) (show 1 + 1 ≤ 4 by omega) (show 5 + 5 ≤ 20 by omega)
        refine zX_cv to2 (zc68 t2 (zKI_v ⟨fun z => ?_, fun z => ?_⟩))
        · have : zkn (zkat L 1) = false := zB_0.mp z
          rw [this] at g; exact ⟨Or.inl rfl, g h2 ex⟩
        · have : zkn (zkat L 1) = true := zBt z
          rw [this] at g; exact ⟨Or.inr rfl, g h2 ex⟩
  · obtain rfl : c = 64 := zcc hc (by decide) z
    have hz : zkrd 64 L i = zkn (zkat L 0) := rfl
    rw [hz] at g
    refine zX_cv ho (zc61 (i := 0) (d := d + 12) hs (by decide) hl (fun h1 t e1 t1 => zKR_v ?_))
    obtain ⟨fs, to⟩ := zTyp_own t1
    exact zX_cv to (zc68 t1 (zKI_v ⟨zB_01 _, g h1 (zEx_le e1 (by omega) (by omega))⟩))
  · obtain rfl : c = 67 := zcc hc (by decide) z
    exact zX_cv ho (zc60 (i := 0) (c := 3) (d := d + 11) hs (by decide) hl (by decide) (zKI_v ⟨zB_01 _, g h (zEx_le (zEx_refl h) (by omega) (by omega))⟩))
  · obtain rfl : c = 68 := zcc hc (by decide) z
    have hz : zkrd 68 L i = (ztsim (zkat L 0) && zkat L 0 == zkat L 1) := rfl
    rw [hz] at g
    refine zX_cv ho (zc61 (i := 0) (d := d + 12) hs (by decide) hl (fun h1 t e1 t1 => zKR_v (zTyp_gs t1 ⟨fun z => ?_, fun z => ?_⟩)))
    · rw [zB_0.mp z] at g; exact ⟨Or.inl rfl, g h1 (zEx_le e1 (by omega) (by omega))⟩
    · rw [zBt z, Bool.true_and] at g
      have s1 := zStk_ex hs e1
      refine zX_cv (e1.1 _ _ ho) (zc61 (i := 0) (d := d + 12) s1 (by decide) hl (fun h2 u e2 t2 => zKR_v ?_))
      refine zX_cv (e2.1 _ _ (e1.1 _ _ ho)) (zc61 (i := 1) (d := d + 12) (zStk_ex s1 e2) (by decide) hl (fun h3 v e3 t3 => zKR_v ?_))
      have ex := zEx_le (zEx_trans (zEx_trans e1 e2) e3) (show 1 + 1 + 1 ≤ 4 by omega) (show 5 + 5 + 5 ≤ 20 by omega)
      refine ⟨d + 13, rfl, zc63 _ _ _ _ (d + 13) _ (zTyp_ex t2 e3) t3 (by have := hd 0; omega) (zKI_v ⟨fun z => ?_, fun z => ?_⟩)⟩
      · rw [zB_0.mp z] at g; exact ⟨Or.inl rfl, g h3 ex⟩
      · rw [zBt z] at g; exact ⟨Or.inr rfl, g h3 ex⟩
  · obtain rfl : c = 75 := zcc hc (by decide) z
    have hz : zkrd 75 L i = (zkhs L 0 4 && zkhs L 1 4) := rfl
    rw [hz] at g
    refine zX_cv ho (zc60 (i := 0) (c := 4) (d := d + 11) hs (by decide) hl (by decide) (zKI_v ⟨fun z => ?_, fun z => zX_cv ho (zc60 (i := 1) (c := 4) (d := d + 11) hs (by decide) hl (by decide) (zKI_v ⟨fun z2 => ?_, fun z2 => ?_⟩))⟩))
    · rw [zB_0.mp z] at g; exact ⟨Or.inl rfl, g h (zEx_le (zEx_refl h) (by omega) (by omega))⟩
    · rw [zBt z, zB_0.mp z2] at g; exact ⟨Or.inl rfl, g h (zEx_le (zEx_refl h) (by omega) (by omega))⟩
    · rw [zBt z, zBt z2] at g; exact ⟨Or.inr rfl, g h (zEx_le (zEx_refl h) (by omega) (by omega))⟩
  · obtain rfl : c = 76 := zcc hc (by decide) z
    have hz : zkrd 76 L i = (ztsim (zkat L 0) || zkhs L 0 0) := rfl
    rw [hz] at g
    refine zX_cv ho (zc61 (i := 0) (d := d + 12) hs (by decide) hl (fun h1 t e1 t1 => zKR_v (zTyp_gs t1 ⟨fun z => ?_, fun z => ?_⟩)))
    · rw [zB_0.mp z, Bool.false_or] at g
      refine zX_cv (e1.1 _ _ ho) (zc60 (i := 0) (c := 0) (d := d + 11) (zStk_ex hs e1) (by decide) hl (by decide) (zKI_v ⟨fun z => ?_, fun z => ?_⟩))
      · rw [zB_0.mp z] at g; exact ⟨Or.inl rfl, g h1 (zEx_le e1 (by omega) (by omega))⟩
      · rw [zBt z] at g; exact ⟨Or.inr rfl, g h1 (zEx_le e1 (by omega) (by omega))⟩
    · rw [zBt z, Bool.true_or] at g; exact ⟨Or.inr rfl, g h1 (zEx_le e1 (by omega) (by omega))⟩
  · have n55 : c ≠ 55 := zcx (k := 55) (fun w => z.1 (Or.inl w))
    have n56 : c ≠ 56 := zcx (k := 56) (fun w => z.1 (Or.inr (w)))
    have n57 : c ≠ 57 := zcx (k := 57) (fun w => z.2.1 (Or.inl w))
    have n58 : c ≠ 58 := zcx (k := 58) (fun w => z.2.1 (Or.inr (Or.inl w)))
    have n59 : c ≠ 59 := zcx (k := 59) (fun w => z.2.1 (Or.inr (Or.inr (w))))
    have n60 : c ≠ 60 := zcx (k := 60) (fun w => z.2.2.1 (Or.inl w))
    have n61 : c ≠ 61 := zcx (k := 61) (fun w => z.2.2.1 (Or.inr (Or.inl w)))
    have n62 : c ≠ 62 := zcx (k := 62) (fun w => z.2.2.1 (Or.inr (Or.inr (Or.inl w))))
    have n63 : c ≠ 63 := zcx (k := 63) (fun w => z.2.2.1 (Or.inr (Or.inr (Or.inr (w)))))
    have n64 : c ≠ 64 := zcx (k := 64) z.2.2.2.1
    have n67 : c ≠ 67 := zcx (k := 67) z.2.2.2.2.1
    have n68 : c ≠ 68 := zcx (k := 68) z.2.2.2.2.2.1
    have n75 : c ≠ 75 := zcx (k := 75) z.2.2.2.2.2.2.1
    have n76 : c ≠ 76 := zcx (k := 76) z.2.2.2.2.2.2.2
    have hz : zkrd c L i = zkhs L 0 2 := by
      unfold zkrd
      rw [if_neg (by omega), if_neg (by omega), if_neg (by omega), if_neg (by omega), if_neg (by omega), if_neg (by omega), if_neg (by omega), if_neg (by omega), if_neg (by omega), if_neg (by omega), if_neg (by omega), if_neg (by omega), if_neg (by omega), if_neg (by omega), if_neg (by omega), if_neg (by omega), if_neg (by omega), if_neg (by omega), if_neg (by omega), if_neg (by omega), if_neg (by omega)]
    rw [hz] at g
    exact zX_cv ho (zc60 (i := 0) (c := 2) (d := d + 11) hs (by decide) hl (by decide) (zKI_v ⟨zB_01 _, g h (zEx_le (zEx_refl h) (by omega) (by omega))⟩))
theorem zc59 (hk : zCk h ck) (hs : zStk h L b) (hl : L.length < 1000) (hi : i < 1000) (hd : ∀ i, ztdep (zkat L i) ≤ 9) (hc3 : 30 ≤ c) (hc7 : c ≤ 76) (hc : c < 256) (g : ∀ h', zEx h h' 4 20 → Q (.inl (some (.int (zB (zkrd c L i))))) h') : zG xs (d + 15) (59, 0, lv_args 0 [zo (some ck), .int (nI c), zo (some b), .int (nI i)], []) h Q := by
  obtain ⟨p, q, ho⟩ := zStk_at hs
  refine zm_59 ⟨fun z => ?_, fun z => ?_, fun z => ?_, fun z => ?_, fun z => ?_, fun z => ?_, fun z => ?_, fun z => ?_, fun z => ?_, fun z => ?_, fun z => ?_, fun z => ?_, fun z => ?_, fun z => ?_⟩
  · rcases z with z | z | z | z | z | z
    · obtain rfl : c = 30 := zcc hc (by decide) z
      have hz : zkrd 30 L i = decide (1 ≤ L.length) := rfl
      rw [hz] at g
      refine zX_gi ho rfl (pk_lt L.length 1 (fun q => ?_) (fun q => ?_))
      · rw [decide_eq_false (by omega)] at g; exact ⟨Or.inl rfl, g h (zEx_le (zEx_refl h) (by omega) (by omega))⟩
      · rw [decide_eq_true (by omega)] at g; exact ⟨Or.inr rfl, g h (zEx_le (zEx_refl h) (by omega) (by omega))⟩
    · obtain rfl : c = 31 := zcc hc (by decide) z
      have hz : zkrd 31 L i = decide (1 ≤ L.length) := rfl
      rw [hz] at g
      refine zX_gi ho rfl (pk_lt L.length 1 (fun q => ?_) (fun q => ?_))
      · rw [decide_eq_false (by omega)] at g; exact ⟨Or.inl rfl, g h (zEx_le (zEx_refl h) (by omega) (by omega))⟩
      · rw [decide_eq_true (by omega)] at g; exact ⟨Or.inr rfl, g h (zEx_le (zEx_refl h) (by omega) (by omega))⟩
    · obtain rfl : c = 33 := zcc hc (by decide) z
      have hz : zkrd 33 L i = decide (1 ≤ L.length) := rfl
      rw [hz] at g
      refine zX_gi ho rfl (pk_lt L.length 1 (fun q => ?_) (fun q => ?_))
      · rw [decide_eq_false (by omega)] at g; exact ⟨Or.inl rfl, g h (zEx_le (zEx_refl h) (by omega) (by omega))⟩
      · rw [decide_eq_true (by omega)] at g; exact ⟨Or.inr rfl, g h (zEx_le (zEx_refl h) (by omega) (by omega))⟩
    · obtain rfl : c = 39 := zcc hc (by decide) z
      have hz : zkrd 39 L i = decide (1 ≤ L.length) := rfl
      rw [hz] at g
      refine zX_gi ho rfl (pk_lt L.length 1 (fun q => ?_) (fun q => ?_))
      · rw [decide_eq_false (by omega)] at g; exact ⟨Or.inl rfl, g h (zEx_le (zEx_refl h) (by omega) (by omega))⟩
      · rw [decide_eq_true (by omega)] at g; exact ⟨Or.inr rfl, g h (zEx_le (zEx_refl h) (by omega) (by omega))⟩
    · obtain rfl : c = 42 := zcc hc (by decide) z
      have hz : zkrd 42 L i = decide (1 ≤ L.length) := rfl
      rw [hz] at g
      refine zX_gi ho rfl (pk_lt L.length 1 (fun q => ?_) (fun q => ?_))
      · rw [decide_eq_false (by omega)] at g; exact ⟨Or.inl rfl, g h (zEx_le (zEx_refl h) (by omega) (by omega))⟩
      · rw [decide_eq_true (by omega)] at g; exact ⟨Or.inr rfl, g h (zEx_le (zEx_refl h) (by omega) (by omega))⟩
    · obtain rfl : c = 43 := zcc hc (by decide) z
      have hz : zkrd 43 L i = decide (1 ≤ L.length) := rfl
      rw [hz] at g
      refine zX_gi ho rfl (pk_lt L.length 1 (fun q => ?_) (fun q => ?_))
      · rw [decide_eq_false (by omega)] at g; exact ⟨Or.inl rfl, g h (zEx_le (zEx_refl h) (by omega) (by omega))⟩
      · rw [decide_eq_true (by omega)] at g; exact ⟨Or.inr rfl, g h (zEx_le (zEx_refl h) (by omega) (by omega))⟩
  · rcases z with z | z
    · obtain rfl : c = 32 := zcc hc (by decide) z
      have hz : zkrd 32 L i = decide (2 ≤ L.length) := rfl
      rw [hz] at g
      refine zX_gi ho rfl (pk_lt L.length 2 (fun q => ?_) (fun q => ?_))
      · rw [decide_eq_false (by omega)] at g; exact ⟨Or.inl rfl, g h (zEx_le (zEx_refl h) (by omega) (by omega))⟩
      · rw [decide_eq_true (by omega)] at g; exact ⟨Or.inr rfl, g h (zEx_le (zEx_refl h) (by omega) (by omega))⟩
    · obtain rfl : c = 36 := zcc hc (by decide) z
      have hz : zkrd 36 L i = decide (2 ≤ L.length) := rfl
      rw [hz] at g
      refine zX_gi ho rfl (pk_lt L.length 2 (fun q => ?_) (fun q => ?_))
      · rw [decide_eq_false (by omega)] at g; exact ⟨Or.inl rfl, g h (zEx_le (zEx_refl h) (by omega) (by omega))⟩
      · rw [decide_eq_true (by omega)] at g; exact ⟨Or.inr rfl, g h (zEx_le (zEx_refl h) (by omega) (by omega))⟩
  · rcases z with z | z | z | z | z
    · obtain rfl : c = 34 := zcc hc (by decide) z
      exact ⟨Or.inr rfl, g h (zEx_le (zEx_refl h) (by omega) (by omega))⟩
    · obtain rfl : c = 35 := zcc hc (by decide) z
      exact ⟨Or.inr rfl, g h (zEx_le (zEx_refl h) (by omega) (by omega))⟩
    · obtain rfl : c = 40 := zcc hc (by decide) z
      exact ⟨Or.inr rfl, g h (zEx_le (zEx_refl h) (by omega) (by omega))⟩
    · obtain rfl : c = 45 := zcc hc (by decide) z
      exact ⟨Or.inr rfl, g h (zEx_le (zEx_refl h) (by omega) (by omega))⟩
    · obtain rfl : c = 51 := zcc hc (by decide) z
      exact ⟨Or.inr rfl, g h (zEx_le (zEx_refl h) (by omega) (by omega))⟩
  · rcases z with z | z
    · obtain rfl : c = 37 := zcc hc (by decide) z
      exact zX_cv ho (zc60 (i := 0) (c := 5) (d := d + 12) hs (by decide) hl (by decide) (zKI_v ⟨zB_01 _, g h (zEx_le (zEx_refl h) (by omega) (by omega))⟩))
    · obtain rfl : c = 38 := zcc hc (by decide) z
      exact zX_cv ho (zc60 (i := 0) (c := 5) (d := d + 12) hs (by decide) hl (by decide) (zKI_v ⟨zB_01 _, g h (zEx_le (zEx_refl h) (by omega) (by omega))⟩))
  · obtain rfl : c = 41 := zcc hc (by decide) z
    exact zX_cv ho (zc60 (i := 0) (c := 6) (d := d + 12) hs (by decide) hl (by decide) (zKI_v ⟨zB_01 _, g h (zEx_le (zEx_refl h) (by omega) (by omega))⟩))
  · obtain rfl : c = 44 := zcc hc (by decide) z
    exact zX_cv ho (zc60 (i := 0) (c := 7) (d := d + 12) hs (by decide) hl (by decide) (zKI_v ⟨zB_01 _, g h (zEx_le (zEx_refl h) (by omega) (by omega))⟩))
  · obtain rfl : c = 46 := zcc hc (by decide) z
    have hz : zkrd 46 L i = (zkhs L 1 8 && zt1 (zkat L 1) == zkat L 0) := rfl
    rw [hz] at g
    refine zX_cv ho (zc60 (i := 1) (c := 8) (d := d + 12) hs (by decide) hl (by decide) (zKI_v ⟨fun z => ?_, fun z => ?_⟩))
    · rw [zB_0.mp z] at g; exact ⟨Or.inl rfl, g h (zEx_le (zEx_refl h) (by omega) (by omega))⟩
    · rw [zBt z, Bool.true_and] at g
      refine zX_cv ho (zc61 (i := 1) (d := d + 13) hs (by decide) hl (fun h1 t e1 t1 => zKR_v ?_))
      obtain ⟨fs, to⟩ := zTyp_own t1
      refine zX_cv to (zc10 t1 (fun f1 tf => zKR_v (zX_cv (e1.1 _ _ ho) (zc61 (i := 0) (d := d + 13) (zStk_ex hs e1) (by decide) hl (fun h2 u e2 t2 => zKR_v ?_)))))
      have h9 : ztdep (zt1 (zkat L 1)) ≤ 9 := Nat.le_trans (zpt_dep (kd := true) (T := zkat L 1) (e := default) (fst := true)) (hd 1)
      have ex := zEx_le (zEx_trans e1 e2) (show 1 + 1 ≤ 4 by omega) (show 5 + 5 ≤ 20 by omega)
      refine ⟨d + 14, rfl, zc63 _ _ _ _ (d + 14) _ (zTyp_ex tf e2) t2 (by omega) (zKI_v ⟨fun z => ?_, fun z => ?_⟩)⟩
      · rw [zB_0.mp z] at g; exact ⟨Or.inl rfl, g h2 ex⟩
      · rw [zBt z] at g; exact ⟨Or.inr rfl, g h2 ex⟩
  · obtain rfl : c = 47 := zcc hc (by decide) z
    have hz : zkrd 47 L i = (zkhs L 0 8 && decide (L.length + i < 12)) := rfl
    rw [hz] at g
    refine zX_cv ho (zc60 (i := 0) (c := 8) (d := d + 12) hs (by decide) hl (by decide) (zKI_v ⟨fun z => ?_, fun z => zX_gi ho rfl ?_⟩))
    · rw [zB_0.mp z] at g; exact ⟨Or.inl rfl, g h (zEx_le (zEx_refl h) (by omega) (by omega))⟩
    · rw [zBt z, Bool.true_and] at g
      rw [nI_add]
      refine pk_lt (L.length + i) 12 (fun q => ?_) (fun q => ?_)
      · rw [decide_eq_true q] at g; exact ⟨Or.inr rfl, g h (zEx_le (zEx_refl h) (by omega) (by omega))⟩
      · rw [decide_eq_false (by omega)] at g; exact ⟨Or.inl rfl, g h (zEx_le (zEx_refl h) (by omega) (by omega))⟩
  · obtain rfl : c = 48 := zcc hc (by decide) z
    have hz : zkrd 48 L i = (zkhs L 0 8 || zkhs L 0 9 || zkhs L 0 4) := rfl
    rw [hz] at g
    refine zX_cv ho (zc60 (i := 0) (c := 8) (d := d + 12) hs (by decide) hl (by decide) (zKI_v ⟨fun z => ?_, fun z => ?_⟩))
    · rw [zB_0.mp z, Bool.false_or] at g
      refine zX_cv ho (zc60 (i := 0) (c := 9) (d := d + 12) hs (by decide) hl (by decide) (zKI_v ⟨fun z => ?_, fun z => ?_⟩))
      · rw [zB_0.mp z, Bool.false_or] at g
        refine zX_cv ho (zc60 (i := 0) (c := 4) (d := d + 12) hs (by decide) hl (by decide) (zKI_v ⟨fun z => ?_, fun z => ?_⟩))
        · rw [zB_0.mp z] at g; exact ⟨Or.inl rfl, g h (zEx_le (zEx_refl h) (by omega) (by omega))⟩
        · rw [zBt z] at g; exact ⟨Or.inr rfl, g h (zEx_le (zEx_refl h) (by omega) (by omega))⟩
      · rw [zBt z, Bool.true_or] at g; exact ⟨Or.inr rfl, g h (zEx_le (zEx_refl h) (by omega) (by omega))⟩
    · rw [zBt z, Bool.true_or, Bool.true_or] at g; exact ⟨Or.inr rfl, g h (zEx_le (zEx_refl h) (by omega) (by omega))⟩
  · obtain rfl : c = 49 := zcc hc (by decide) z
    have hz : zkrd 49 L i = (zkhs L 0 8 || zkhs L 0 9) := rfl
    rw [hz] at g
    refine zX_cv ho (zc60 (i := 0) (c := 8) (d := d + 12) hs (by decide) hl (by decide) (zKI_v ⟨fun z => ?_, fun z => ?_⟩))
    · rw [zB_0.mp z, Bool.false_or] at g
      refine zX_cv ho (zc60 (i := 0) (c := 9) (d := d + 12) hs (by decide) hl (by decide) (zKI_v ⟨fun z => ?_, fun z => ?_⟩))
      · rw [zB_0.mp z] at g; exact ⟨Or.inl rfl, g h (zEx_le (zEx_refl h) (by omega) (by omega))⟩
      · rw [zBt z] at g; exact ⟨Or.inr rfl, g h (zEx_le (zEx_refl h) (by omega) (by omega))⟩
    · rw [zBt z, Bool.true_or] at g; exact ⟨Or.inr rfl, g h (zEx_le (zEx_refl h) (by omega) (by omega))⟩
  · obtain rfl : c = 50 := zcc hc (by decide) z
    exact zX_cv ho (zc60 (i := 0) (c := 8) (d := d + 12) hs (by decide) hl (by decide) (zKI_v ⟨zB_01 _, g h (zEx_le (zEx_refl h) (by omega) (by omega))⟩))
  · rcases z with z | z
    · obtain rfl : c = 52 := zcc hc (by decide) z
      have hz : zkrd 52 L i = (zkm (zkat L 1) && zt1 (zkat L 1) == zkat L 0) := rfl
      rw [hz] at g
      refine zX_cv ho (zc61 (i := 1) (d := d + 13) hs (by decide) hl (fun h0 t0 e0 t0t => zKR_v ?_))
      obtain ⟨fs0, to0⟩ := zTyp_own t0t
      refine zX_cv to0 (zc64 t0t (zKI_v ⟨fun z => ?_, fun z => ?_⟩))
      · have : zkm (zkat L 1) = false := zB_0.mp z
        rw [this] at g; exact ⟨Or.inl rfl, g h0 (zEx_le e0 (by omega) (by omega))⟩
      · have m1 : zkm (zkat L 1) = true := zBt z
        rw [m1, Bool.true_and] at g
        have s0 := zStk_ex hs e0
        refine zX_cv (e0.1 _ _ ho) (zc61 (i := 1) (d := d + 13) s0 (by decide) hl (fun h1 t e1 t1 => zKR_v ?_))
        obtain ⟨fs, to⟩ := zTyp_own t1
        refine zX_cv to (zc10 t1 (fun f1 tf => zKR_v (zX_cv (e1.1 _ _ (e0.1 _ _ ho)) (zc61 (i := 0) (d := d + 13) (zStk_ex s0 e1) (by decide) hl (fun h2 u e2 t2 => zKR_v ?_)))))
        have h9 : ztdep (zt1 (zkat L 1)) ≤ 9 := Nat.le_trans (zpt_dep (kd := true) (T := zkat L 1) (e := default) (fst := true)) (hd 1)
        have ex := zEx_le (zEx_trans (zEx_trans e0 e1) e2) (show 1 + 1 + 1 ≤ 4 by omega) (show 5 + 5 + 5 ≤ 20 by omega)
        refine ⟨d + 14, rfl, zc63 _ _ _ _ (d + 14) _ (zTyp_ex tf e2) t2 (by omega) (zKI_v ⟨fun z => ?_, fun z => ?_⟩)⟩
        · rw [zB_0.mp z] at g; exact ⟨Or.inl rfl, g h2 ex⟩
        · rw [zBt z] at g; exact ⟨Or.inr rfl, g h2 ex⟩
    · obtain rfl : c = 54 := zcc hc (by decide) z
      have hz : zkrd 54 L i = (zkm (zkat L 1) && zt1 (zkat L 1) == zkat L 0) := rfl
      rw [hz] at g
      refine zX_cv ho (zc61 (i := 1) (d := d + 13) hs (by decide) hl (fun h0 t0 e0 t0t => zKR_v ?_))
      obtain ⟨fs0, to0⟩ := zTyp_own t0t
      refine zX_cv to0 (zc64 t0t (zKI_v ⟨fun z => ?_, fun z => ?_⟩))
      · have : zkm (zkat L 1) = false := zB_0.mp z
        rw [this] at g; exact ⟨Or.inl rfl, g h0 (zEx_le e0 (by omega) (by omega))⟩
      · have m1 : zkm (zkat L 1) = true := zBt z
        rw [m1, Bool.true_and] at g
        have s0 := zStk_ex hs e0
        refine zX_cv (e0.1 _ _ ho) (zc61 (i := 1) (d := d + 13) s0 (by decide) hl (fun h1 t e1 t1 => zKR_v ?_))
        obtain ⟨fs, to⟩ := zTyp_own t1
        refine zX_cv to (zc10 t1 (fun f1 tf => zKR_v (zX_cv (e1.1 _ _ (e0.1 _ _ ho)) (zc61 (i := 0) (d := d + 13) (zStk_ex s0 e1) (by decide) hl (fun h2 u e2 t2 => zKR_v ?_)))))
        have h9 : ztdep (zt1 (zkat L 1)) ≤ 9 := Nat.le_trans (zpt_dep (kd := true) (T := zkat L 1) (e := default) (fst := true)) (hd 1)
        have ex := zEx_le (zEx_trans (zEx_trans e0 e1) e2) (show 1 + 1 + 1 ≤ 4 by omega) (show 5 + 5 + 5 ≤ 20 by omega)
        refine ⟨d + 14, rfl, zc63 _ _ _ _ (d + 14) _ (zTyp_ex tf e2) t2 (by omega) (zKI_v ⟨fun z => ?_, fun z => ?_⟩)⟩
        · rw [zB_0.mp z] at g; exact ⟨Or.inl rfl, g h2 ex⟩
        · rw [zBt z] at g; exact ⟨Or.inr rfl, g h2 ex⟩
  · obtain rfl : c = 53 := zcc hc (by decide) z
    obtain ⟨ckx, cky, hko⟩ := hk
    exact zX_cv hko (zc65 (i := i) (d := d) ⟨ckx, cky, hko⟩ hs hl hd (fun h1 e1 => zKI_v ⟨zB_01 _, g h1 e1⟩))
  · have n30 : c ≠ 30 := zcx (k := 30) (fun w => z.1 (Or.inl w))
    have n31 : c ≠ 31 := zcx (k := 31) (fun w => z.1 (Or.inr (Or.inl w)))
    have n33 : c ≠ 33 := zcx (k := 33) (fun w => z.1 (Or.inr (Or.inr (Or.inl w))))
    have n39 : c ≠ 39 := zcx (k := 39) (fun w => z.1 (Or.inr (Or.inr (Or.inr (Or.inl w)))))
    have n42 : c ≠ 42 := zcx (k := 42) (fun w => z.1 (Or.inr (Or.inr (Or.inr (Or.inr (Or.inl w))))))
    have n43 : c ≠ 43 := zcx (k := 43) (fun w => z.1 (Or.inr (Or.inr (Or.inr (Or.inr (Or.inr (w)))))))
    have n32 : c ≠ 32 := zcx (k := 32) (fun w => z.2.1 (Or.inl w))
    have n36 : c ≠ 36 := zcx (k := 36) (fun w => z.2.1 (Or.inr (w)))
    have n34 : c ≠ 34 := zcx (k := 34) (fun w => z.2.2.1 (Or.inl w))
    have n35 : c ≠ 35 := zcx (k := 35) (fun w => z.2.2.1 (Or.inr (Or.inl w)))
    have n40 : c ≠ 40 := zcx (k := 40) (fun w => z.2.2.1 (Or.inr (Or.inr (Or.inl w))))
    have n45 : c ≠ 45 := zcx (k := 45) (fun w => z.2.2.1 (Or.inr (Or.inr (Or.inr (Or.inl w)))))
    have n51 : c ≠ 51 := zcx (k := 51) (fun w => z.2.2.1 (Or.inr (Or.inr (Or.inr (Or.inr (w))))))
    have n37 : c ≠ 37 := zcx (k := 37) (fun w => z.2.2.2.1 (Or.inl w))
    have n38 : c ≠ 38 := zcx (k := 38) (fun w => z.2.2.2.1 (Or.inr (w)))
    have n41 : c ≠ 41 := zcx (k := 41) z.2.2.2.2.1
    have n44 : c ≠ 44 := zcx (k := 44) z.2.2.2.2.2.1
    have n46 : c ≠ 46 := zcx (k := 46) z.2.2.2.2.2.2.1
    have n47 : c ≠ 47 := zcx (k := 47) z.2.2.2.2.2.2.2.1
    have n48 : c ≠ 48 := zcx (k := 48) z.2.2.2.2.2.2.2.2.1
    have n49 : c ≠ 49 := zcx (k := 49) z.2.2.2.2.2.2.2.2.2.1
    have n50 : c ≠ 50 := zcx (k := 50) z.2.2.2.2.2.2.2.2.2.2.1
    have n52 : c ≠ 52 := zcx (k := 52) (fun w => z.2.2.2.2.2.2.2.2.2.2.2.1 (Or.inl w))
    have n54 : c ≠ 54 := zcx (k := 54) (fun w => z.2.2.2.2.2.2.2.2.2.2.2.1 (Or.inr (w)))
    have n53 : c ≠ 53 := zcx (k := 53) z.2.2.2.2.2.2.2.2.2.2.2.2
    obtain ⟨ckx, cky, hko⟩ := hk
    exact zX_cv hko (zc67 (i := i) (d := d) ⟨ckx, cky, hko⟩ hs hl hd (by omega) hc7 hc (fun h1 e1 => zKI_v ⟨zB_01 _, g h1 e1⟩))
end STK2
/-! the class's checker: what plain instructions leave -/
section STK3
variable {xs : List Value} {d : Nat} {h h0 : zH} {Q : zO → zH → Prop} {a b c i t u ck : Nat} {L L' : List Term} {T U : Term} {K : zP → zH → Prop} {E : Nat → zH → Prop}
theorem zpsh (hs : zStk h L b) (ht : zTyp h T t) (g : ∀ h' a, zEx h h' 1 3 → zStk h' (T :: L) a → K (some a) h') : zCV xs (d + 2) 55 8 (some b) [zo (some t)] h (zKR K E) := by
  obtain ⟨p, q, ho⟩ := zStk_at hs
  exact zX_cv ho (zc55 hs ht (fun h' a e s => zKR_v (g h' a e s)))
theorem zatt (i : Nat) (hs : zStk h L b) (hl : L.length < 1000) (hi : i < 1000) (g : ∀ h' t, zEx h h' 1 5 → zTyp h' (zkat L i) t → K (some t) h') : zCV xs (d + 2) 61 8 (some b) [.int (nI i)] h (zKR K E) := by
  obtain ⟨p, q, ho⟩ := zStk_at hs
  exact zX_cv ho (zc61 hs hi hl (fun h' t e s => zKR_v (g h' t e s)))
theorem zdrp (i : Nat) (hs : zStk h L b) (hi : i < 1000) (g : ∀ a, zStk h (L.drop i) a → K (some a) h) : zCV xs (d + 1) 62 8 (some b) [.int (nI i)] h (zKR K E) := by
  obtain ⟨p, q, ho⟩ := zStk_at hs
  exact zX_cv ho (zc62 hs hi (fun a s => zKR_v (g a s)))
theorem zty0 (c : Nat) (hc : c ≤ 4) (g : ∀ h' a, zEx h h' 1 5 → zTyp h' (.arg c) a → K (some a) h') : zCall xs (d + 2) 88 [.int (nI c)] h (zKR K E) := ⟨d + 1, rfl, zc88 hc (fun h' e t => zKR_v (g h' _ e t))⟩
theorem zty1 (c : Nat) (ht : zTyp h T t) (hc : c = 6 ∨ c = 8) (hd : ztdep T < 1000) (g : ∀ h' a, zEx h h' 1 5 → zTyp h' (.div (.arg c) T) a → K (some a) h') : zCall xs (d + 2) 74 [.int (nI c), zo (some t)] h (zKR K E) := ⟨d + 1, rfl, zc74 ht hc (by show 1 + _ < _; omega) (fun h' e t => zKR_v (g h' _ e t))⟩
theorem zty5 (ht : zTyp h T t) (hu : zTyp h U u) (hd : ztdep T < 1000) (hd2 : ztdep U < 1000) (g : ∀ h' a, zEx h h' 1 5 → zTyp h' (.add (.div (.arg 5) T) U) a → K (some a) h') : zCall xs (d + 2) 52 [zo (some t), zo (some u)] h (zKR K E) := ⟨d + 1, rfl, zc52 ht hu (by show 1 + max _ _ < _; omega) (fun h' e t => zKR_v (g h' _ e t))⟩
theorem ztpa (ht : zTyp h T t) (g : ∀ a, zTyp h (zt1 T) a → K (some a) h) : zCV xs (d + 1) 10 7 (some t) [] h (zKR K E) := by
  obtain ⟨fs, to⟩ := zTyp_own ht
  exact zX_cv to (zc10 ht (fun a s => zKR_v (g a s)))
theorem ztpb (ht : zTyp h T t) (g : ∀ a, zTyp h (zt2 T) a → K (some a) h) : zCV xs (d + 1) 66 7 (some t) [] h (zKR K E) := by
  obtain ⟨fs, to⟩ := zTyp_own ht
  exact zX_cv to (zc66 ht (fun a s => zKR_v (g a s)))
theorem zt1_dep : ztdep (zt1 T) ≤ ztdep T := zpt_dep (kd := true) (T := T) (e := default) (fst := true)
theorem zt2_dep : ztdep (zt2 T) ≤ ztdep T := zpt_dep (kd := true) (T := T) (e := default) (fst := false)
theorem zc87 (hs : zStk h L b) (hl : L.length < 1000) (hc : c = 60 ∨ c = 61 ∨ c = 62 ∨ c = 63) (g : ∀ h' a, zEx h h' 8 40 → zStk h' (zkaf c L) a → Q (.inl (some (.ref a))) h') : zG xs (d + 3) (87, 0, lv_args 0 [zo (some ck), .int (nI c), zo (some b)], []) h Q := by
  have fin : ∀ {h1 : zH} {T : Term} {t : Nat}, zEx h h1 7 37 → zTyp h1 T t → zkaf c L = T :: L.drop 2 → zw_87_66 xs (d + 3) Q (some b) (some t) h1 := by
    intro h1 T t e1 t1 hz
    refine zdrp 2 (zStk_ex hs e1) (by decide) (fun a sa => zpsh (d := d + 1) sa (t1) (fun h2 a2 e2 s2 => ?_))
    rw [hz] at g
    exact g h2 a2 (zEx_trans e1 e2) s2
  have k39 : ∀ (k : Nat), (k = 2 ∨ k = 3) → zksm c L = .arg k → zw_87_39 xs (d + 3) Q (nI c) (some b) (nI k) h := by
    intro k hk hz
    refine zty0 (d := d + 1) k (by omega) (fun h1 t1 e1 tt1 => pk_eq c 63 (fun e => ?_) (fun e => ?_))
    · subst e
      refine zty0 (d := d + 1) 3 (by decide) (fun h2 t2 e2 tt2 => zty5 (d := d + 1) (zTyp_ex tt1 e2) tt2 (show 1 < 1000 by decide) (show 1 < 1000 by decide) (fun h3 t3 e3 tt3 => zty1 (d := d + 1) 6 tt3 (Or.inl rfl) (show 2 < 1000 by decide) (fun h4 t4 e4 tt4 => ?_)))
      refine fin (zEx_le (zEx_trans (zEx_trans (zEx_trans e1 e2) e3) e4) (by decide) (by decide)) tt4 ?_
      show Term.div (.arg 6) (.add (.div (.arg 5) (zksm 63 L)) (.arg 3)) :: L.drop 2 = _
      rw [hz]
    · refine fin (zEx_le e1 (by decide) (by decide)) tt1 ?_
      rcases hc with rfl | rfl | rfl | rfl
      · show zksm 60 L :: L.drop 2 = _; rw [hz]
      · show zksm 61 L :: L.drop 2 = _; rw [hz]
      · show zksm 62 L :: L.drop 2 = _; rw [hz]
      · exact absurd rfl e
  have k28 : zksm c L = .arg 2 → zw_87_28 xs (d + 3) Q (nI c) (some b) h := fun hz => ⟨fun _ => k39 2 (Or.inl rfl) hz, fun z => absurd rfl z⟩
  obtain ⟨p, q, ho⟩ := zStk_at hs
  refine zm_87 (pk_eq c 61 (fun e => k28 ?_) (fun e => ?_))
  · unfold zksm; rw [if_neg (fun z => z.1 e)]
  · refine zX_cv ho (zc60 (i := 0) (c := 3) (d := d) hs (by decide) hl (by decide) (zKI_v ⟨fun z => k28 ?_, fun z => ?_⟩))
    · unfold zksm; rw [if_neg (fun q => by rw [zB_0.mp z] at q; exact absurd q.2.1 (by decide))]
    · refine zX_cv ho (zc60 (i := 1) (c := 3) (d := d) hs (by decide) hl (by decide) (zKI_v ⟨fun z2 => k28 ?_, fun z2 => ⟨fun q => absurd q (by decide), fun _ => k39 3 (Or.inr rfl) ?_⟩⟩))
      · unfold zksm; rw [if_neg (fun q => by rw [zB_0.mp z2] at q; exact absurd q.2.2 (by decide))]
      · unfold zksm; rw [if_pos ⟨e, zBt z, zBt z2⟩]
theorem zc90 (hs : zStk h L b) (hl : L.length < 1000) (hc : c < 256) (h68 : 68 ≤ c) (h76 : c ≤ 76) (g : ∀ h' a, zEx h h' 8 40 → zSto h' (if c = 76 then none else some (zkaf c L)) a → Q (.inl (some (.ref a))) h') : zG xs (d + 3) (90, 0, lv_args 0 [zo (some ck), .int (nI c), zo (some b)], []) h Q := by
  refine zm_90 ⟨fun z => ?_, fun z => ?_, fun z => ?_, fun z => ?_⟩
  · obtain rfl : c = 68 := zcc hc (by decide) z
    exact zdrp 2 hs (by decide) (fun a sa => zty0 (d := d + 1) 2 (by decide) (fun h1 t e1 t1 => zpsh (d := d + 1) (zStk_ex sa e1) t1 (fun h2 a2 e2 s2 => g h2 a2 (zEx_le (zEx_trans e1 e2) (by decide) (by decide)) s2)))
  · obtain rfl : c = 75 := zcc hc (by decide) z
    exact zdrp 1 hs (by decide) (fun a sa => g h a (zEx_le (zEx_refl h) (by decide) (by decide)) sa)
  · obtain rfl : c = 76 := zcc hc (by decide) z
    exact ⟨d + 2, rfl, zc91 (fun h1 a e1 s1 => zKR_v (g h1 a (zEx_le e1 (by decide) (by decide)) s1))⟩
  · have n68 : c ≠ 68 := zcx (k := 68) z.1
    have n75 : c ≠ 75 := zcx (k := 75) z.2.1
    have n76 : c ≠ 76 := zcx (k := 76) z.2.2
    have hz : zkaf c L = .arg 1 :: L.drop 1 := by
      unfold zkaf
      rw [if_neg (by omega), if_neg (by omega), if_neg (by omega), if_neg (by omega), if_neg (by omega), if_neg (by omega), if_neg (by omega), if_neg (by omega), if_neg (by omega), if_neg (by omega), if_neg (by omega), if_neg (by omega), if_neg (by omega), if_neg (by omega), if_neg (by omega), if_neg (by omega), if_neg (by omega), if_pos (by omega)]
    rw [if_neg n76, hz] at g
    exact zdrp 1 hs (by decide) (fun a sa => zty0 (d := d + 1) 1 (by decide) (fun h1 t e1 t1 => zpsh (d := d + 1) (zStk_ex sa e1) t1 (fun h2 a2 e2 s2 => g h2 a2 (zEx_le (zEx_trans e1 e2) (by decide) (by decide)) s2)))
theorem zc89 (hs : zStk h L b) (hl : L.length < 1000) (hd : ∀ i, ztdep (zkat L i) ≤ 9) (hc : c < 256) (h68 : c < 68) (h6 : ¬ (60 ≤ c ∧ c ≤ 63)) (g : ∀ h' a, zEx h h' 8 40 → zStk h' (zkaf c L) a → Q (.inl (some (.ref a))) h') : zG xs (d + 3) (89, 0, lv_args 0 [zo (some ck), .int (nI c), zo (some b)], []) h Q := by
  refine zm_89 (zdrp 1 hs (by decide) (fun rb sR0 => zatt (d := d + 1) 0 hs hl (by decide) (fun h1 t e1 t1 => ?_)))
  have sL := zStk_ex hs e1
  have sR := zStk_ex sR0 e1
  refine ⟨fun z => ?_, fun z => ?_, fun z => ?_, fun z => ?_, fun z => ?_, fun z => ?_, fun z => ?_, fun z => ?_, fun z => ?_, fun z => ?_, fun z => ?_, fun z => ?_, fun z => ?_, fun z => ?_, fun z => ?_⟩
  · obtain rfl : c = 31 := zcc hc (by decide) z
    exact zpsh (d := d + 1) (sL) t1 (fun h9 a9 e9 s9 => g h9 a9 (zEx_le (zEx_trans e1 e9) (by decide) (by decide)) s9)
  · obtain rfl : c = 32 := zcc hc (by decide) z
    exact zdrp 2 sL (by decide) (fun b2 sb2 => zpsh (d := d + 1) sb2 t1 (fun h3 a3 e3 s3 => zatt (d := d + 1) 1 (zStk_ex sL e3) hl (by decide) (fun h4 t4 e4 tt4 => zpsh (d := d + 1) (zStk_ex s3 e4) tt4 (fun h5 a5 e5 s5 => g h5 a5 (zEx_le (zEx_trans (zEx_trans (zEx_trans e1 e3) e4) e5) (by decide) (by decide)) s5))))
  · obtain rfl : c = 35 := zcc hc (by decide) z
    exact zty0 (d := d + 1) 0 (by decide) (fun h3 t3 e3 tt3 => zpsh (d := d + 1) (zStk_ex sL e3) tt3 (fun h4 a4 e4 s4 => g h4 a4 (zEx_le (zEx_trans (zEx_trans e1 e3) e4) (by decide) (by decide)) s4))
  · obtain rfl : c = 36 := zcc hc (by decide) z
    exact zdrp 2 sL (by decide) (fun b2 sb2 => zatt (d := d + 1) 1 sL hl (by decide) (fun h3 t3 e3 tt3 => zty5 (d := d + 1) (zTyp_ex t1 e3) tt3 (by have := hd 0; omega) (by have := hd 1; omega) (fun h4 t4 e4 tt4 => zpsh (d := d + 1) (zStk_ex (zStk_ex sb2 e3) e4) tt4 (fun h5 a5 e5 s5 => g h5 a5 (zEx_le (zEx_trans (zEx_trans (zEx_trans e1 e3) e4) e5) (by decide) (by decide)) s5))))
  · obtain rfl : c = 37 := zcc hc (by decide) z
    exact ztpa (d := d + 2) t1 (fun u tu => zpsh (d := d + 1) sR tu (fun h4 a4 e4 s4 => g h4 a4 (zEx_le (zEx_trans e1 e4) (by decide) (by decide)) s4))
  · obtain rfl : c = 38 := zcc hc (by decide) z
    exact ztpb (d := d + 2) t1 (fun u tu => zpsh (d := d + 1) sR tu (fun h4 a4 e4 s4 => g h4 a4 (zEx_le (zEx_trans e1 e4) (by decide) (by decide)) s4))
  · obtain rfl : c = 39 := zcc hc (by decide) z
    exact zty1 (d := d + 1) 6 t1 (Or.inl rfl) (by have := hd 0; omega) (fun h3 t3 e3 tt3 => zpsh (d := d + 1) (zStk_ex sR e3) tt3 (fun h4 a4 e4 s4 => g h4 a4 (zEx_le (zEx_trans (zEx_trans e1 e3) e4) (by decide) (by decide)) s4))
  · rcases z with z | z
    · obtain rfl : c = 48 := zcc hc (by decide) z
      exact zty0 (d := d + 1) 3 (by decide) (fun h3 t3 e3 tt3 => zpsh (d := d + 1) (zStk_ex sR e3) tt3 (fun h4 a4 e4 s4 => g h4 a4 (zEx_le (zEx_trans (zEx_trans e1 e3) e4) (by decide) (by decide)) s4))
    · obtain rfl : c = 65 := zcc hc (by decide) z
      exact zty0 (d := d + 1) 3 (by decide) (fun h3 t3 e3 tt3 => zpsh (d := d + 1) (zStk_ex sR e3) tt3 (fun h4 a4 e4 s4 => g h4 a4 (zEx_le (zEx_trans (zEx_trans e1 e3) e4) (by decide) (by decide)) s4))
  · obtain rfl : c = 52 := zcc hc (by decide) z
    exact zdrp 2 sL (by decide) (fun b2 sb2 => zatt (d := d + 1) 1 sL hl (by decide) (fun h3 t3 e3 tt3 => ztpb (d := d + 2) tt3 (fun u tu => zty1 (d := d + 1) 6 tu (Or.inl rfl) (by have := hd 1; have := zt2_dep (T := zkat L 1); omega) (fun h4 t4 e4 tt4 => zpsh (d := d + 1) (zStk_ex (zStk_ex sb2 e3) e4) tt4 (fun h5 a5 e5 s5 => g h5 a5 (zEx_le (zEx_trans (zEx_trans (zEx_trans e1 e3) e4) e5) (by decide) (by decide)) s5)))))
  · obtain rfl : c = 53 := zcc hc (by decide) z
    exact zdrp 2 sL (by decide) (fun b2 sb2 => g h1 b2 (zEx_le e1 (by decide) (by decide)) sb2)
  · obtain rfl : c = 54 := zcc hc (by decide) z
    exact zdrp 2 sL (by decide) (fun b2 sb2 => zty0 (d := d + 1) 1 (by decide) (fun h3 t3 e3 tt3 => zpsh (d := d + 1) (zStk_ex sb2 e3) tt3 (fun h4 a4 e4 s4 => g h4 a4 (zEx_le (zEx_trans (zEx_trans e1 e3) e4) (by decide) (by decide)) s4)))
  · obtain rfl : c = 57 := zcc hc (by decide) z
    exact g h1 b (zEx_le e1 (by decide) (by decide)) sL
  · rcases z with z | z
    · obtain rfl : c = 64 := zcc hc (by decide) z
      exact zty0 (d := d + 1) 2 (by decide) (fun h3 t3 e3 tt3 => zpsh (d := d + 1) (zStk_ex sR e3) tt3 (fun h4 a4 e4 s4 => g h4 a4 (zEx_le (zEx_trans (zEx_trans e1 e3) e4) (by decide) (by decide)) s4))
    · obtain rfl : c = 67 := zcc hc (by decide) z
      exact zty0 (d := d + 1) 2 (by decide) (fun h3 t3 e3 tt3 => zpsh (d := d + 1) (zStk_ex sR e3) tt3 (fun h4 a4 e4 s4 => g h4 a4 (zEx_le (zEx_trans (zEx_trans e1 e3) e4) (by decide) (by decide)) s4))
  · obtain rfl : c = 66 := zcc hc (by decide) z
    exact zty0 (d := d + 1) 3 (by decide) (fun h3 t3 e3 tt3 => zty1 (d := d + 1) 6 tt3 (Or.inl rfl) (show 1 < 1000 by decide) (fun h4 t4 e4 tt4 => zpsh (d := d + 1) (zStk_ex (zStk_ex sR e3) e4) tt4 (fun h5 a5 e5 s5 => g h5 a5 (zEx_le (zEx_trans (zEx_trans (zEx_trans e1 e3) e4) e5) (by decide) (by decide)) s5)))
  · have n31 : c ≠ 31 := zcx (k := 31) z.1
    have n32 : c ≠ 32 := zcx (k := 32) z.2.1
    have n35 : c ≠ 35 := zcx (k := 35) z.2.2.1
    have n36 : c ≠ 36 := zcx (k := 36) z.2.2.2.1
    have n37 : c ≠ 37 := zcx (k := 37) z.2.2.2.2.1
    have n38 : c ≠ 38 := zcx (k := 38) z.2.2.2.2.2.1
    have n39 : c ≠ 39 := zcx (k := 39) z.2.2.2.2.2.2.1
    have n48 : c ≠ 48 := zcx (k := 48) (fun w => z.2.2.2.2.2.2.2.1 (Or.inl w))
    have n65 : c ≠ 65 := zcx (k := 65) (fun w => z.2.2.2.2.2.2.2.1 (Or.inr (w)))
    have n52 : c ≠ 52 := zcx (k := 52) z.2.2.2.2.2.2.2.2.1
    have n53 : c ≠ 53 := zcx (k := 53) z.2.2.2.2.2.2.2.2.2.1
    have n54 : c ≠ 54 := zcx (k := 54) z.2.2.2.2.2.2.2.2.2.2.1
    have n57 : c ≠ 57 := zcx (k := 57) z.2.2.2.2.2.2.2.2.2.2.2.1
    have n64 : c ≠ 64 := zcx (k := 64) (fun w => z.2.2.2.2.2.2.2.2.2.2.2.2.1 (Or.inl w))
    have n67 : c ≠ 67 := zcx (k := 67) (fun w => z.2.2.2.2.2.2.2.2.2.2.2.2.1 (Or.inr (w)))
    have n66 : c ≠ 66 := zcx (k := 66) z.2.2.2.2.2.2.2.2.2.2.2.2.2
    have hz : zkaf c L = L.drop 1 := by
      unfold zkaf
      rw [if_neg (by omega), if_neg (by omega), if_neg (by omega), if_neg (by omega), if_neg (by omega), if_neg (by omega), if_neg (by omega), if_neg (by omega), if_neg (by omega), if_neg (by omega), if_neg (by omega), if_neg (by omega), if_neg (by omega), if_neg (by omega), if_neg (by omega), if_neg (by omega), if_neg (by omega), if_neg (by omega)]
    rw [hz] at g
    exact g h1 rb (zEx_le e1 (by decide) (by decide)) sR
end STK3
/-! the class's checker: instructions that tell types; steps -/
section STK4
variable {xs : List Value} {d : Nat} {h : zH} {Q : zO → zH → Prop} {a b c i j t u ck f D : Nat} {L : List Term} {T U : Term} {N : List zNt} {e : zNt} {w : Int32}
theorem ztdep_1 (T : Term) : 1 ≤ ztdep T := by unfold ztdep; split <;> omega
def zblt : zE := .inr (7, [.int 0, .null, .null, .int 0, .int 0])
theorem zblt_n {T : Term} {p q : Value} {x y : Int32} (hd : ztdep T < 1000) : (.inr (7, [.int x, p, q, .int (nI (ztdep T)), .int y]) : zE) ≠ zblt := by
  intro z
  injection z with z
  injection z with _ z
  injection z with _ z
  injection z with _ z
  injection z with _ z
  injection z with z _
  injection z with z
  have := (nI_eq (a := ztdep T) (b := 0) (by omega) (by decide)).mp z
  have := ztdep_1 T
  omega
/-- a type that is not ready yet is part of none -/
theorem zTyp_f2 {h h' : zH} (H : ∀ k fs, zown h k = some (.inr (7, fs)) → (.inr (7, fs) : zE) ≠ zblt → zown h' k = some (.inr (7, fs))) : ∀ (T : Term) (a : Nat), ztdep T < 1000 → zTyp h T a → zTyp h' T a := by
  intro T a
  induction T, a using zTyp.induct with
  | case1 c a => rintro hd ⟨h1, h2⟩; exact ⟨H _ _ h1 (zblt_n (T := .arg c) hd), h2⟩
  | case2 c t a ih => rintro hd ⟨⟨b, h1, h2⟩, h3⟩; exact ⟨⟨b, H _ _ h1 (zblt_n (T := .div (.arg c) t) hd), ih b (by have : 1 + ztdep t < 1000 := hd; omega) h2⟩, h3⟩
  | case3 c t u a ih1 ih2 => rintro hd ⟨⟨b, e, h1, h2, h4⟩, h3⟩; exact ⟨⟨b, e, H _ _ h1 (zblt_n (T := .add (.div (.arg c) t) u) hd), ih1 b (by have : 1 + max (ztdep t) (ztdep u) < 1000 := hd; omega) h2, ih2 e (by have : 1 + max (ztdep t) (ztdep u) < 1000 := hd; omega) h4⟩, h3⟩
  | case4 t x1 x2 x3 x4 =>
    intro _ hh
    unfold zTyp at hh
    split at hh
    · exact absurd rfl (x2 _)
    · exact absurd rfl (x3 _ _)
    · exact absurd rfl (x4 _ _ _)
    · exact hh.elim
theorem zTyp_pt {k : Nat} {e : zE} (hk : zown h k = some zblt) (hd : ztdep T < 1000) (ht : zTyp h T a) : zTyp (zput h k e) T a := zTyp_f2 (fun k' fs q hq => by
  rw [zown_ne hk (fun z => ?_)]
  · exact q
  · subst z; rw [hk] at q; exact hq (Option.some.inj q).symm) T a hd ht
theorem zStk_pt {k : Nat} {e : zE} (hk : zown h k = some zblt) : ∀ (L : List Term) (b : Nat), (∀ T, T ∈ L → ztdep T < 1000) → zStk h L b → zStk (zput h k e) L b
  | [], b, _, hs => by
    have hs : zown h b = some (.inr (8, [.int 0, .null, .null])) := hs
    show zown _ b = _
    rw [zown_ne hk (fun z => by rw [z, hk] at hs; cases hs)]; exact hs
  | T :: L, b, hd, ⟨t, b', h1, h2, h3⟩ => ⟨t, b', by rw [zown_ne hk (fun z => by rw [z, hk] at h1; cases h1)]; exact h1, zTyp_pt hk (hd T List.mem_cons_self) h2, zStk_pt hk L b' (fun T hT => hd T (List.mem_cons_of_mem _ hT)) h3⟩
/-- a type of two parts, made ahead of its parts -/
theorem zc50m {k c : Nat} {K : zH → Prop} (hk : zown h k = some zblt) (hc : c = 7 ∨ c = 9) (ht : zTyp h T b) (hU : zTyp h U u) (h1 : ztdep T < 900) (h2 : ztdep U < 900) (g : ∀ h', (∃ e, h' = zput h k e) → zTyp h' (.add (.div (.arg c) T) U) k → K h') : zCN xs (d + 1) 50 (some k) [.int (nI c), zo (some b), zo (some u)] h K := by
  have hk' : zown h k = some (.inr (7, [.int 0, .null, .null, .int 0, .int 0])) := hk
  refine ⟨_, rfl, by rw [hk']; rfl, d, rfl, zm_50 ⟨_, rfl, ?_⟩⟩
  refine zX_pf hk' (show 0 < 5 by decide) ?_
  refine zX_pf (zown_put hk') (show 1 < 5 by decide) ?_
  rw [zput_put]
  refine zX_pf (zown_put hk') (show 2 < 5 by decide) ?_
  rw [zput_put]
  obtain ⟨tk, p, q, ho, _⟩ := zTyp_at T b ht
  obtain ⟨uk, p', q', hu', _⟩ := zTyp_at U u hU
  have hb : b ≠ k := fun z => by rw [z, hk] at ho; exact zblt_n (T := T) (by omega) (Option.some.inj ho).symm
  have hu : u ≠ k := fun z => by rw [z, hk] at hu'; exact zblt_n (T := U) (by omega) (Option.some.inj hu').symm
  refine ⟨fun z => (by cases z), fun _ => zX_gi ((zown_ne hk hb).trans ho) rfl ⟨fun z => (by cases z), fun _ => zX_gi ((zown_ne hk hu).trans hu') rfl ?_⟩⟩
  refine zX_pf (zown_put hk') (show 3 < 5 by decide) ?_
  rw [zput_put]
  refine ⟨fun z => absurd ((nI_ltI (a := c) (b := 1) (by omega) (by decide)).mp z) (by omega), fun _ => ⟨fun _ => ⟨fun z => absurd ((nI_eq (a := c) (b := 5) (by omega) (by decide)).mp z) (by omega), fun _ => ⟨Or.inl rfl, zX_pf (zown_put hk') (show 4 < 5 by decide) ?_⟩⟩, fun z => absurd (nI_lt (a := 4) (b := c) (by omega) (by omega)) z⟩⟩
  rw [zput_put]
  refine g _ ⟨_, rfl⟩ ⟨⟨b, u, ?_, zTyp_pt hk (by omega) ht, zTyp_pt hk (by omega) hU⟩, by omega⟩
  rw [zown_put hk']
  show (some (.inr (7, [.int (nI c), .ref b, .ref u, .int (1 + (if nI (ztdep T) < nI (ztdep U) then nI (ztdep U) else nI (ztdep T))), .int 0])) : Option zE) = _
  rw [zmax1 (by omega) (by omega)]
  have : ztsim (.add (.div (.arg c) T) U) = false := by
    show (c == 5 && ztsim T && ztsim U) = false
    rw [beq_false_of_ne (by omega)]; rfl
  rw [this]
  rfl
theorem zkI_ok (h : zkI e = true) : eS e = 3 ∧ 30 ≤ eC e ∧ eC e ≤ 76 ∧ eM e = zkip (eC e) := by
  unfold zkI at h
  simp at h
  exact ⟨h.1.1.1, h.1.1.2, h.1.2, h.2⟩
theorem zoi_m (x : Option Nat) (hx : ∀ y, x = some y → y < 2000) : zoi x = -1 ↔ x = none := by
  cases x with
  | none => exact ⟨fun _ => rfl, fun _ => rfl⟩
  | some y =>
    have := hx y rfl
    refine ⟨fun z => absurd (show nI y < 0 by rw [show nI y = -1 from z]; decide) (nI_pos (by omega)), fun z => by cases z⟩
theorem zc49 {k : Bool} {x : Int32} (hd : 8 ≤ d) (hk : zCk h ck) (hb : zB4 h w) (g1 : k = true → Q (.inl none) h) (g0 : k = false → ∀ h', zCe [4] h h' 1 6 → zB4 h' x → Q (.inr 2) h') : zG xs d (49, 0, lv_args 0 [zo (some ck), .int (zB k), .int x], []) h Q := by
  cases k with
  | true => exact zc49t (g1 rfl)
  | false => exact zc49f hd hk hb (g0 rfl)
theorem zc75 (hg : zGd N) (hn : zNd h N (f + 1) j a) (hf : f ≤ 90) (he : N[j]? = some e) (hI : zkI e = true) (hc : eC e = 34 ∨ eC e = 40 ∨ eC e = 42 ∨ eC e = 43 ∨ eC e = 45 ∨ eC e = 51) (hrd : zkrd (eC e) L i = true) (hs : zStk h L b) (hl : L.length < 1000) (hd : ∀ i, ztdep (zkat L i) ≤ 9) (hck : zCk h ck) (hb4 : zB4 h w) (hD : 26 + 2 * f ≤ D)
    (k0 : ∀ p, zkty N j (eC e) L = .inl p → ∀ h', zCe [4] h h' (znx N j - j + 10) (5 * (znx N j - j) + 60) → zB4 h' (nI p) → Q (.inr 2) h')
    (k1 : ∀ l, zkty N j (eC e) L = .inr l → ∀ h' a', zEx h h' (znx N j - j + 10) (5 * (znx N j - j) + 60) → zStk h' l a' → Q (.inl (some (.ref a'))) h') : zG xs D (75, 0, lv_args 0 [zo (some ck), zo (some a), zo (some b)], []) h Q := by
  obtain ⟨i1, i2, i3, i4⟩ := zkI_ok hI
  obtain ⟨n1, n2, n3, n4, _⟩ := hg.1.2 j e he
  obtain ⟨d, rfl⟩ : ∃ d, D = d + 3 := ⟨D - 3, by omega⟩
  obtain ⟨fs, ho⟩ := zNd_own hn
  obtain ⟨cx, cy, hcko⟩ := hck
  have hck : zCk h ck := ⟨cx, cy, hcko⟩
  have hm : 0 < eM e := by rw [i4]; rcases hc with q | q | q | q | q | q <;> rw [q] <;> decide
  have hkk := zGd_k hg he
  have hc1 := zchn_lt _ _ _ (j + 1) hkk (List.mem_of_getElem? (zchn_kid (N := N) (i := j) (k := 0) hm (by decide)))
  have hl1 := zful_lt hc1.2.2.1
  refine zm_75 (zX_cv ho (zc46k (k := 0) hn he hm (by decide) (by omega) (fun p hp => zKR_v (zX_cv hcko (zc47 hg.1 f (j + 1) p 0 (d + 2) h _ w hp (by omega) (by decide) hck hb4 (fun x hx h' c1 b1 => ?_) (fun T hT h1 t e1 t1 => zKR_v ?_))))))
  · refine k0 x ?_ h' (zCe_le c1 (by omega) (by omega)) b1
    unfold zkty
    rw [hx]
  have tok := zTy_ok hg.1.1 N.length (j + 1) 0 T (by omega) hT
  have tts := zTy_ts hg.1.1 N.length (j + 1) 0 T (by omega) hT
  have hn1 := zNd_ex hn e1
  have s1 := zStk_ex hs e1
  have hck1 := zCk_ex hck e1
  have hb1 := zB4_ex hb4 e1
  have e1' : zEx h h1 (znx N j - j) (5 * (znx N j - j)) := zEx_le e1 (by omega) (by omega)
  have kt : zkty N j (eC e) L = (if eC e = 34 then (match zMi N (znx N (j + 1)) false T with
        | some p => .inl p
        | none => .inr (T :: L))
    else if eC e = 40 then .inr (.div (.arg 6) T :: L)
    else if eC e = 42 then .inr (.add (.div (.arg 7) (zkat L 0)) T :: L.drop 1)
    else if eC e = 43 then .inr (.add (.div (.arg 7) T) (zkat L 0) :: L.drop 1)
    else if eC e = 45 then .inr (.div (.arg 8) T :: L)
    else if ztsim T = true then (match zTy N (znx N (j + 1)) 0 with
        | .inl p => .inl p
        | .inr U => .inr (.add (.div (.arg 9) T) U :: L))
      else .inl (zFp N (j + 1))) := by unfold zkty; rw [hT]; first | done | rfl
  refine zNd_gC hn1 he ?_
  rw [if_pos i1]
  refine ⟨fun z => ?_, fun z => ?_, fun z => ?_, fun z => ?_, fun z => ?_, fun z => ?_⟩
  · have z : eC e = 34 := zcc n2 (by decide) z
    rw [if_pos z] at kt
    have hm2 : 1 < eM e := by rw [i4, z]; decide
    obtain ⟨fs1, ho1⟩ := zNd_own hn1
    refine zX_cv ho1 (zc46k (k := 1) hn1 he hm2 (by decide) (by omega) (fun p2 hp2 => zKR_v ?_))
    obtain ⟨fs2, to⟩ := zTyp_own t1
    refine zX_cv to (zc76 hg f (by omega) _ p2 t (d + 2) T h1 _ (by omega) hp2 t1 tts (zKI_v ?_))
    have hzk : zkid N j 1 = znx N (j + 1) := rfl
    rw [hzk]
    have hbd : ∀ y, zMi N (znx N (j + 1)) false T = some y → y < 2000 := fun y hy => zMi_lt hg.1 N.length _ _ _ y (by have := znx_ge (N := N) (i := j + 1); omega) hy
    obtain ⟨cx1, cy1, hcko1⟩ := hck1
    refine ⟨fun q => ?_, fun q => ?_⟩
    · have hmn := (zoi_m _ hbd).mp q
      rw [hmn] at kt
      refine zX_cv hcko1 (zc49t (zKV_v (zpsh (d := d + 1) s1 t1 (fun h2 a2 e2 s2 => ?_))))
      exact k1 _ kt h2 a2 (zEx_le (zEx_trans e1' e2) (by omega) (by omega)) s2
    · cases hmi : zMi N (znx N (j + 1)) false T with
      | none => exact absurd ((zoi_m _ hbd).mpr hmi) q
      | some y =>
        rw [hmi] at kt
        refine zX_cv hcko1 (zc49f (by omega) ⟨cx1, cy1, hcko1⟩ hb1 (fun h2 c2 b2 => k0 y kt h2 ?_ b2))
        exact zCe_le (zCe_trans (U := [4]) (zCe_ex (S := []) e1') c2 (by simp) (fun k hk => Or.inl hk)) (by omega) (by omega)
  · have z : eC e = 40 := zcc n2 (by decide) z
    rw [if_neg (by omega), if_pos z] at kt
    exact zty1 (d := d + 1) 6 t1 (Or.inl rfl) (by omega) (fun h2 t2 e2 tt2 => zpsh (d := d + 1) (zStk_ex s1 e2) tt2 (fun h3 a3 e3 s3 => k1 _ kt h3 a3 (zEx_le (zEx_trans (zEx_trans e1' e2) e3) (by omega) (by omega)) s3))
  · have z : eC e = 42 := zcc n2 (by decide) z
    rw [if_neg (by omega), if_neg (by omega), if_pos z] at kt
    rw [z] at hrd
    have h0 : 0 < L.length := of_decide_eq_true hrd
    refine zdrp 1 s1 (by decide) (fun rb sR => zNO_i ?_)
    have sA := zStk_ex s1 (zEx_add (e := .inr (7, [.int 0, .null, .null, .int 0, .int 0])) (n := 5))
    obtain ⟨p1, q1, hoA⟩ := zStk_at sA
    refine zX_cv hoA (zc61p (d := d + 1) (i := 0) sA h0 hl (fun u tu => zKR_v ?_))
    have h42 := hd 0
    have tA := zTyp_ex t1 (zEx_add (e := .inr (7, [.int 0, .null, .null, .int 0, .int 0])) (n := 5))
    refine zc50m (c := 7) (d := d + 2) zown_new (Or.inl rfl) tu tA (by omega) (by omega) (fun h2 hz t2 => ?_)
    obtain ⟨eo, rfl⟩ := hz
    rw [zput_new] at t2 ⊢
    refine zpsh (d := d + 1) (zStk_ex sR zEx_add) t2 (fun h3 a3 e3 s3 => k1 _ kt h3 a3 (zEx_le (zEx_trans (zEx_trans e1' (zEx_add (n := 5))) e3) (by omega) (by omega)) s3)
  · have z : eC e = 43 := zcc n2 (by decide) z
    rw [if_neg (by omega), if_neg (by omega), if_neg (by omega), if_pos z] at kt
    rw [z] at hrd
    have h0 : 0 < L.length := of_decide_eq_true hrd
    refine zdrp 1 s1 (by decide) (fun rb sR => zNO_i ?_)
    have sA := zStk_ex s1 (zEx_add (e := .inr (7, [.int 0, .null, .null, .int 0, .int 0])) (n := 5))
    obtain ⟨p1, q1, hoA⟩ := zStk_at sA
    refine zX_cv hoA (zc61p (d := d + 1) (i := 0) sA h0 hl (fun u tu => zKR_v ?_))
    have h42 := hd 0
    have tA := zTyp_ex t1 (zEx_add (e := .inr (7, [.int 0, .null, .null, .int 0, .int 0])) (n := 5))
    refine zc50m (c := 7) (d := d + 2) zown_new (Or.inl rfl) tA tu (by omega) (by omega) (fun h2 hz t2 => ?_)
    obtain ⟨eo, rfl⟩ := hz
    rw [zput_new] at t2 ⊢
    refine zpsh (d := d + 1) (zStk_ex sR zEx_add) t2 (fun h3 a3 e3 s3 => k1 _ kt h3 a3 (zEx_le (zEx_trans (zEx_trans e1' (zEx_add (n := 5))) e3) (by omega) (by omega)) s3)
  · have z : eC e = 45 := zcc n2 (by decide) z
    rw [if_neg (by omega), if_neg (by omega), if_neg (by omega), if_neg (by omega), if_pos z] at kt
    exact zty1 (d := d + 1) 8 t1 (Or.inr rfl) (by omega) (fun h2 t2 e2 tt2 => zpsh (d := d + 1) (zStk_ex s1 e2) tt2 (fun h3 a3 e3 s3 => k1 _ kt h3 a3 (zEx_le (zEx_trans (zEx_trans e1' e2) e3) (by omega) (by omega)) s3))
  · have n34 : eC e ≠ 34 := zcx (k := 34) z.1
    have n40 : eC e ≠ 40 := zcx (k := 40) z.2.1
    have n42 : eC e ≠ 42 := zcx (k := 42) z.2.2.1
    have n43 : eC e ≠ 43 := zcx (k := 43) z.2.2.2.1
    have n45 : eC e ≠ 45 := zcx (k := 45) z.2.2.2.2
    have z : eC e = 51 := by omega
    rw [if_neg (by omega), if_neg (by omega), if_neg (by omega), if_neg (by omega), if_neg (by omega)] at kt
    have hm2 : 1 < eM e := by rw [i4, z]; decide
    obtain ⟨fs1, ho1⟩ := zNd_own hn1
    obtain ⟨cx1, cy1, hcko1⟩ := hck1
    refine zTyp_gs t1 (zX_cv ho1 (zc46k (k := 0) hn1 he hm (by decide) (by omega) (fun p2 hp2 => zKR_v (zNd_gF hp2 (zX_cv hcko1 (zc49 (by omega) ⟨cx1, cy1, hcko1⟩ hb1 (fun hk => zKV_v ?_) (fun hk h2 c2 b2 => ?_)))))))
    · rw [if_pos hk] at kt
      refine zNO_i ?_
      have eA : zEx h1 (zadd h1 zblt 5) 1 5 := zEx_add
      have hnA := zNd_ex hn1 eA
      obtain ⟨fsA, hoA⟩ := zNd_own hnA
      refine zX_cv hoA (zc46k (k := 1) hnA he hm2 (by decide) (by omega) (fun p3 hp3 => zKR_v ?_))
      have hzk : zkid N j 1 = znx N (j + 1) := rfl
      rw [hzk] at hp3
      have hc2 := zchn_lt _ _ _ (znx N (j + 1)) hkk (List.mem_of_getElem? (zchn_kid (N := N) (i := j) (k := 1) hm2 (by decide)))
      have hl2 := zful_lt hc2.2.2.1
      have hckA : zCk (zadd h1 zblt 5) ck := zCk_ex ⟨cx1, cy1, hcko1⟩ eA
      obtain ⟨cxA, cyA, hckoA⟩ := hckA
      refine zX_cv hckoA (zc47 hg.1 f (znx N (j + 1)) p3 0 (d + 2) _ _ w hp3 (by omega) (by decide) ⟨cxA, cyA, hckoA⟩ (zB4_ex hb1 eA) (fun x hx h' c1 b1 => ?_) (fun U hU h2 t2 e2 tt2 => zKR_v ?_))
      · rw [hx] at kt
        refine k0 x kt h' ?_ b1
        exact zCe_le (zCe_trans (U := [4]) (zCe_ex (S := []) (zEx_trans e1 eA)) c1 (by simp) (fun k hk => Or.inl hk)) (by omega) (by omega)
      · rw [hU] at kt
        have uok := zTy_ok hg.1.1 N.length (znx N (j + 1)) 0 U (by omega) hU
        have hbl : zown h2 (h1.1.length + zK0) = some zblt := e2.1 _ _ zown_new
        refine zc50m (c := 9) (d := d + 2) hbl (Or.inr rfl) (zTyp_ex (zTyp_ex t1 eA) e2) tt2 (by omega) (by omega) (fun h3 hz t3 => ?_)
        obtain ⟨eo, rfl⟩ := hz
        have sP := zStk_pt (e := eo) hbl L b (fun T hT => ?_) (zStk_ex (zStk_ex s1 eA) e2)
        · refine zpsh (d := d + 1) sP t3 (fun h4 a4 e4 s4 => k1 _ kt h4 a4 ?_ s4)
          have eP : zEx h (zput h2 (h1.1.length + zK0) eo) _ _ := zEx_put (zEx_trans (zEx_trans e1 eA) e2) hbl (by have := e1.2.1; omega)
          exact zEx_le (zEx_trans eP e4) (by omega) (by omega)
        · obtain ⟨m, hm, rfl⟩ := List.getElem_of_mem hT
          have := hd m
          rw [zkat_lt hm] at this
          omega
    · have hk : ztsim T = false := hk
      rw [hk, if_neg (by decide)] at kt
      have : zkid N j 0 = j + 1 := rfl
      rw [this] at b2
      exact k0 _ kt h2 (zCe_le (zCe_trans (U := [4]) (zCe_ex (S := []) e1') c2 (by simp) (fun k hk => Or.inl hk)) (by omega) (by omega)) b2
end STK4
