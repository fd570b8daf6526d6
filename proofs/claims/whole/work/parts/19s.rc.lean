/-! values in the reference's cells -/
/-- the kind of a word's cell -/
def zwc (x : Nat) : Nat := if x = 20 then 0 else if x = 21 then 1 else if x = 22 then 2 else 6
/-- a big's change that takes a key away -/
def zgo (v : Term) : Nat := match v with
  | .add (.div (.arg x) _) _ => if x = 29 then 1 else 0
  | _ => 0
def zRc (ce : List (Nat × Nat × Nat)) (lo : List (Nat × Nat)) : Term → Nat ⊕ (Nat × Nat) → Prop
  | .sub (.arg s) (.arg n), .inl c => zNm ce lo c (s == 1) n ∧ n < 2 ^ 120 ∧ (s = 0 ∨ (s = 1 ∧ n ≠ 0))
  | .mul (.arg k) (.arg w), .inl c => (∃ j, ce[c]? = some (4, j, k) ∧ lo[j]? = some (0, w)) ∧ zTxo k w
  | .arg x, .inl c => ∃ a b, ce[c]? = some (zwc x, a, b)
  | .div (.arg x) v, .inl c => ∃ j b, ce[c]? = some (x - 18, j, b) ∧ zRc ce lo v (.inl j)
  | .add (.div (.arg _) v) w, .inl c => ∃ j k, ce[c]? = some (5, j, k) ∧ zRc ce lo v (.inl j) ∧ zRc ce lo w (.inl k)
  | .old l, .inl c => zRc ce lo l (.inr (c, 10))
  | .length l, .inl c => zRc ce lo l (.inr (c, 12))
  | .sum l, .inl c => zRc ce lo l (.inr (c, 14))
  | .null, .inr (c, k) => ∃ a b, ce[c]? = some (k, a, b)
  | .rem v l, .inr (c, k) => ∃ hd bd, ce[c]? = some (k + 1 + zgo v, hd, bd) ∧ zRc ce lo v (.inl hd) ∧ zRc ce lo l (.inr (bd, k))
  | _, _ => False
theorem zget_app {α : Type} {l l' : List α} {i : Nat} {x : α} (h : l[i]? = some x) : (l ++ l')[i]? = some x := by rw [List.getElem?_append_left (List.getElem?_eq_some_iff.mp h).1]; exact h
theorem zRc_app {ce ce' : List (Nat × Nat × Nat)} {lo lo' : List (Nat × Nat)} : ∀ (V : Term) (x : Nat ⊕ (Nat × Nat)), zRc ce lo V x → zRc (ce ++ ce') (lo ++ lo') V x := by
  intro V x
  fun_induction zRc ce lo V x with
  | case1 s n c => exact fun h => ⟨zNm_app h.1, h.2⟩
  | case2 k w c => rintro ⟨⟨j, h1, h2⟩, h3⟩; exact ⟨⟨j, zget_app h1, zget_app h2⟩, h3⟩
  | case3 x c => rintro ⟨a, b, h1⟩; exact ⟨a, b, zget_app h1⟩
  | case4 x v c ih => rintro ⟨j, b, h1, h2⟩; exact ⟨j, b, zget_app h1, ih j h2⟩
  | case5 x v w c ih1 ih2 => rintro ⟨j, k, h1, h2, h3⟩; exact ⟨j, k, zget_app h1, ih1 j h2, ih2 k h3⟩
  | case6 l c ih => exact ih
  | case7 l c ih => exact ih
  | case8 l c ih => exact ih
  | case9 c k => rintro ⟨a, b, h1⟩; exact ⟨a, b, zget_app h1⟩
  | case10 v l c k ih1 ih2 => rintro ⟨hd, bd, h1, h2, h3⟩; exact ⟨hd, bd, zget_app h1, ih1 hd h2, ih2 bd h3⟩
  | case11 => exact fun h => h.elim
theorem zRc_lt {ce : List (Nat × Nat × Nat)} {lo : List (Nat × Nat)} : ∀ (V : Term) (x : Nat ⊕ (Nat × Nat)), zRc ce lo V x → ∀ c, (x = .inl c ∨ ∃ k, x = .inr (c, k)) → c < ce.length := by
  intro V x
  fun_induction zRc ce lo V x with
  | case1 s n c => rintro ⟨⟨j, h1, _⟩, _⟩ c' (h | ⟨k, h⟩) <;> cases h; exact (List.getElem?_eq_some_iff.mp h1).1
  | case2 k w c => rintro ⟨⟨j, h1, _⟩, _⟩ c' (h | ⟨k, h⟩) <;> cases h; exact (List.getElem?_eq_some_iff.mp h1).1
  | case3 x c => rintro ⟨a, b, h1⟩ c' (h | ⟨k, h⟩) <;> cases h; exact (List.getElem?_eq_some_iff.mp h1).1
  | case4 x v c ih => rintro ⟨j, b, h1, _⟩ c' (h | ⟨k, h⟩) <;> cases h; exact (List.getElem?_eq_some_iff.mp h1).1
  | case5 x v w c ih1 ih2 => rintro ⟨j, k, h1, _⟩ c' (h | ⟨k, h⟩) <;> cases h; exact (List.getElem?_eq_some_iff.mp h1).1
  | case6 l c ih => intro h c' hc; exact ih h c' (Or.inr ⟨10, by rcases hc with z | ⟨k, z⟩ <;> cases z; rfl⟩)
  | case7 l c ih => intro h c' hc; exact ih h c' (Or.inr ⟨12, by rcases hc with z | ⟨k, z⟩ <;> cases z; rfl⟩)
  | case8 l c ih => intro h c' hc; exact ih h c' (Or.inr ⟨14, by rcases hc with z | ⟨k, z⟩ <;> cases z; rfl⟩)
  | case9 c k => rintro ⟨a, b, h1⟩ c' (h | ⟨k, h⟩) <;> cases h; exact (List.getElem?_eq_some_iff.mp h1).1
  | case10 v l c k ih1 ih2 => rintro ⟨hd, bd, h1, _⟩ c' (h | ⟨k, h⟩) <;> cases h; exact (List.getElem?_eq_some_iff.mp h1).1
  | case11 => exact fun h => h.elim
/-- how many steps the order of two values takes -/
def zsz : Term → Nat
  | .add (.div (.arg _) a) b => 1 + zsz a + zsz b
  | _ => 1
theorem zsz_dep : ∀ V : Term, zsz V + 1 ≤ 2 ^ (zdep V + 1) := by
  intro V
  fun_induction zdep V with
  | case1 c a b ih1 ih2 =>
    have h1 : 2 ^ (zdep a + 1) ≤ 2 ^ (max (zdep a) (zdep b) + 1) := Nat.pow_le_pow_right (by decide) (by omega)
    have h2 : 2 ^ (zdep b + 1) ≤ 2 ^ (max (zdep a) (zdep b) + 1) := Nat.pow_le_pow_right (by decide) (by omega)
    rw [show 1 + max (zdep a) (zdep b) + 1 = (max (zdep a) (zdep b) + 1) + 1 by omega, Nat.pow_succ]
    show 1 + zsz a + zsz b + 1 ≤ _
    omega
  | case2 V hV =>
    have : zsz V = 1 := by
      unfold zsz
      split
      · rename_i a b; exact absurd rfl (hV _ _ _)
      · rfl
    rw [this]; decide
/-- what is to be compared still, the top first -/
def zlx : List (Term × Term) → Int32
  | [] => 0
  | (V, W) :: l => if zcmp V W = 0 then zlx l else zcmp V W
/-- the pile: the k-th from below is at most D - k deep -/
def zPl (ce : List (Nat × Nat × Nat)) (lo : List (Nat × Nat)) (A B : List Int32) (D : Nat) : List (Term × Term) → Prop
  | [] => True
  | (V, W) :: l => (∃ a b, A[l.length]? = some (nI a) ∧ B[l.length]? = some (nI b) ∧ zRc ce lo V (.inl a) ∧ zRc ce lo W (.inl b)) ∧ zSimp V W ∧ zdep V + l.length ≤ D ∧ zPl ce lo A B D l
def zsm : List (Term × Term) → Nat
  | [] => 0
  | (V, _) :: l => zsz V + zsm l
theorem zPl_set {ce : List (Nat × Nat × Nat)} {lo : List (Nat × Nat)} {A B A' B' : List Int32} {D : Nat} : ∀ (l : List (Term × Term)), zPl ce lo A B D l → (∀ j, j < l.length → A'[j]? = A[j]? ∧ B'[j]? = B[j]?) → zPl ce lo A' B' D l
  | [], _, _ => trivial
  | (V, W) :: l, h, hs => by
    obtain ⟨⟨a, b, h1, h2, h3⟩, h4, h5, h6⟩ := h
    have := hs l.length (by rw [List.length_cons]; omega)
    exact ⟨⟨a, b, by rw [this.1]; exact h1, by rw [this.2]; exact h2, h3⟩, h4, h5, zPl_set l h6 (fun j hj => hs j (by rw [List.length_cons]; omega))⟩
theorem zord_same (s : Bool) (n m : Nat) : zSg s * (if n < m then -1 else if m < n then 1 else 0) = zord s n s m := by
  have h0 : zord s n s m = if n = m then 0 else if decide (n < m) ≠ s then -1 else 1 := by unfold zord; exact if_neg (fun z => z rfl)
  rw [h0]
  by_cases h1 : n < m
  · rw [if_pos h1, if_neg (show ¬ n = m by omega), decide_eq_true h1]
    cases s <;> decide
  · rw [if_neg h1, decide_eq_false h1]
    by_cases h2 : m < n
    · rw [if_pos h2, if_neg (show ¬ n = m by omega)]
      cases s <;> decide
    · rw [if_neg h2, if_pos (show n = m by omega)]
      cases s <;> decide
theorem zbool_nI {a b : Bool} (h : nI a.toNat = nI b.toNat) : a = b := by
  cases a <;> cases b <;> first | rfl | exact absurd h (by decide)
section RC
variable {xs : List Value} {d : Nat} {h : zH} {M : Nat → zE} {F : Nat → Value} {Q : zO → zH → Prop} {ce : List (Nat × Nat × Nat)} {lo : List (Nat × Nat)}
theorem zc193t {w u : Nat} (hw : w < 2 ^ 63) (hu : u < 2 ^ 63) (q : Q (.inl (some (.int (if w < u then -1 else if u < w then 1 else 0)))) h) : zG xs d (193, 0, lv_args 0 [.long (lN 0), .long (lN w), .long (lN 0), .long (lN u)], []) h Q := by
  apply zm_193
  refine ⟨fun _ => ⟨fun z2 => ?_, fun z2 => ⟨fun z3 => ?_, fun z3 => ?_⟩⟩, fun z => absurd rfl z⟩
  · rw [pk_lLT hw hu] at z2; rw [if_pos z2] at q; exact q
  · rw [pk_lLT hw hu] at z2; rw [pk_lLT hu hw] at z3; rw [if_neg z2, if_pos z3] at q; exact q
  · rw [pk_lLT hw hu] at z2; rw [pk_lLT hu hw] at z3; rw [if_neg z2, if_neg z3] at q; exact q
/-- the order of simple values -/
theorem zc191 {V W : Term} {a b : Nat} {A B : List Int32} (hl : 50 ≤ h.1.length) (hp : zPo M F ce lo) (hs : zSimp V W) (hV : zRc ce lo V (.inl a)) (hW : zRc ce lo W (.inl b)) (hd : zdep V ≤ 7) (hA : M 35 = zAi A) (hB : M 36 = zAi B) (lA : A.length = 60) (lB : B.length = 60)
    (q : ∀ M' A' B', zPo M' F ce lo → zSm [35, 36] M M' → M' 35 = zAi A' → M' 36 = zAi B' → A'.length = 60 → B'.length = 60 → Q (.inl (some (.int (zcmp V W)))) (zov h M')) : zG xs (d + 1) (191, 0, lv_args 0 [zo (some 10), .int (nI a), .int (nI b)], []) (zov h M) Q := by
  have hsz : zsz V ≤ 255 := by
    have := zsz_dep V
    have h2 : 2 ^ (zdep V + 1) ≤ 2 ^ 8 := Nat.pow_le_pow_right (by decide) (by omega)
    omega
  have hce : ce.length ≤ 1400 := hp.2.2.2.2.1
  refine zm_191 (fun m l0 l3 l4 l5 h1 => ∃ (P : List (Term × Term)) (M1 : Nat → zE) (A1 B1 : List Int32) (tn : Nat), m = 300 - tn ∧ l0 = some 10 ∧ l3 = nI P.length ∧ l5 = nI tn ∧ h1 = zov h M1 ∧ zPo M1 F ce lo ∧ zSm [35, 36] M M1 ∧ M1 35 = zAi A1 ∧ M1 36 = zAi B1 ∧ A1.length = 60 ∧ B1.length = 60 ∧ zPl ce lo A1 B1 7 P ∧ P.length ≤ 8 ∧ tn + zsm P ≤ 255 ∧ zcmp V W = if l4 = 0 then zlx P else l4) ?_ ?_
  · rintro m l0 l3 l4 l5 h1 ⟨P, M1, A1, B1, tn, rfl, rfl, rfl, rfl, rfl, p1, sM, mA, mB, l1, l2, pl, h8, hsm, hz⟩
    have m10 := p1.1
    have hR := p1.2.1
    have fin : ∀ J, (l4 ≠ 0 ∨ P = []) → zw_191_331 xs (d + 1) Q J l4 (zov h M1) := by
      intro J hor
      have : zcmp V W = l4 := by
        by_cases h0 : l4 = 0
        · rcases hor with z | z
          · exact absurd h0 z
          · subst z; rw [hz, if_pos h0, h0]; rfl
        · rw [hz, if_neg h0]
      have qq := q M1 A1 B1 p1 sM mA mB l1 l2
      rw [this] at qq
      exact qq
    refine pk_lt tn 300 (fun ht => ?_) (fun ht => absurd ht (by omega))
    cases P with
    | nil => exact ⟨fun z => absurd z (by decide), fun _ => fin _ (Or.inr rfl)⟩
    | cons p P =>
      obtain ⟨V1, W1⟩ := p
      obtain ⟨⟨c, e, ac, be, rc, re⟩, hs1, hdp, pl2⟩ := pl
      have hlen : ((V1, W1) :: P).length = P.length + 1 := rfl
      have cl := zRc_lt _ _ rc c (Or.inl rfl)
      have el := zRc_lt _ _ re e (Or.inl rfl)
      have hPl : P.length ≤ 7 := by rw [hlen] at h8; omega
      refine ⟨fun hpos => ⟨fun h0 => ?_, fun h0 => fin _ (Or.inl h0)⟩, fun z => absurd (nI_lt (a := 0) (b := ((V1, W1) :: P).length) (by rw [hlen]; omega) (by rw [hlen]; omega)) z⟩
      clear hpos
      subst h0
      rw [if_pos rfl] at hz
      intro x3 hx3
      rw [hlen, pk_m1] at hx3
      subst hx3
      refine zM_gr hl m10 (hR (35, 35) (by decide)) (zM_ia' hl mA ac (zM_gr hl m10 (hR (36, 36) (by decide)) (zM_ia' hl mB be ?_)))
      obtain ⟨J, hJ⟩ : ∃ J : zP → Int32 → Int32 → Int32 → zH → Prop, J = (fun l0 l3 l4 l5 h1 => ∃ n1, n1 < 300 - tn ∧ ∃ (P : List (Term × Term)) (M1 : Nat → zE) (A1 B1 : List Int32) (tn : Nat), n1 = 300 - tn ∧ l0 = some 10 ∧ l3 = nI P.length ∧ l5 = nI tn ∧ h1 = zov h M1 ∧ zPo M1 F ce lo ∧ zSm [35, 36] M M1 ∧ M1 35 = zAi A1 ∧ M1 36 = zAi B1 ∧ A1.length = 60 ∧ B1.length = 60 ∧ zPl ce lo A1 B1 7 P ∧ P.length ≤ 8 ∧ tn + zsm P ≤ 255 ∧ zcmp V W = if l4 = 0 then zlx P else l4) := ⟨_, rfl⟩
      rw [← hJ]
      -- one leaf is done
      have leaf : zsz V1 = 1 → zw_191_325 xs (d + 1) Q J (some 10) (nI P.length) (zcmp V1 W1) (nI tn) (zov h M1) := by
        intro hs1' x3 hx3
        rw [hx3, nI_1, hJ]
        refine ⟨300 - (tn + 1), by omega, P, M1, A1, B1, tn + 1, rfl, rfl, rfl, rfl, rfl, p1, sM, mA, mB, l1, l2, pl2, by omega, ?_, ?_⟩
        · have : zsm ((V1, W1) :: P) = zsz V1 + zsm P := rfl
          omega
        · rw [hz]; rfl
      have wc : ∀ (wv : Nat) (x y : Nat), ce[c]? = some (wv, x, y) → ∀ K : Int32 → Prop, K (nI wv) → zGR (some 10) 12 30 (zov h M1) fun x1 => zBA x1 (nI c) (zov h M1) K := fun wv x y hc K hk => zM_what hl p1 hc hk
      have we : ∀ (wv : Nat) (x y : Nat), ce[e]? = some (wv, x, y) → ∀ K : Int32 → Prop, K (nI wv) → zGR (some 10) 12 30 (zov h M1) fun x1 => zBA x1 (nI e) (zov h M1) K := fun wv x y hc K hk => zM_what hl p1 hc hk
      unfold zSimp at hs1
      split at hs1
      · -- numbers
        rename_i s n t m
        obtain ⟨⟨j1, c1, c2⟩, bn, sn⟩ := rc
        obtain ⟨⟨j2, e1, e2⟩, bm, sm⟩ := re
        have lf := leaf rfl
        have hzc : zcmp (.sub (.arg s) (.arg n)) (.sub (.arg t) (.arg m)) = zord (s == 1) n (t == 1) m := rfl
        rw [hzc] at lf
        have nm1 : zNm ce lo c (s == 1) n := ⟨j1, c1, c2⟩
        have nm2 : zNm ce lo e (t == 1) m := ⟨j2, e1, e2⟩
        refine wc 3 _ _ c1 _ ⟨fun z => absurd z (by decide), fun _ => wc 3 _ _ c1 _ ⟨fun _ => wc 3 _ _ c1 _ ⟨fun _ => ?_, fun z => absurd rfl z⟩, fun z => absurd rfl z⟩⟩
        refine zM_body hl p1 c1 (zM_body hl p1 e1 ⟨fun z => ?_, fun z => ?_⟩)
        · have hst : (s == 1) = (t == 1) := zbool_nI z
          refine ⟨fun _ => wc 3 _ _ c1 _ ⟨fun _ => zM_cv hl m10 (zc192 hl p1 nm1 (zKI_v ?_)), fun z => absurd rfl z⟩, fun z => absurd rfl z⟩
          refine zM_nh hl p1 nm1 (zM_nl hl p1 nm1 (zM_nh hl p1 nm2 (zM_nl hl p1 nm2 ⟨d, rfl, zc193 (by omega) (by omega) (zKI_v ?_)⟩)))
          unfold zw_191_275
          have hzo : zSg (s == 1) * (if n < m then -1 else if m < n then 1 else 0) = zord (s == 1) n (t == 1) m := by rw [← hst]; exact zord_same _ _ _
          rw [hzo]
          exact lf
        · have hst : (s == 1) ≠ (t == 1) := fun q => z (by rw [q])
          refine ⟨fun z2 => absurd z2 (by decide), fun _ => zM_cv hl m10 (zc192 hl p1 nm1 (zKI_v ?_))⟩
          have hzo : zSg (s == 1) = zord (s == 1) n (t == 1) m := by
            unfold zord
            rw [if_pos hst]; rfl
          rw [hzo]
          exact lf
      · -- texts
        rename_i k w k' u
        obtain ⟨⟨j1, c1, c2⟩, b1, b2, _⟩ := rc
        obtain ⟨⟨j2, e1, e2⟩, b3, b4, _⟩ := re
        have lf := leaf rfl
        have hzc : zcmp (.mul (.arg k) (.arg w)) (.mul (.arg k') (.arg u)) = if w < u then -1 else if w = u then 0 else 1 := rfl
        rw [hzc] at lf
        refine wc 4 _ _ c1 _ ⟨fun z => absurd z (by decide), fun _ => wc 4 _ _ c1 _ ⟨fun z => absurd z (by decide), fun _ => wc 4 _ _ c1 _ ⟨fun _ => ?_, fun z => absurd rfl z⟩⟩⟩
        refine wc 4 _ _ c1 _ ⟨fun z => absurd z (by decide), fun _ => ⟨fun _ => wc 4 _ _ c1 _ ⟨fun z => absurd z (by decide), fun _ => ?_⟩, fun z => absurd rfl z⟩⟩
        obtain ⟨a1, a2, a3, a4, a5, a6, W', H', B', U', L', d1, d2, d3, d4, d5, d6, d7, d8, d9, d10, rows, lrows⟩ := p1
        have rd : ∀ (i j x y : Nat) (wv kk : Nat), ce[i]? = some (wv, j, kk) → lo[j]? = some (x, y) → ∀ K : Int64 → Int64 → Prop, K (lN x) (lN y) → zGR (some 10) 12 33 (zov h M1) fun x1 => zGR (some 10) 12 31 (zov h M1) fun x3 => zSA x3 (nI i) (zov h M1) fun x5 => zLA x1 x5 (zov h M1) fun x6 => zGR (some 10) 12 34 (zov h M1) fun x7 => zGR (some 10) 12 31 (zov h M1) fun x9 => zSA x9 (nI i) (zov h M1) fun x11 => zLA x7 x11 (zov h M1) fun x12 => K x6 x12 := by
          intro i j x y wv kk hi hj K hk
          have := (List.getElem?_eq_some_iff.mp hi).1
          have := (List.getElem?_eq_some_iff.mp hj).1
          refine zM_gr hl a1 (a2 (33, 33) (by decide)) (zM_gr hl a1 (a2 (31, 31) (by decide)) (zM_sa hl d2 (rows i _ hi).2.1 (zM_la (j := j) hl d4 (lrows j _ hj).1 ?_)))
          exact zM_gr hl a1 (a2 (34, 34) (by decide)) (zM_gr hl a1 (a2 (31, 31) (by decide)) (zM_sa hl d2 (rows i _ hi).2.1 (zM_la (j := j) hl d5 (lrows j _ hj).2 hk)))
        refine rd c j1 0 w 4 k c1 c2 (fun x6 x12 => _) ?_
        refine rd e j2 0 u 4 k' e1 e2 (fun x18 x24 => zCall xs (d + 1) 193 [.long (lN 0), .long (lN w), .long x18, .long x24] (zov h M1) _) ?_
        refine ⟨d, rfl, zc193t b2 b4 (zKI_v ?_)⟩
        have hzo : (1 : Int32) * (if w < u then -1 else if u < w then 1 else 0) = if w < u then -1 else if w = u then 0 else 1 := by
          by_cases h1 : w < u
          · rw [if_pos h1, if_pos h1]; decide
          · rw [if_neg h1, if_neg h1]
            by_cases h2 : u < w
            · rw [if_pos h2, if_neg (by omega)]; decide
            · rw [if_neg h2, if_pos (by omega)]; decide
        unfold zw_191_275
        rw [hzo]
        exact lf
      · -- truth
        rename_i x y
        obtain ⟨a1, b1, c1⟩ := rc
        obtain ⟨a2, b2, e1⟩ := re
        have lf := leaf rfl
        have hzc : zcmp (.arg x) (.arg y) = if x < y then -1 else if x = y then 0 else 1 := rfl
        rw [hzc] at lf
        have hwx : zwc x = x - 20 := by rcases hs1.1 with z | z <;> rw [z] <;> rfl
        have hwy : zwc y = y - 20 := by rcases hs1.2 with z | z <;> rw [z] <;> rfl
        have bx : x = 21 ∨ x = 22 := hs1.1
        have by' : y = 21 ∨ y = 22 := hs1.2
        rw [hwx] at c1
        rw [hwy] at e1
        have ne : ∀ j, 3 ≤ j → j < 100 → ¬ nI (x - 20) = nI j := fun j h1 h2 z => by have := (nI_eq (by omega) (by omega)).mp z; omega
        refine wc _ _ _ c1 _ ⟨fun z => absurd z (ne 5 (by decide) (by decide)), fun _ => wc _ _ _ c1 _ ⟨fun z => absurd z (ne 3 (by decide) (by decide)), fun _ => wc _ _ _ c1 _ ⟨fun z => absurd z (ne 4 (by decide) (by decide)), fun _ => wc _ _ _ c1 _ (we _ _ _ e1 _ (pk_lt (x - 20) (y - 20) (fun hlt => ?_) (fun hge => wc _ _ _ c1 _ (we _ _ _ e1 _ (pk_lt (y - 20) (x - 20) (fun hlt => ?_) (fun hge2 => ?_))))))⟩⟩⟩
        · rw [if_pos (by omega)] at lf; exact lf
        · rw [if_neg (by omega), if_neg (by omega)] at lf; exact lf
        · rw [if_neg (by omega), if_pos (by omega)] at lf; exact lf
      · -- pairs
        rename_i x u v x' u' v'
        obtain ⟨j1, k1, c1, r1, r2⟩ := rc
        obtain ⟨j2, k2, e1, r3, r4⟩ := re
        obtain ⟨_, s1, s2⟩ := hs1
        have dd : zdep (.add (.div (.arg x) u) v) = 1 + max (zdep u) (zdep v) := rfl
        have zz : zsz (.add (.div (.arg x) u) v) = 1 + zsz u + zsz v := rfl
        refine wc 5 _ _ c1 _ ⟨fun _ => ?_, fun z => absurd rfl z⟩
        refine zM_gr hl m10 (hR (35, 35) (by decide)) (zM_body hl p1 c1 (zM_st' hl mA (by omega) (by omega) ?_))
        have sm1 : zSm [35] M1 (zub M1 35 (zAi (A1.set P.length (nI k1)))) := zSm_ub zSm_refl (by decide)
        have q1 : zub M1 35 (zAi (A1.set P.length (nI k1))) 35 = zAi (A1.set P.length (nI k1)) := zub_s
        generalize zub M1 35 (zAi (A1.set P.length (nI k1))) = M2 at sm1 q1
        have p2 : zPo M2 F ce lo := zPo_sm p1 (by rw [sm1 10 (by decide)]; exact m10) sm1 (zSm_refl (S := [])) (by decide) (by decide)
        refine zM_gr hl p2.1 (hR (36, 36) (by decide)) (zM_body hl p2 e1 (zM_st' hl (L := B1) (by rw [sm1 36 (by decide)]; exact mB) (by omega) (by omega) ?_))
        have sm2 : zSm [36] M2 (zub M2 36 (zAi (B1.set P.length (nI k2)))) := zSm_ub zSm_refl (by decide)
        have q2 : zub M2 36 (zAi (B1.set P.length (nI k2))) 36 = zAi (B1.set P.length (nI k2)) := zub_s
        generalize zub M2 36 (zAi (B1.set P.length (nI k2))) = M3 at sm2 q2
        have p3 : zPo M3 F ce lo := zPo_sm p2 (by rw [sm2 10 (by decide)]; exact p2.1) sm2 (zSm_refl (S := [])) (by decide) (by decide)
        rw [nI_1]
        refine zM_gr hl p3.1 (hR (35, 35) (by decide)) (zM_head hl p3 c1 (zM_st' hl (L := A1.set P.length (nI k1)) (by rw [sm2 35 (by decide)]; exact q1) (by rw [List.length_set]; omega) (by rw [List.length_set]; omega) ?_))
        have sm3 : zSm [35] M3 (zub M3 35 (zAi ((A1.set P.length (nI k1)).set (P.length + 1) (nI j1)))) := zSm_ub zSm_refl (by decide)
        have q3 : zub M3 35 (zAi ((A1.set P.length (nI k1)).set (P.length + 1) (nI j1))) 35 = zAi ((A1.set P.length (nI k1)).set (P.length + 1) (nI j1)) := zub_s
        generalize zub M3 35 (zAi ((A1.set P.length (nI k1)).set (P.length + 1) (nI j1))) = M4 at sm3 q3
        have p4 : zPo M4 F ce lo := zPo_sm p3 (by rw [sm3 10 (by decide)]; exact p3.1) sm3 (zSm_refl (S := [])) (by decide) (by decide)
        refine zM_gr hl p4.1 (hR (36, 36) (by decide)) (zM_head hl p4 e1 (zM_st' hl (L := B1.set P.length (nI k2)) (by rw [sm3 36 (by decide)]; exact q2) (by rw [List.length_set]; omega) (by rw [List.length_set]; omega) ?_))
        have sm4 : zSm [36] M4 (zub M4 36 (zAi ((B1.set P.length (nI k2)).set (P.length + 1) (nI j2)))) := zSm_ub zSm_refl (by decide)
        have q4 : zub M4 36 (zAi ((B1.set P.length (nI k2)).set (P.length + 1) (nI j2))) 36 = zAi ((B1.set P.length (nI k2)).set (P.length + 1) (nI j2)) := zub_s
        generalize zub M4 36 (zAi ((B1.set P.length (nI k2)).set (P.length + 1) (nI j2))) = M5 at sm4 q4
        have p5 : zPo M5 F ce lo := zPo_sm p4 (by rw [sm4 10 (by decide)]; exact p4.1) sm4 (zSm_refl (S := [])) (by decide) (by decide)
        intro x61 hx61 x3 hx3
        rw [hx61, show nI P.length + (2 : Int32) = nI (P.length + 2) from nI_add _ 2, hx3, nI_1, hJ]
        have hzm : zsm ((.add (.div (.arg x) u) v, .add (.div (.arg x') u') v') :: P) = 1 + zsz u + zsz v + zsm P := rfl
        refine ⟨300 - (tn + 1), by omega, (u, u') :: (v, v') :: P, M5, _, _, tn + 1, rfl, rfl, rfl, rfl, rfl, p5, ?_, by rw [sm4 35 (by decide)]; exact q3, q4, by rw [List.length_set, List.length_set]; exact l1, by rw [List.length_set, List.length_set]; exact l2, ?_, ?_, ?_, ?_⟩
        · exact zSm_trans (zSm_trans (zSm_trans (zSm_trans sM sm1 (fun _ z => z) (by decide)) sm2 (fun _ z => z) (by decide)) sm3 (fun _ z => z) (by decide)) sm4 (fun _ z => z) (by decide)
        · refine ⟨⟨j1, j2, ?_, ?_, r1, r3⟩, s1, ?_, ⟨k1, k2, ?_, ?_, r2, r4⟩, s2, by omega, ?_⟩
          · rw [List.length_cons, List.getElem?_set_self (by rw [List.length_set]; omega)]
          · rw [List.length_cons, List.getElem?_set_self (by rw [List.length_set]; omega)]
          · rw [List.length_cons]; omega
          · rw [List.getElem?_set_ne (by omega), List.getElem?_set_self (by omega)]
          · rw [List.getElem?_set_ne (by omega), List.getElem?_set_self (by omega)]
          · refine zPl_set P pl2 (fun j hj => ?_)
            rw [List.getElem?_set_ne (by omega), List.getElem?_set_ne (by omega), List.getElem?_set_ne (by omega), List.getElem?_set_ne (by omega)]
            exact ⟨rfl, rfl⟩
        · rw [List.length_cons, List.length_cons]; omega
        · show tn + 1 + (zsz u + (zsz v + zsm P)) ≤ 255
          omega
        · rw [hz, if_pos rfl]
          show (if zcmp (.add (.div (.arg x) u) v) (.add (.div (.arg x') u') v') = 0 then zlx P else zcmp (.add (.div (.arg x) u) v) (.add (.div (.arg x') u') v')) = (if zcmp u u' = 0 then (if zcmp v v' = 0 then zlx P else zcmp v v') else zcmp u u')
          have : zcmp (.add (.div (.arg x) u) v) (.add (.div (.arg x') u') v') = if zcmp u u' = 0 then zcmp v v' else zcmp u u' := rfl
          rw [this]
          by_cases h1 : zcmp u u' = 0
          · rw [if_pos h1, if_pos h1]
          · rw [if_neg h1, if_neg h1, if_neg h1]
      · exact hs1.elim
  · refine zM_gr hl hp.1 (hp.2.1 (35, 35) (by decide)) (zM_st' (j := 0) hl hA (by omega) (by omega) ?_)
    have sm1 : zSm [35] M (zub M 35 (zAi (A.set 0 (nI a)))) := zSm_ub zSm_refl (by decide)
    have q1 : zub M 35 (zAi (A.set 0 (nI a))) 35 = zAi (A.set 0 (nI a)) := zub_s
    generalize zub M 35 (zAi (A.set 0 (nI a))) = M2 at sm1 q1
    have p2 : zPo M2 F ce lo := zPo_sm hp (by rw [sm1 10 (by decide)]; exact hp.1) sm1 (zSm_refl (S := [])) (by decide) (by decide)
    refine zM_gr hl p2.1 (hp.2.1 (36, 36) (by decide)) (zM_st' (j := 0) hl (L := B) (by rw [sm1 36 (by decide)]; exact hB) (by omega) (by omega) ?_)
    have sm2 : zSm [36] M2 (zub M2 36 (zAi (B.set 0 (nI b)))) := zSm_ub zSm_refl (by decide)
    have q2 : zub M2 36 (zAi (B.set 0 (nI b))) 36 = zAi (B.set 0 (nI b)) := zub_s
    generalize zub M2 36 (zAi (B.set 0 (nI b))) = M3 at sm2 q2
    have p3 : zPo M3 F ce lo := zPo_sm p2 (by rw [sm2 10 (by decide)]; exact p2.1) sm2 (zSm_refl (S := [])) (by decide) (by decide)
    refine ⟨300, [(V, W)], M3, _, _, 0, rfl, rfl, rfl, rfl, rfl, p3, zSm_trans sm1 sm2 (by decide) (by decide), by rw [sm2 35 (by decide)]; exact q1, q2, by rw [List.length_set]; exact lA, by rw [List.length_set]; exact lB, ⟨⟨a, b, ?_, ?_, hV, hW⟩, hs, hd, trivial⟩, by show 1 ≤ 8; decide, by show 0 + (zsz V + 0) ≤ 255; omega, ?_⟩
    · exact List.getElem?_set_self (by omega)
    · exact List.getElem?_set_self (by omega)
    · show _ = if zcmp V W = 0 then 0 else zcmp V W
      by_cases h1 : zcmp V W = 0
      · rw [if_pos h1, h1]
      · rw [if_neg h1]
end RC
