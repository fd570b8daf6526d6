/-! recursion over the list of nodes: a part stands behind its node -/
def zfix {α : Type} (bot : α) (body : (Nat → α) → Nat → α) : Nat → Nat → α
  | 0, _ => bot
  | f + 1, i => body (zfix bot body f) i
theorem zfix_ir {α : Type} {bot : α} {body : (Nat → α) → Nat → α} {n : Nat} (hb : ∀ r i, n ≤ i → body r i = bot) (hl : ∀ r r' i, (∀ j, i < j → r j = r' j) → body r i = body r' i) : ∀ f g i, n ≤ f + i → n ≤ g + i → zfix bot body f i = zfix bot body g i
  | 0, 0, i, _, _ => rfl
  | 0, g + 1, i, h1, h2 => (hb _ i (by omega)).symm
  | f + 1, 0, i, h1, h2 => hb _ i (by omega)
  | f + 1, g + 1, i, h1, h2 => hl _ _ i (fun j hj => zfix_ir hb hl f g j (by omega) (by omega))
theorem zfix_eq {α : Type} {bot : α} {body : (Nat → α) → Nat → α} {n g i : Nat} (hb : ∀ r i, n ≤ i → body r i = bot) (hl : ∀ r r' i, (∀ j, i < j → r j = r' j) → body r i = body r' i) (hg : n ≤ g + i) : zfix bot body g i = body (zfix bot body g) i := by
  cases g with
  | zero => exact (hb _ i (by omega)).symm
  | succ g => exact hl _ _ i (fun j hj => zfix_ir hb hl g (g + 1) j (by omega) (by omega))
theorem znx_ge {N : List zNt} {i : Nat} : i ≤ znx N i := Nat.le_add_right _ _
/-! types, as trees -/
def ztc : Term → Nat
  | .arg c => c
  | .div (.arg c) _ => c
  | .add (.div (.arg c) _) _ => c
  | _ => 0
def ztdep : Term → Nat
  | .div (.arg _) a => 1 + ztdep a
  | .add (.div (.arg _) a) b => 1 + max (ztdep a) (ztdep b)
  | _ => 1
def ztsim : Term → Bool
  | .arg c => decide (1 ≤ c ∧ c ≤ 4)
  | .add (.div (.arg c) a) b => c == 5 && ztsim a && ztsim b
  | _ => false
/-- the first part, the second (itself where there is none) -/
def zt1 : Term → Term
  | .div (.arg _) a => a
  | .add (.div (.arg _) a) _ => a
  | t => t
def zt2 : Term → Term
  | .add (.div (.arg _) _) b => b
  | t => t
def zTok : Term → Prop
  | .arg c => c ≤ 4
  | .div (.arg c) a => (c = 6 ∨ c = 8) ∧ zTok a
  | .add (.div (.arg c) a) b => (c = 5 ∨ c = 7 ∨ c = 9 ∨ c = 10) ∧ zTok a ∧ zTok b
  | _ => False
def ztp (c : Nat) : Nat := [0, 0, 0, 0, 0, 2, 1, 2, 1, 2, 2].getD c 99
def zist (e : zNt) : Bool := eS e == 3 && decide (eC e ≤ 10) && eM e == ztp (eC e)
def zFp (N : List zNt) (i : Nat) : Nat := match N[i]? with
  | some e => eF e
  | none => 0
def zt7 (p : Nat) (t : Term) : Nat ⊕ Term := if ztdep t ≤ 7 then .inr t else .inl p
def ztyB (N : List zNt) (r : Nat → Nat → Nat ⊕ Term) (i wh : Nat) : Nat ⊕ Term := match N[i]? with
  | none => .inl 0
  | some e => if zist e = true ∧ (eC e ≠ 10 ∨ wh = 2) then
      (if eM e = 0 then .inr (.arg (eC e)) else match r (i + 1) (if wh = 1 ∧ eC e = 5 then 2 else 0) with
        | .inl x => .inl x
        | .inr a => if ztsim a = false ∧ (eC e = 9 ∨ eC e = 10) then .inl (zFp N (i + 1)) else
          if eM e = 1 then zt7 (eF e) (.div (.arg (eC e)) a) else match r (znx N (i + 1)) 0 with
            | .inl x => .inl x
            | .inr b => zt7 (eF e) (.add (.div (.arg (eC e)) a) b))
    else .inl (eF e)
/-- the type that node i tells (wh: 0 plain, 1 a storage, 2 a storage's first), or the place that is refused -/
def zTy (N : List zNt) : Nat → Nat → Nat ⊕ Term := zfix (fun _ => .inl 0) (ztyB N) 200
theorem zTy_eq {N : List zNt} (hN : N.length ≤ 100) (i wh : Nat) : zTy N i wh = ztyB N (zTy N) i wh := by
  have := zfix_eq (bot := fun _ => .inl 0) (body := ztyB N) (n := N.length) (g := 200) (i := i) (fun r i hi => funext fun wh => by
    unfold ztyB; rw [List.getElem?_eq_none hi]) (fun r r' i hr => funext fun wh => by
    unfold ztyB
    rw [hr (i + 1) (by omega), hr (znx N (i + 1)) (by have := znx_ge (N := N) (i := i + 1); omega)]) (by omega)
  exact congrFun this wh
theorem zt7_ok {p : Nat} {t T : Term} (h : zt7 p t = .inr T) : T = t ∧ ztdep t ≤ 7 := by
  unfold zt7 at h
  split at h
  · cases h; exact ⟨rfl, ‹_›⟩
  · cases h
theorem ztp_0 {c : Nat} (hc : c ≤ 10) (h : 0 = ztp c) : c ≤ 4 := by
  have : ∀ c, c ≤ 10 → 0 = ztp c → c ≤ 4 := by decide
  exact this c hc h
theorem ztp_1 {c : Nat} (hc : c ≤ 10) (h : 1 = ztp c) : c = 6 ∨ c = 8 := by
  have : ∀ c, c ≤ 10 → 1 = ztp c → c = 6 ∨ c = 8 := by decide
  exact this c hc h
theorem ztp_2 {c m : Nat} (hc : c ≤ 10) (h : m = ztp c) (h0 : m ≠ 0) (h1 : m ≠ 1) : m = 2 ∧ (c = 5 ∨ c = 7 ∨ c = 9 ∨ c = 10) := by
  subst h
  have : ∀ c, c ≤ 10 → ztp c ≠ 0 → ztp c ≠ 1 → ztp c = 2 ∧ (c = 5 ∨ c = 7 ∨ c = 9 ∨ c = 10) := by decide
  exact this c hc h0 h1
theorem zist_ok {e : zNt} (h : zist e = true) : eS e = 3 ∧ eC e ≤ 10 ∧ eM e = ztp (eC e) := by
  unfold zist at h
  simp at h
  exact ⟨h.1.1, h.1.2, h.2⟩
theorem zTy_ok {N : List zNt} (hN : N.length ≤ 100) : ∀ (n i wh : Nat) (T : Term), N.length ≤ n + i → zTy N i wh = .inr T → zTok T ∧ ztdep T ≤ 7 ∧ ∃ e, N[i]? = some e ∧ ztc T = eC e ∧ zist e = true
  | 0, i, wh, T, hn, h => by
    rw [zTy_eq hN] at h
    unfold ztyB at h
    rw [List.getElem?_eq_none (by omega)] at h
    cases h
  | n + 1, i, wh, T, hn, h => by
    rw [zTy_eq hN] at h
    unfold ztyB at h
    cases he : N[i]? with
    | none => rw [he] at h; cases h
    | some e =>
      rw [he] at h
      dsimp only at h
      split at h
      · rename_i hi
        obtain ⟨i1, i2, i3⟩ := zist_ok hi.1
        split at h
        · rename_i h0
          cases h
          rw [h0] at i3
          exact ⟨ztp_0 i2 i3, show 1 ≤ 7 by decide, e, rfl, rfl, hi.1⟩
        · rename_i h0
          split at h
          · cases h
          · rename_i a ha
            obtain ⟨a1, a2, _⟩ := zTy_ok hN n _ _ a (by omega) ha
            split at h
            · cases h
            · split at h
              · rename_i h1
                obtain ⟨rfl, h7⟩ := zt7_ok h
                rw [h1] at i3
                exact ⟨⟨ztp_1 i2 i3, a1⟩, h7, e, rfl, rfl, hi.1⟩
              · rename_i h1
                split at h
                · cases h
                · rename_i b hb
                  obtain ⟨b1, b2, _⟩ := zTy_ok hN n _ _ b (by have := znx_ge (N := N) (i := i + 1); omega) hb
                  obtain ⟨rfl, h7⟩ := zt7_ok h
                  exact ⟨⟨(ztp_2 i2 i3 h0 h1).2, a1, b1⟩, h7, e, rfl, rfl, hi.1⟩
      · cases h
/-- a type of the class -/
def zTyp (h : zH) : Term → Nat → Prop
  | .arg c, a => zown h a = some (.inr (7, [.int (nI c), .null, .null, .int (nI (ztdep (.arg c))), .int (zB (ztsim (.arg c)))])) ∧ c ≤ 4
  | .div (.arg c) t, a => (∃ b, zown h a = some (.inr (7, [.int (nI c), .ref b, .null, .int (nI (ztdep (.div (.arg c) t))), .int (zB (ztsim (.div (.arg c) t)))])) ∧ zTyp h t b) ∧ (c = 6 ∨ c = 8)
  | .add (.div (.arg c) t) u, a => (∃ b e, zown h a = some (.inr (7, [.int (nI c), .ref b, .ref e, .int (nI (ztdep (.add (.div (.arg c) t) u))), .int (zB (ztsim (.add (.div (.arg c) t) u)))])) ∧ zTyp h t b ∧ zTyp h u e) ∧ (c = 5 ∨ c = 7 ∨ c = 9 ∨ c = 10)
  | _, _ => False
theorem zTyp_fr {h h' : zH} (H : ∀ k fs, zown h k = some (.inr (7, fs)) → zown h' k = some (.inr (7, fs))) : ∀ (T : Term) (a : Nat), zTyp h T a → zTyp h' T a := by
  intro T a
  induction T, a using zTyp.induct with
  | case1 c a => rintro ⟨h1, h2⟩; exact ⟨H _ _ h1, h2⟩
  | case2 c t a ih => rintro ⟨⟨b, h1, h2⟩, h3⟩; exact ⟨⟨b, H _ _ h1, ih b h2⟩, h3⟩
  | case3 c t u a ih1 ih2 => rintro ⟨⟨b, e, h1, h2, h3⟩, h4⟩; exact ⟨⟨b, e, H _ _ h1, ih1 b h2, ih2 e h3⟩, h4⟩
  | case4 t x1 x2 x3 x4 =>
    intro hh
    unfold zTyp at hh
    split at hh
    · exact absurd rfl (x2 _)
    · exact absurd rfl (x3 _ _)
    · exact absurd rfl (x4 _ _ _)
    · exact hh.elim
/-- what a type's object holds -/
theorem zTyp_at {h : zH} : ∀ (T : Term) (a : Nat), zTyp h T a → zTok T ∧ ∃ p q : zP, zown h a = some (.inr (7, [.int (nI (ztc T)), zo p, zo q, .int (nI (ztdep T)), .int (zB (ztsim T))])) ∧ zTyp h (zt1 T) (p.getD a) ∧ zTyp h (zt2 T) (q.getD a) ∧ (p = none ↔ ztc T ≤ 4) ∧ (q = none ↔ ztc T ≤ 4 ∨ ztc T = 6 ∨ ztc T = 8) := by
  intro T a
  induction T, a using zTyp.induct with
  | case1 c a => rintro ⟨h1, h2⟩; exact ⟨h2, none, none, h1, ⟨h1, h2⟩, ⟨h1, h2⟩, ⟨fun _ => h2, fun _ => rfl⟩, ⟨fun _ => Or.inl h2, fun _ => rfl⟩⟩
  | case2 c t a ih =>
    rintro ⟨⟨b, h1, h2⟩, h3⟩
    obtain ⟨t1, _⟩ := ih b h2
    exact ⟨⟨h3, t1⟩, some b, none, h1, h2, ⟨⟨b, h1, h2⟩, h3⟩, ⟨fun z => (by cases z), fun (z : c ≤ 4) => absurd h3 (by omega)⟩, ⟨fun _ => Or.inr h3, fun _ => rfl⟩⟩
  | case3 c t u a ih1 ih2 =>
    rintro ⟨⟨b, e, h1, h2, h3⟩, h4⟩
    obtain ⟨t1, _⟩ := ih1 b h2
    obtain ⟨t2, _⟩ := ih2 e h3
    refine ⟨⟨h4, t1, t2⟩, some b, some e, h1, h2, h3, ⟨fun z => (by cases z), fun (z : c ≤ 4) => absurd h4 (by omega)⟩, ⟨fun z => (by cases z), fun (z : c ≤ 4 ∨ c = 6 ∨ c = 8) => absurd h4 (by omega)⟩⟩
  | case4 t x1 x2 x3 x4 =>
    intro hh
    unfold zTyp at hh
    split at hh
    · exact absurd rfl (x2 _)
    · exact absurd rfl (x3 _ _)
    · exact absurd rfl (x4 _ _ _)
    · exact hh.elim
theorem zTok_c {T : Term} (h : zTok T) : ztc T ≤ 10 := by
  unfold zTok at h
  split at h
  · rename_i c; show c ≤ 10; omega
  · rename_i c _; show c ≤ 10; omega
  · rename_i c _ _; show c ≤ 10; omega
  · exact h.elim
section TYC
variable {xs : List Value} {d : Nat} {h : zH} {Q : zO → zH → Prop} {a b c : Nat} {T : Term}
/-- the parts of a new type -/
def zTm (h : zH) (c : Nat) (p q : zP) (T : Term) : Prop := (p = none ∧ q = none ∧ T = .arg c ∧ c ≤ 4) ∨ (∃ b t, p = some b ∧ q = none ∧ T = .div (.arg c) t ∧ (c = 6 ∨ c = 8) ∧ zTyp h t b) ∨ (∃ b t e u, p = some b ∧ q = some e ∧ T = .add (.div (.arg c) t) u ∧ (c = 5 ∨ c = 7 ∨ c = 9 ∨ c = 10) ∧ zTyp h t b ∧ zTyp h u e)
theorem zTyp_add {e : zE} {n : Nat} (hk : zTyp h T a) : zTyp (zadd h e n) T a := zTyp_fr (fun _ _ z => zown_add z) T a hk
theorem zmax1 {a b : Nat} (ha : a < 2 ^ 30) (hb : b < 2 ^ 30) : (1 : Int32) + (if nI a < nI b then nI b else nI a) = nI (1 + max a b) := by
  by_cases hab : a < b
  · rw [if_pos (nI_lt hab (by omega)), show max a b = b by omega]; exact nI_add 1 b
  · rw [if_neg (nI_nlt (by omega) (by omega)), show max a b = a by omega]; exact nI_add 1 a
theorem zc50 {p q : zP} {K : zH → Prop} (hm : zTm h c p q T) (hd : ztdep T < 2 ^ 30) (g : K (zadd h (.inr (7, [.int (nI c), zo p, zo q, .int (nI (ztdep T)), .int (zB (ztsim T))])) 5)) : zCN xs (d + 1) 50 (some (h.1.length + zK0)) [.int (nI c), zo p, zo q] (zadd h (.inr (7, [.int 0, .null, .null, .int 0, .int 0])) 5) K := by
  refine ⟨_, rfl, by rw [zown_new]; rfl, d, rfl, zm_50 ⟨_, rfl, ?_⟩⟩
  refine zX_pf zown_new (show 0 < 5 by decide) ?_
  rw [zput_new]
  refine zX_pf zown_new (show 1 < 5 by decide) ?_
  rw [zput_new]
  refine zX_pf zown_new (show 2 < 5 by decide) ?_
  rw [zput_new]
  rcases hm with ⟨rfl, rfl, rfl, hc⟩ | ⟨b, t, rfl, rfl, rfl, hc, ht⟩ | ⟨b, t, e, u, rfl, rfl, rfl, hc, ht, hu⟩
  · refine ⟨fun _ => ⟨fun _ => ?_, fun z => absurd rfl z⟩, fun z => absurd rfl z⟩
    refine zX_pf zown_new (show 3 < 5 by decide) ?_
    rw [zput_new]
    refine ⟨fun z => ?_, fun z => ⟨fun z2 => ?_, fun z2 => ?_⟩⟩
    · have c0 : c = 0 := by have := (nI_ltI (b := 1) (by omega) (by decide)).mp z; omega
      subst c0
      refine ⟨fun z2 => absurd z2 (by decide), fun _ => ⟨Or.inl rfl, zX_pf zown_new (show 4 < 5 by decide) ?_⟩⟩
      rw [zput_new]
      exact g
    · exact absurd z2 (by have := mt (nI_ltI (a := 4) (b := c) (by decide) (by omega)).mp; exact this (by omega))
    · have c0 : 1 ≤ c := by
        by_cases q : 1 ≤ c
        · exact q
        · exact absurd (nI_lt (a := c) (b := 1) (by omega) (by decide)) z
      refine ⟨Or.inr rfl, zX_pf zown_new (show 4 < 5 by decide) ?_⟩
      rw [zput_new]
      have hs : ztsim (.arg c) = true := decide_eq_true ⟨c0, hc⟩
      rw [hs] at g
      exact g
  · obtain ⟨tk, p, q, ho, _⟩ := zTyp_at t b ht
    have hdt : ztdep t < 2 ^ 30 := by have : ztdep (.div (.arg c) t) = 1 + ztdep t := rfl; omega
    refine ⟨fun z => (by cases z), fun _ => zX_gi (zown_add ho) rfl ⟨fun _ => ?_, fun z => absurd rfl z⟩⟩
    refine zX_pf zown_new (show 3 < 5 by decide) ?_
    rw [zput_new]
    have e1 : (1 : Int32) + (if nI (ztdep t) < 0 then 0 else nI (ztdep t)) = nI (ztdep (.div (.arg c) t)) := by
      rw [if_neg (nI_pos (by omega))]; exact nI_add 1 _
    refine ⟨fun z => ?_, fun z => ⟨fun z2 => ?_, fun z2 => ?_⟩⟩
    · exact absurd ((nI_ltI (b := 1) (by omega) (by decide)).mp z) (by omega)
    · refine ⟨fun z3 => absurd ((nI_eq (b := 5) (by omega) (by decide)).mp z3) (by omega), fun _ => ⟨Or.inl rfl, zX_pf zown_new (show 4 < 5 by decide) ?_⟩⟩
      rw [zput_new]
      show K (zadd h (.inr (7, [.int (nI c), .ref b, .null, .int (1 + (if nI (ztdep t) < 0 then 0 else nI (ztdep t))), .int 0])) 5)
      rw [e1]
      exact g
    · exact absurd (nI_lt (a := 4) (b := c) (by omega) (by omega)) z2
  · obtain ⟨tk, p, q, ho, _⟩ := zTyp_at t b ht
    obtain ⟨uk, p', q', hu', _⟩ := zTyp_at u e hu
    have hdd : ztdep (.add (.div (.arg c) t) u) = 1 + max (ztdep t) (ztdep u) := rfl
    have hdt : ztdep t < 2 ^ 30 := by omega
    have hdu : ztdep u < 2 ^ 30 := by omega
    refine ⟨fun z => (by cases z), fun _ => zX_gi (zown_add ho) rfl ⟨fun z => (by cases z), fun _ => zX_gi (zown_add hu') rfl ?_⟩⟩
    refine zX_pf zown_new (show 3 < 5 by decide) ?_
    rw [zput_new]
    have e1 := zmax1 hdt hdu
    rw [← hdd] at e1
    have fin : ∀ s : Bool, ztsim (.add (.div (.arg c) t) u) = s → zw_50_95 xs d (zKV K (fun _ _ => False)) (zB s) (some (h.1.length + zK0)) (zadd h (.inr (7, [.int (nI c), .ref b, .ref e, .int (1 + (if nI (ztdep t) < nI (ztdep u) then nI (ztdep u) else nI (ztdep t))), .int 0])) 5) := by
      intro s hs
      refine ⟨zB_01 s, zX_pf zown_new (show 4 < 5 by decide) ?_⟩
      rw [zput_new]
      rw [hs] at g
      show K (zadd h (.inr (7, [.int (nI c), .ref b, .ref e, .int (1 + (if nI (ztdep t) < nI (ztdep u) then nI (ztdep u) else nI (ztdep t))), .int (zB s)])) 5)
      rw [e1]
      exact g
    refine ⟨fun z => absurd ((nI_ltI (b := 1) (by omega) (by decide)).mp z) (by omega), fun z => ⟨fun z2 => ?_, fun z2 => absurd (nI_lt (a := 4) (b := c) (by omega) (by omega)) z2⟩⟩
    have hsim : ztsim (.add (.div (.arg c) t) u) = (c == 5 && ztsim t && ztsim u) := rfl
    refine ⟨fun z3 => ?_, fun z3 => ?_⟩
    · have c5 : c = 5 := (nI_eq (b := 5) (by omega) (by decide)).mp z3
      subst c5
      refine ⟨fun z => (by cases z), fun _ => zX_gi (zown_add ho) rfl ⟨fun z4 => ?_, fun z4 => ?_⟩⟩
      · exact fin false (by rw [hsim, (zB_0.mp z4)]; rfl)
      · have ht1 : ztsim t = true := by cases hs : ztsim t; exact absurd (by rw [hs]; rfl) z4; rfl
        refine ⟨fun z => (by cases z), fun _ => zX_gi (zown_add hu') rfl ⟨fun z5 => ?_, fun z5 => ?_⟩⟩
        · exact fin false (by rw [hsim, ht1, (zB_0.mp z5)]; rfl)
        · have hu1 : ztsim u = true := by cases hs : ztsim u; exact absurd (by rw [hs]; rfl) z5; rfl
          exact fin true (by rw [hsim, ht1, hu1]; rfl)
    · have c5 : (c == 5) = false := by
        cases hq : c == 5 with
        | false => rfl
        | true => exact absurd (by rw [eq_of_beq hq]; rfl) z3
      exact fin false (by rw [hsim, c5]; rfl)
theorem zTm_typ {p q : zP} {n : Nat} (hm : zTm h c p q T) : zTyp (zadd h (.inr (7, [.int (nI c), zo p, zo q, .int (nI (ztdep T)), .int (zB (ztsim T))])) n) T (h.1.length + zK0) := by
  rcases hm with ⟨rfl, rfl, rfl, hc⟩ | ⟨b, t, rfl, rfl, rfl, hc, ht⟩ | ⟨b, t, e, u, rfl, rfl, rfl, hc, ht, hu⟩
  · exact ⟨zown_new, hc⟩
  · exact ⟨⟨b, zown_new, zTyp_add ht⟩, hc⟩
  · exact ⟨⟨b, e, zown_new, zTyp_add ht, zTyp_add hu⟩, hc⟩
/-- a new type -/
theorem zNty {p q : zP} {K : Nat → zH → Prop} {x y : Int32} (hm : zTm h c p q T) (hd : ztdep T < 2 ^ 30) (g : ∀ h', zEx h h' 1 5 → zTyp h' T (h.1.length + zK0) → h'.1.length = h.1.length + 1 → K (h.1.length + zK0) h') : zNO 7 [.int 0, .null, .null, .int 0, .int 0] h fun a1 h2 => zCN xs (d + 1) 50 (some a1) [.int (nI c), zo p, zo q] h2 fun h4 => K a1 h4 :=
  zNO_i (zc50 hm hd (g _ zEx_add (zTm_typ hm) zadd_ln))
theorem zc52 {t u : Term} (ht : zTyp h t a) (hu : zTyp h u b) (hd : ztdep (.add (.div (.arg 5) t) u) < 2 ^ 30) (g : ∀ h', zEx h h' 1 5 → zTyp h' (.add (.div (.arg 5) t) u) (h.1.length + zK0) → Q (.inl (some (.ref (h.1.length + zK0)))) h') : zG xs (d + 1) (52, 0, lv_args 0 [zo (some a), zo (some b)], []) h Q :=
  zm_52 (zNty (c := 5) (p := some a) (q := some b) (K := fun a1 h4 => Q (.inl (some (zo (some a1)))) h4) (x := 0) (y := 0) (Or.inr (Or.inr ⟨a, t, b, u, rfl, rfl, rfl, Or.inl rfl, ht, hu⟩)) hd (fun h' e1 t1 _ => g h' e1 t1))
theorem zc74 {t : Term} (ht : zTyp h t a) (hc : c = 6 ∨ c = 8) (hd : ztdep (.div (.arg c) t) < 2 ^ 30) (g : ∀ h', zEx h h' 1 5 → zTyp h' (.div (.arg c) t) (h.1.length + zK0) → Q (.inl (some (.ref (h.1.length + zK0)))) h') : zG xs (d + 1) (74, 0, lv_args 0 [.int (nI c), zo (some a)], []) h Q :=
  zm_74 (zNty (p := some a) (q := none) (K := fun a1 h4 => Q (.inl (some (zo (some a1)))) h4) (x := 0) (y := 0) (Or.inr (Or.inl ⟨a, t, rfl, rfl, rfl, hc, ht⟩)) hd (fun h' e1 t1 _ => g h' e1 t1))
theorem zc88 (hc : c ≤ 4) (g : ∀ h', zEx h h' 1 5 → zTyp h' (.arg c) (h.1.length + zK0) → Q (.inl (some (.ref (h.1.length + zK0)))) h') : zG xs (d + 1) (88, 0, lv_args 0 [.int (nI c)], []) h Q :=
  zm_88 (zNty (p := none) (q := none) (K := fun a1 h4 => Q (.inl (some (zo (some a1)))) h4) (x := 0) (y := 0) (Or.inl ⟨rfl, rfl, rfl, hc⟩) (show 1 < 2 ^ 30 by decide) (fun h' e1 t1 _ => g h' e1 t1))
theorem zc10 (ht : zTyp h T a) (g : ∀ b, zTyp h (zt1 T) b → Q (.inl (some (.ref b))) h) : zG xs d (10, 0, lv_args 0 [zo (some a)], []) h Q := by
  obtain ⟨tk, p, q, ho, h1, h2, _⟩ := zTyp_at T a ht
  cases p with
  | none => exact zm_10 (zX_gn ho rfl ⟨fun _ => g a h1, fun z => absurd rfl z⟩)
  | some b => exact zm_10 (zX_gr ho rfl ⟨fun z => (by cases z), fun _ => zX_gr ho rfl (g b h1)⟩)
theorem zc66 (ht : zTyp h T a) (g : ∀ b, zTyp h (zt2 T) b → Q (.inl (some (.ref b))) h) : zG xs d (66, 0, lv_args 0 [zo (some a)], []) h Q := by
  obtain ⟨tk, p, q, ho, h1, h2, _⟩ := zTyp_at T a ht
  cases q with
  | none => exact zm_66 (zX_gn ho rfl ⟨fun _ => g a h2, fun z => absurd rfl z⟩)
  | some b => exact zm_66 (zX_gr ho rfl ⟨fun z => (by cases z), fun _ => zX_gr ho rfl (g b h2)⟩)
theorem zTyp_gc {K : Int32 → Prop} (ht : zTyp h T a) (g : ztc T ≤ 10 → K (nI (ztc T))) : zGI (some a) 7 0 h K := by
  obtain ⟨tk, p, q, ho, _⟩ := zTyp_at T a ht
  exact zX_gi ho rfl (g (zTok_c tk))
theorem zTyp_gd {K : Int32 → Prop} (ht : zTyp h T a) (g : K (nI (ztdep T))) : zGI (some a) 7 3 h K := by
  obtain ⟨tk, p, q, ho, _⟩ := zTyp_at T a ht
  exact zX_gi ho rfl g
theorem zTyp_gs {K : Int32 → Prop} (ht : zTyp h T a) (g : K (zB (ztsim T))) : zGI (some a) 7 4 h K := by
  obtain ⟨tk, p, q, ho, _⟩ := zTyp_at T a ht
  exact zX_gi ho rfl g
theorem zc68 (ht : zTyp h T a) (g : Q (.inl (some (.int (zB (ztc T == 2 || ztc T == 3))))) h) : zG xs d (68, 0, lv_args 0 [zo (some a)], []) h Q := by
  refine zm_68 (zTyp_gc ht (fun hc => pk_eq (ztc T) 2 (fun e => ?_) (fun e => zTyp_gc ht (fun _ => pk_eq (ztc T) 3 (fun e2 => ?_) (fun e2 => ?_)))))
  · rw [e] at g; exact ⟨Or.inr rfl, g⟩
  · rw [e2] at g; exact ⟨Or.inr rfl, g⟩
  · rw [beq_false_of_ne e, beq_false_of_ne e2] at g; exact ⟨Or.inl rfl, g⟩
theorem zc64 (ht : zTyp h T a) (g : Q (.inl (some (.int (zB (ztc T == 9 || ztc T == 10))))) h) : zG xs d (64, 0, lv_args 0 [zo (some a)], []) h Q := by
  refine zm_64 (zTyp_gc ht (fun hc => pk_eq (ztc T) 9 (fun e => ?_) (fun e => zTyp_gc ht (fun _ => pk_eq (ztc T) 10 (fun e2 => ?_) (fun e2 => ?_)))))
  · rw [e] at g; exact ⟨Or.inr rfl, g⟩
  · rw [e2] at g; exact ⟨Or.inr rfl, g⟩
  · rw [beq_false_of_ne e, beq_false_of_ne e2] at g; exact ⟨Or.inl rfl, g⟩
end TYC
/-! what a node that was read is like -/
/-- a text: its length, its characters from the highest byte on -/
def zTxo (k w : Nat) : Prop := k ≤ 8 ∧ w < 2 ^ 63 ∧ w % 2 ^ (8 * (8 - k)) = 0 ∧ ∀ i, i < k → 32 ≤ w / 2 ^ (8 * (7 - i)) % 256 ∧ w / 2 ^ (8 * (7 - i)) % 256 ≤ 126
def zEk (e : zNt) : Prop := eS e ≤ 3 ∧ eC e < 256 ∧ eM e ≤ 40 ∧ eF e < 2000 ∧ (eS e = 0 → eM e = 0 ∧ eC e < 2 ∧ eH e < 1152921504606846976 ∧ eL e < 1152921504606846976 ∧ (eC e = 1 → eH e * 1152921504606846976 + eL e ≠ 0)) ∧ (eS e = 1 → eM e = 0 ∧ zTxo (eC e) (eL e)) ∧ (eS e = 2 → eM e = eC e) ∧ (eS e = 3 → eM e ≤ 3)
theorem zptx_bd {B : List Nat} : ∀ (n i at_ v v2 : Nat), zptx B n i at_ v = .inr v2 → i + n ≤ 8 → zTxo i v → zTxo (i + n) v2
  | 0, i, at_, v, v2, h, hi, hv => by cases h; exact hv
  | n + 1, i, at_, v, v2, h, hi, hv => by
    rw [zptx] at h
    cases hb : B[at_]? with
    | none => rw [hb] at h; cases h
    | some b =>
      rw [hb] at h
      dsimp only at h
      split at h
      · cases h
      · rename_i hb2
        have hb3 : ¬ 126 < b := by omega
        obtain ⟨v1, v2', v3, v4⟩ := hv
        obtain ⟨_, t2, t3⟩ := ztxt_or (v := v) (b := b) (i := i) (by omega) hb3 v3 v2'
        have := zptx_bd n (i + 1) (at_ + 1) _ v2 h (by omega) ⟨by omega, t3, t2, fun j hj => ?_⟩
        · rw [show i + (n + 1) = i + 1 + n by omega]; exact this
        · have hpos : 0 < 2 ^ (8 * (7 - i)) := Nat.two_pow_pos _
          by_cases hji : j = i
          · subst hji
            rw [Nat.add_mul_div_right _ _ hpos]
            have hz : v / 2 ^ (8 * (7 - j)) % 256 = 0 := by
              rw [show 8 * (8 - j) = 8 * (7 - j) + 8 by omega, Nat.pow_add] at v3
              have := Nat.mod_mul_right_div_self v (2 ^ (8 * (7 - j))) (2 ^ 8)
              rw [v3, Nat.zero_div] at this
              exact this.symm
            omega
          · have hjl : j < i := by omega
            have hpe : (2 : Nat) ^ (8 * (7 - j)) = 2 ^ (8 * (7 - i)) * 2 ^ (8 * (i - j)) := by rw [← Nat.pow_add]; congr 1; omega
            have h256 : b < 2 ^ (8 * (i - j)) := by
              have : (2 : Nat) ^ 8 ≤ 2 ^ (8 * (i - j)) := Nat.pow_le_pow_right (by decide) (by omega)
              omega
            have hz : v / 2 ^ (8 * (7 - i)) % 2 ^ (8 * (i - j)) + b < 2 ^ (8 * (i - j)) := by
              -- the lower bytes of v are 0 there
              have hz8 : v / 2 ^ (8 * (7 - i)) % 256 = 0 := by
                rw [show 8 * (8 - i) = 8 * (7 - i) + 8 by omega, Nat.pow_add] at v3
                have := Nat.mod_mul_right_div_self v (2 ^ (8 * (7 - i))) (2 ^ 8)
                rw [v3, Nat.zero_div] at this
                exact this.symm
              have hk : 2 ^ (8 * (i - j)) = 256 * 2 ^ (8 * (i - j - 1)) := by rw [show 8 * (i - j) = 8 + 8 * (i - j - 1) by omega, Nat.pow_add]
              rw [hk]
              have hm := Nat.mod_mul_right_mod (v / 2 ^ (8 * (7 - i))) 256 (2 ^ (8 * (i - j - 1)))
              have hlt := Nat.mod_lt (v / 2 ^ (8 * (7 - i))) (show 0 < 256 * 2 ^ (8 * (i - j - 1)) from Nat.mul_pos (by decide) (Nat.two_pow_pos _))
              have hpw := Nat.two_pow_pos (8 * (i - j - 1))
              omega
            have : (v + b * 2 ^ (8 * (7 - i))) / 2 ^ (8 * (7 - j)) = v / 2 ^ (8 * (7 - j)) := by
              rw [hpe, ← Nat.div_div_eq_div_mul, ← Nat.div_div_eq_div_mul, Nat.add_mul_div_right _ _ hpos]
              have hd := Nat.div_add_mod (v / 2 ^ (8 * (7 - i))) (2 ^ (8 * (i - j)))
              have hp2 := Nat.two_pow_pos (8 * (i - j))
              rw [← hd, Nat.add_assoc, Nat.mul_add_div hp2, Nat.mul_add_div hp2, Nat.div_eq_of_lt hz, Nat.div_eq_of_lt (Nat.mod_lt _ hp2)]
            rw [this]
            exact v4 j hjl
theorem zpmo_nz {B : List Nat} : ∀ (f at_ sh v p w : Nat), zpmo B f at_ sh v = .inr (p, w) → w ≠ 0
  | 0, at_, sh, v, p, w, h => by cases h
  | f + 1, at_, sh, v, p, w, h => by
    rw [zpmo] at h
    cases hb : B[at_]? with
    | none => rw [hb] at h; cases h
    | some b =>
      rw [hb] at h
      dsimp only at h
      split at h
      · cases h
      · rename_i h1
        split at h
        · rename_i h2
          cases h
          have hb0 : 0 < b % 128 := by omega
          have := Nat.mul_pos hb0 (Nat.two_pow_pos sh)
          omega
        · exact zpmo_nz f _ _ _ p w h
theorem zpnu_nz {B : List Nat} {at_ p s v : Nat} (h : zpnu B at_ = .inr (p, s, v)) (hs : s = 1) : v ≠ 0 := by
  unfold zpnu at h
  cases hb : B[at_]? with
  | none => rw [hb] at h; cases h
  | some b =>
    rw [hb] at h
    dsimp only at h
    split at h
    · cases h
    · split at h
      · cases h; omega
      · cases hp : zpmo B B.length (at_ + 1) 6 (b % 64) with
        | inl e => rw [hp] at h; cases h
        | inr q =>
          obtain ⟨p2, v2⟩ := q
          rw [hp] at h
          cases h
          exact zpmo_nz _ _ _ _ _ _ hp
theorem zhd_ek {B : List Nat} {p par p' : Nat} {e : zNt} (hB : B.length ≤ 2000) (h8 : ∀ (i b : Nat), B[i]? = some b → b < 256) (h : zhd B p par = .inr (p', e)) : zEk e := by
  have hok := zhd_ok hB h
  unfold zhd at h
  cases hb : B[p]? with
  | none => rw [hb] at h; cases h
  | some k =>
    have hpl := (List.getElem?_eq_some_iff.mp hb).1
    rw [hb] at h
    dsimp only at h
    split at h
    · cases h
    · split at h
      · cases hp : zpnu B (p + 1) with
        | inl e => rw [hp] at h; cases h
        | inr q =>
          obtain ⟨p1, s, v⟩ := q
          rw [hp] at h
          obtain ⟨q1, q2, q3, q4⟩ := zpnu_ok hB hp
          have q5 := zpnu_nz hp
          cases h
          refine ⟨Nat.zero_le _, show s < 256 by omega, Nat.zero_le _, show p < 2000 by omega, fun _ => ⟨rfl, q3, ?_, ?_, ?_⟩, fun z => (nomatch (show (0 : Nat) = 1 from z)), fun z => (nomatch (show (0 : Nat) = 2 from z)), fun z => (nomatch (show (0 : Nat) = 3 from z))⟩
          · show v / 1152921504606846976 < 1152921504606846976; omega
          · show v % 1152921504606846976 < 1152921504606846976; omega
          · intro z
            have := q5 z
            show v / 1152921504606846976 * 1152921504606846976 + v % 1152921504606846976 ≠ 0
            omega
      · cases hc : B[p + 1]? with
        | none => rw [hc] at h; cases h
        | some c =>
          have hl := (List.getElem?_eq_some_iff.mp hc).1
          have hc8 := h8 _ _ hc
          have hk8 := h8 _ _ hb
          rw [hc] at h
          dsimp only at h
          split at h
          · split at h
            · cases h
            · cases hx : zptx B c 0 (p + 2) 0 with
              | inl e => rw [hx] at h; cases h
              | inr v =>
                rw [hx] at h
                have := zptx_bd c 0 (p + 2) 0 v hx (by omega) ⟨by decide, by decide, rfl, fun i hi => absurd hi (by omega)⟩
                rw [Nat.zero_add] at this
                cases h
                exact ⟨show 1 ≤ 3 by decide, hc8, Nat.zero_le _, show p < 2000 by omega, fun z => (nomatch (show (1 : Nat) = 0 from z)), fun _ => ⟨rfl, this⟩, fun z => (nomatch (show (1 : Nat) = 2 from z)), fun z => (nomatch (show (1 : Nat) = 3 from z))⟩
          · split at h
            · split at h
              · cases h
              · cases h
                exact ⟨show 2 ≤ 3 by decide, hc8, show c ≤ 40 by omega, show p < 2000 by omega, fun z => (nomatch (show (2 : Nat) = 0 from z)), fun z => (nomatch (show (2 : Nat) = 1 from z)), fun _ => rfl, fun z => (nomatch (show (2 : Nat) = 3 from z))⟩
            · cases h
              exact ⟨show 3 ≤ 3 by decide, hc8, show k - 4 ≤ 40 by omega, show p < 2000 by omega, fun z => (nomatch (show (3 : Nat) = 0 from z)), fun z => (nomatch (show (3 : Nat) = 1 from z)), fun z => (nomatch (show (3 : Nat) = 2 from z)), fun _ => show k - 4 ≤ 3 by omega⟩
theorem zpns_ek {pn : Nat → List zNt → Nat ⊕ (Nat × List zNt)} (IH : ∀ at_ N at2 N2, (∀ e ∈ N, zEk e) → pn at_ N = .inr (at2, N2) → ∀ e ∈ N2, zEk e) : ∀ (n at_ : Nat) (N : List zNt) (at2 : Nat) (N2 : List zNt), (∀ e ∈ N, zEk e) → zpns pn n at_ N = .inr (at2, N2) → ∀ e ∈ N2, zEk e
  | 0, at_, N, at2, N2, hN, h => by rw [zpns] at h; cases h; exact hN
  | n + 1, at_, N, at2, N2, hN, h => by
    rw [zpns] at h
    cases hp : pn at_ N with
    | inl x => rw [hp] at h; cases h
    | inr x =>
      obtain ⟨at3, N3⟩ := x
      rw [hp] at h
      exact zpns_ek IH n at3 N3 at2 N2 (IH _ _ _ _ hN hp) h
theorem zpn_ek {B : List Nat} (hB : B.length ≤ 2000) (h8 : ∀ (i b : Nat), B[i]? = some b → b < 256) : ∀ (f par at_ : Nat) (N : List zNt) (at2 : Nat) (N2 : List zNt), (∀ e ∈ N, zEk e) → zpn B f par at_ N = .inr (at2, N2) → ∀ e ∈ N2, zEk e
  | 0, par, at_, N, at2, N2, hN, h => by
    rw [zpn] at h
    split at h <;> cases h
  | f + 1, par, at_, N, at2, N2, hN, h => by
    rw [zpn_hd] at h
    cases hb : B[at_]? with
    | none => rw [hb] at h; cases h
    | some k =>
      rw [hb] at h
      dsimp only at h
      split at h
      · cases h
      · cases hx : zhd B at_ par with
        | inl x => rw [hx] at h; cases h
        | inr x =>
          obtain ⟨p', e⟩ := x
          rw [hx] at h
          refine zpns_ek (fun a N1 b N3 => zpn_ek hB h8 f N.length a N1 b N3) _ _ _ _ _ ?_ h
          intro e' he'
          rcases List.mem_append.mp he' with q | q
          · exact hN e' q
          · rw [List.mem_singleton.mp q]; exact zhd_ek hB h8 hx
/-- nodes that were read -/
def zNg (N : List zNt) : Prop := N.length ≤ 100 ∧ ∀ (i : Nat) (e : zNt), N[i]? = some e → zEk e
theorem zrd_ng {B : List Nat} {n : Nat} {N : List zNt} (hB : B.length ≤ 2000) (h8 : ∀ (i b : Nat), B[i]? = some b → b < 256) (h : zrd B n = .inr N) : zNg N ∧ zfuls N n 0 N.length := by
  unfold zrd at h
  cases hp : zpns (zpn B 9 4294967295) n 0 [] with
  | inl e => rw [hp] at h; cases h
  | inr q =>
    obtain ⟨p, N2⟩ := q
    rw [hp] at h
    dsimp only at h
    split at h
    · cases h
      obtain ⟨S, q0, q1, q2, q3, q4⟩ := zpns_ok (zpn_ok hB 9 4294967295) n 0 [] p N hp (Nat.zero_le _) (by decide)
      exact ⟨⟨q3, fun i e hi => zpns_ek (fun a N1 b N3 => zpn_ek hB h8 9 4294967295 a N1 b N3) _ _ _ _ _ (fun e he => by cases he) hp e (List.mem_of_getElem? hi)⟩, q4⟩
    · cases h
/-! the class reads types -/
/-- the heap grows, and nothing changes but the labels of S -/
def zCe (S : List Nat) (h h' : zH) (c s : Nat) : Prop := (∀ k e, k ∉ S → zown h k = some e → zown h' k = some e) ∧ h.1.length ≤ h'.1.length ∧ h'.2.1 ≤ h.2.1 + c ∧ h'.2.2 ≤ h.2.2 + s
theorem zCe_refl {S : List Nat} {h : zH} : zCe S h h 0 0 := ⟨fun _ _ _ q => q, Nat.le_refl _, Nat.le_refl _, Nat.le_refl _⟩
theorem zCe_ex {S : List Nat} {h h' : zH} {c s : Nat} (a : zEx h h' c s) : zCe S h h' c s := ⟨fun k e _ q => a.1 k e q, a.2⟩
theorem zCe_trans {S T U : List Nat} {h h1 h2 : zH} {c s c' s' : Nat} (a : zCe S h h1 c s) (b : zCe T h1 h2 c' s') (hS : ∀ k, k ∈ S → k ∈ U) (hT : ∀ k, k ∈ T → k ∈ U ∨ h.1.length + zK0 ≤ k) : zCe U h h2 (c + c') (s + s') := by
  refine ⟨fun k e hk q => ?_, Nat.le_trans a.2.1 b.2.1, by have := a.2.2.1; have := b.2.2.1; omega, by have := a.2.2.2; have := b.2.2.2; omega⟩
  refine b.1 k e (fun z => ?_) (a.1 k e (fun z => hk (hS k z)) q)
  rcases hT k z with z | z
  · exact hk z
  · have := zown_bd q; omega
theorem zCe_le {S : List Nat} {h h1 : zH} {c s c' s' : Nat} (a : zCe S h h1 c s) (hc : c ≤ c') (hs : s ≤ s') : zCe S h h1 c' s' := ⟨a.1, a.2.1, by have := a.2.2.1; omega, by have := a.2.2.2; omega⟩
theorem zCe_mono {S T : List Nat} {h h1 : zH} {c s : Nat} (a : zCe S h h1 c s) (hS : ∀ k, k ∈ S → k ∈ T) : zCe T h h1 c s := ⟨fun k e hk q => a.1 k e (fun z => hk (hS k z)) q, a.2⟩
theorem zCe_put {S : List Nat} {h : zH} {k : Nat} {e e0 : zE} (hk : zown h k = some e0) (hS : k ∈ S) : zCe S h (zput h k e) 0 0 := ⟨fun j ej hj q => by rw [zown_ne hk (fun z => hj (by rw [z]; exact hS))]; exact q, by rw [zput_ln]; exact Nat.le_refl _, Nat.le_refl _, Nat.le_refl _⟩
/-- the buffer, its bytes aside -/
def zB4 (h : zH) (w : Int32) : Prop := ∃ e p q, zown h 4 = some (.inr (1, [.ref 5, .ref 6, .int 0, .int w, .int e, .int p, .int q]))
/-- a checker -/
def zCk (h : zH) (ck : Nat) : Prop := ∃ x y, zown h ck = some (.inr (6, [.ref 4, .int x, .int y]))
section TYC2
variable {xs : List Value} {d : Nat} {h : zH} {Q : zO → zH → Prop} {a b c ck f i : Nat} {N : List zNt} {e : zNt}
theorem zc49t {x : Int32} (g : Q (.inl none) h) : zG xs d (49, 0, lv_args 0 [zo (some ck), .int 1, .int x], []) h Q := zm_49 ⟨fun z => absurd z (by decide), fun _ => g⟩
theorem zc49f {x w : Int32} (hd : 8 ≤ d) (hk : zCk h ck) (hb : zB4 h w) (g : ∀ h', zCe [4] h h' 1 6 → zB4 h' x → Q (.inr 2) h') : zG xs d (49, 0, lv_args 0 [zo (some ck), .int 0, .int x], []) h Q := by
  obtain ⟨y, z, hk⟩ := hk
  obtain ⟨e, p, q, h4⟩ := hb
  refine zm_49 ⟨fun _ => zX_gr hk rfl (zX_pf h4 (show 3 < 7 by decide) ⟨hd, g _ ?_ ?_⟩), fun z => absurd rfl z⟩
  · have := zCe_put (S := [4]) (e := .inr (1, [.ref 5, .ref 6, .int 0, .int x, .int e, .int p, .int q])) h4 (by decide)
    exact ⟨this.1, this.2.1, Nat.le_refl _, Nat.le_refl _⟩
  · exact ⟨e, p, q, zown_put h4⟩
/-- a node's row and its object -/
theorem zNd_at (hn : zNd h N (f + 1) i a) : ∃ (e : zNt) (ps : List Nat) (r pv : Nat), N[i]? = some e ∧ zown h a = some (.inr (4, [.int (nI (eF e)), .int (nI (if eS e = 3 then 4 else eS e)), .int (nI (if eS e = 3 then eC e else 0)), .ref r, .ref pv])) ∧ zown h r = some (.inl (6, ps.map Value.ref)) ∧ ps.length = eM e ∧ zful N i ∧ zfuls N (eM e) (i + 1) (znx N i) ∧ zVal h (zraw N (f + 1) i) (.inl pv) ∧ ∀ (k j p : Nat), (zchn N (eM e) (i + 1))[k]? = some j → ps[k]? = some p → zNd h N f j p := hn
theorem zNd_gF {K : Int32 → Prop} (hn : zNd h N f i a) (g : K (nI (zFp N i))) : zGI (some a) 4 0 h K := by
  cases f with
  | zero => exact hn.elim
  | succ f =>
    obtain ⟨e, ps, r, pv, he, ho, _⟩ := zNd_at hn
    refine zX_gi ho rfl ?_
    unfold zFp at g
    rw [he] at g
    exact g
theorem zNd_gS {K : Int32 → Prop} (hn : zNd h N f i a) (he : N[i]? = some e) (g : K (nI (if eS e = 3 then 4 else eS e))) : zGI (some a) 4 1 h K := by
  cases f with
  | zero => exact hn.elim
  | succ f =>
    obtain ⟨e', ps, r, pv, he', ho, _⟩ := zNd_at hn
    cases he.symm.trans he'
    exact zX_gi ho rfl g
theorem zNd_gC {K : Int32 → Prop} (hn : zNd h N f i a) (he : N[i]? = some e) (g : K (nI (if eS e = 3 then eC e else 0))) : zGI (some a) 4 2 h K := by
  cases f with
  | zero => exact hn.elim
  | succ f =>
    obtain ⟨e', ps, r, pv, he', ho, _⟩ := zNd_at hn
    cases he.symm.trans he'
    exact zX_gi ho rfl g
theorem zNd_gN {K : Int32 → Prop} (hn : zNd h N f i a) (he : N[i]? = some e) (g : K (nI (eM e))) : zGR (some a) 4 3 h fun x => zLN xs x h K := by
  cases f with
  | zero => exact hn.elim
  | succ f =>
    obtain ⟨e', ps, r, pv, he', ho, hr, hl, _⟩ := zNd_at hn
    cases he.symm.trans he'
    refine zX_gr ho rfl ⟨r, 6, _, rfl, zarr_own hr, by decide, ?_⟩
    rw [List.length_map, hl]
    exact g
/-- the child at place k of the node -/
def zkid (N : List zNt) (i k : Nat) : Nat := if k = 0 then i + 1 else znx N (i + 1)
theorem zchn_kid {m k : Nat} (hk : k < m) (h2 : k < 2) : (zchn N m (i + 1))[k]? = some (zkid N i k) := by
  obtain ⟨m, rfl⟩ : ∃ m', m = m' + 1 := ⟨m - 1, by omega⟩
  cases k with
  | zero => rfl
  | succ k =>
    obtain rfl : k = 0 := by omega
    obtain ⟨m, rfl⟩ : ∃ m', m = m' + 1 := ⟨m - 1, by omega⟩
    rfl
theorem zc46 {k : Nat} (hn : zNd h N (f + 1) i a) (he : N[i]? = some e) (hk : k < eM e) (h31 : eM e < 2 ^ 31) (g : ∀ p j, (zchn N (eM e) (i + 1))[k]? = some j → zNd h N f j p → Q (.inl (some (.ref p))) h) : zG xs d (46, 0, lv_args 0 [zo (some a), .int (nI k)], []) h Q := by
  obtain ⟨e', ps, r, pv, he', ho, hr, hl, _, _, _, hc⟩ := zNd_at hn
  cases he.symm.trans he'
  obtain ⟨p, hp⟩ : ∃ p, ps[k]? = some p := ⟨_, List.getElem?_eq_getElem (by omega)⟩
  obtain ⟨j, hj⟩ : ∃ j, (zchn N (eM e) (i + 1))[k]? = some j := ⟨_, List.getElem?_eq_getElem (by rw [zchn_len]; exact hk)⟩
  refine zm_46 ⟨fun z => absurd z (nI_pos (by omega)), fun z => zX_gr ho rfl ⟨r, 6, _, rfl, zarr_own hr, by decide, ?_⟩⟩
  rw [List.length_map, hl]
  have hv : ∀ K : zP → Prop, K (some p) → zAA (some r) (nI k) h K := fun K q => ⟨r, 6, _, some p, rfl, hr, by decide, z, by rw [nI_clamp (by omega), List.getElem?_map, hp]; rfl, q⟩
  refine ⟨fun _ => zX_gr ho rfl (hv _ ⟨fun z2 => (by cases z2), fun _ => zX_gr ho rfl (hv _ (g p j hj (hc k j p hj hp)))⟩), fun z2 => absurd (nI_lt hk (by omega)) z2⟩
theorem zc46k {k : Nat} (hn : zNd h N (f + 1) i a) (he : N[i]? = some e) (hk : k < eM e) (h2 : k < 2) (h31 : eM e < 2 ^ 31) (g : ∀ p, zNd h N f (zkid N i k) p → Q (.inl (some (.ref p))) h) : zG xs d (46, 0, lv_args 0 [zo (some a), .int (nI k)], []) h Q :=
  zc46 hn he hk h31 (fun p j hj hp => by
    rw [zchn_kid hk h2] at hj
    cases hj
    exact g p hp)
theorem zc46o {k : Nat} (hn : zNd h N (f + 1) i a) (he : N[i]? = some e) (hk : eM e ≤ k) (h31 : k < 2 ^ 31) (g : Q (.inl (some (.ref a))) h) : zG xs d (46, 0, lv_args 0 [zo (some a), .int (nI k)], []) h Q := by
  obtain ⟨e', ps, r, pv, he', ho, hr, hl, _, _, _, hc⟩ := zNd_at hn
  cases he.symm.trans he'
  refine zm_46 ⟨fun z => absurd z (nI_pos (by omega)), fun z => zX_gr ho rfl ⟨r, 6, _, rfl, zarr_own hr, by decide, ?_⟩⟩
  rw [List.length_map, hl]
  exact ⟨fun z2 => absurd ((nI_ltI (by omega) (by omega)).mp z2) (by omega), fun _ => g⟩
theorem zspt : zarr xs h 1 = some (0, ([0, 0, 0, 0, 0, 2, 1, 2, 1, 2, 2] : List Nat).map (fun n => Value.int (nI n))) := rfl
theorem zc48 (hN : zNg N) (hn : zNd h N f i a) (he : N[i]? = some e) (g : Q (.inl (some (.int (zB (zist e))))) h) : zG xs d (48, 0, lv_args 0 [zo (some a)], []) h Q := by
  obtain ⟨k1, k2, k3, k4, _⟩ := hN.2 i e he
  apply zm_48
  refine zNd_gS hn he ⟨fun z => ?_, fun z => ?_⟩
  · have h3 : eS e = 3 := by
      by_cases q : eS e = 3
      · exact q
      · rw [if_neg q] at z; exact absurd ((nI_eq (b := 4) (by omega) (by decide)).mp z) (by omega)
    refine zNd_gC hn he ?_
    rw [if_pos h3]
    refine ⟨fun z => absurd z (nI_pos (by omega)), fun _ => zNd_gC hn he ?_⟩
    rw [if_pos h3]
    refine ⟨1, 0, _, rfl, zspt, by decide, pk_lt (eC e) 11 (fun h11 => ?_) (fun h11 => ?_)⟩
    · refine zNd_gN hn he (zNd_gC hn he ?_)
      rw [if_pos h3]
      refine ⟨1, _, nI (ztp (eC e)), rfl, zspt, nI_pos (by omega), ?_, ?_⟩
      · rw [nI_clamp (by omega), List.getElem?_map]
        have : ∀ c, c < 11 → ([0, 0, 0, 0, 0, 2, 1, 2, 1, 2, 2] : List Nat)[c]? = some (ztp c) := by decide
        rw [this _ h11]; rfl
      · have h2 : ztp (eC e) < 2 ^ 31 := by
          have : ∀ c, c < 11 → ztp c < 3 := by decide
          have := this _ h11; omega
        refine pk_eq (eM e) (ztp (eC e)) (fun q => ⟨Or.inr rfl, ?_⟩) (fun q => ⟨Or.inl rfl, ?_⟩)
        · have : zist e = true := by unfold zist; rw [h3, ← q, decide_eq_true (show eC e ≤ 10 by omega)]; simp
          rw [this] at g; exact g
        · have : zist e = false := by unfold zist; rw [beq_false_of_ne q]; simp
          rw [this] at g; exact g
    · have : zist e = false := by unfold zist; rw [decide_eq_false (show ¬ eC e ≤ 10 by omega)]; simp
      rw [this] at g; exact ⟨Or.inl rfl, g⟩
  · have h3 : eS e ≠ 3 := fun q => z (by rw [if_pos q]; rfl)
    have : zist e = false := by unfold zist; rw [beq_false_of_ne h3]; rfl
    rw [this] at g; exact ⟨Or.inl rfl, g⟩
theorem zc51 (hN : zNg N) (hn : zNd h N f i a) (he : N[i]? = some e) (g : Q (.inl (some (.int (nI (if eS e = 2 then eM e else 0))))) h) : zG xs d (51, 0, lv_args 0 [zo (some a)], []) h Q := by
  obtain ⟨k1, k2, k3, k4, _⟩ := hN.2 i e he
  apply zm_51
  refine zNd_gS hn he (pk_eq (if eS e = 3 then 4 else eS e) 2 (fun z => ?_) (fun z => ?_) rfl rfl (by split <;> omega))
  · have : eS e = 2 := by split at z <;> omega
    rw [if_pos this] at g
    exact zNd_gN hn he g
  · have : eS e ≠ 2 := by intro q; rw [q] at z; exact z rfl
    rw [if_neg this] at g
    exact g
end TYC2
section TY47
variable {xs : List Value} {N : List zNt}
theorem zB4_ex {h h' : zH} {c s : Nat} {w : Int32} (hb : zB4 h w) (e : zEx h h' c s) : zB4 h' w := by
  obtain ⟨x, p, q, h4⟩ := hb
  exact ⟨x, p, q, e.1 _ _ h4⟩
theorem zCk_ex {h h' : zH} {c s ck : Nat} (hb : zCk h ck) (e : zEx h h' c s) : zCk h' ck := by
  obtain ⟨x, y, h4⟩ := hb
  exact ⟨x, y, e.1 _ _ h4⟩
theorem zNd_ex {h h' : zH} {c s f i a : Nat} (hb : zNd h N f i a) (e : zEx h h' c s) : zNd h' N f i a := zNd_fr (fun k e' q _ => e.1 k e' q) f i a hb
theorem zTyp_ex {h h' : zH} {c s a : Nat} {T : Term} (hb : zTyp h T a) (e : zEx h h' c s) : zTyp h' T a := zTyp_fr (fun k fs q => e.1 k _ q) T a hb
theorem zfuls_1 {i j : Nat} (h : zfuls N 1 i j) : zful N i ∧ znx N i = j := ⟨h.1, h.2⟩
theorem zfuls_2 {i j : Nat} (h : zfuls N 2 i j) : zful N i ∧ zful N (znx N i) ∧ znx N (znx N i) = j := ⟨h.1, h.2.1, h.2.2⟩
theorem zc47 (hN : zNg N) {ck : Nat} : ∀ (f i a wh D : Nat) (h : zH) (Q : zO → zH → Prop) (w : Int32), zNd h N f i a → 12 + f ≤ D → wh ≤ 2 → zCk h ck → zB4 h w →
    (∀ x, zTy N i wh = .inl x → ∀ h', zCe [4] h h' (znx N i - i + 1) (5 * (znx N i - i) + 6) → zB4 h' (nI x) → Q (.inr 2) h') →
    (∀ T, zTy N i wh = .inr T → ∀ h' b, zEx h h' (znx N i - i) (5 * (znx N i - i)) → zTyp h' T b → Q (.inl (some (.ref b))) h') → zG xs D (47, 0, lv_args 0 [zo (some ck), zo (some a), .int (nI wh)], []) h Q
  | 0, i, a, wh, D, h, Q, w, hn, _, _, _, _, _, _ => hn.elim
  | f + 1, i, a, wh, D, h, Q, w, hn, hD, hwh, hck, hb4, k0, k1 => by
    obtain ⟨e, ps, r, pv, he, ho, hr, hl, hfu, hfus, hval, hch⟩ := zNd_at hn
    obtain ⟨n1, n2, n3, n4, _⟩ := hN.2 i e he
    have hfl := zful_lt hfu
    obtain ⟨d, rfl⟩ : ∃ d, D = d + 2 := ⟨D - 2, by omega⟩
    have hFp : zFp N i = eF e := by unfold zFp; rw [he]
    have spec := zTy_eq hN.1 i wh
    unfold ztyB at spec
    rw [he] at spec
    dsimp only at spec
    obtain ⟨cx, cy, hcko⟩ := hck
    have hck : zCk h ck := ⟨cx, cy, hcko⟩
    -- the end: the type is made
    have last : ∀ (h1 : zH) (p q : zP) (T : Term) (m : Nat), zTm h1 (eC e) p q T → zEx h h1 m (5 * m) → m + 1 ≤ znx N i - i → ztdep T < 2 ^ 30 → zTy N i wh = zt7 (eF e) T → eS e = 3 → zw_47_138 xs (d + 2) Q (some ck) (some a) p q h1 := by
      intro h1 p q T m hm x1 hm2 hd hz hS
      obtain ⟨cx1, cy1, hck1⟩ := zCk_ex hck x1
      refine zNO_i (zNd_gC (zNd_ex (zNd_ex hn x1) zEx_add) he ?_)
      rw [if_pos hS]
      refine zc50 hm hd ?_
      have x2 := zEx_trans x1 (zEx_add (h := h1) (e := .inr (7, [.int (nI (eC e)), zo p, zo q, .int (nI (ztdep T)), .int (zB (ztsim T))])) (n := 5))
      have t2 := zTm_typ (n := 5) hm
      generalize hh2 : zadd h1 (.inr (7, [.int (nI (eC e)), zo p, zo q, .int (nI (ztdep T)), .int (zB (ztsim T))])) 5 = h2 at x2 t2
      refine zTyp_gd t2 (pk_lt 7 (ztdep T) (fun z => ?_) (fun z => ?_))
      · refine zNd_gF (zNd_ex hn x2) (zX_cv (x2.1 _ _ hcko) (zc49f (w := w) (by omega) (zCk_ex hck x2) (zB4_ex hb4 x2) (fun h' c' b' => ?_)))
        refine k0 (eF e) (by rw [hz]; exact if_neg (by omega)) h' (zCe_le (zCe_trans (zCe_ex (S := [4]) x2) c' (fun _ z => z) (fun _ z => Or.inl z)) (by omega) (by omega)) ?_
        rw [hFp] at b'
        exact b'
      · refine zNd_gF (zNd_ex hn x2) (zX_cv (x2.1 _ _ hcko) (zc49t ?_))
        exact k1 T (by rw [hz]; exact if_pos z) h2 _ (zEx_le x2 (by omega) (by omega)) t2
    refine zm_47 (zX_cv ho (zc48 hN hn he ?_))
    -- refused at once
    have no : ¬ (zist e = true ∧ (eC e ≠ 10 ∨ wh = 2)) → zw_47_26 xs (d + 2) Q (some ck) (some a) (nI wh) (some ck) h := by
      intro hz
      rw [if_neg hz] at spec
      refine zNd_gF hn (zX_cv hcko (zc49f (w := w) (by omega) hck hb4 (fun h' c' b' => ?_)))
      rw [hFp] at b'
      exact k0 (eF e) spec h' (zCe_le c' (by omega) (by omega)) b'
    have yes : zist e = true → (eC e ≠ 10 ∨ wh = 2) → zw_47_22 xs (d + 2) Q (some ck) (some a) (nI wh) (some ck) h := by
      intro hz hz2
      rw [if_pos ⟨hz, hz2⟩] at spec
      obtain ⟨i1, i2, i3⟩ := zist_ok hz
      refine zNd_gF hn (zX_cv hcko (zc49t ?_))
      refine zNd_gN hn he (pk_lt 0 (eM e) (fun hm0 => ?_) (fun hm0 => ?_))
      · -- the first part
        rw [if_neg (by omega)] at spec
        refine zX_cv ho (zc46k (k := 0) hn he hm0 (by decide) (by omega) (fun p hp => ?_))
        have hkid0 : zkid N i 0 = i + 1 := rfl
        have hf1 : znx N (i + 1) ≤ znx N i ∧ i + 1 < znx N (i + 1) := by
          by_cases h1 : eM e = 1
          · rw [h1] at hfus
            obtain ⟨q1, q2⟩ := zfuls_1 hfus
            have := zful_lt q1; omega
          · have h2 := (ztp_2 i2 i3 (by omega) h1).1
            rw [h2] at hfus
            obtain ⟨q1, q2, q3⟩ := zfuls_2 hfus
            have := zful_lt q1; have := zful_lt q2; omega
        have sec : ∀ (h1 : zH) (b : Nat) (A : Term), zTy N (i + 1) (if wh = 1 ∧ eC e = 5 then 2 else 0) = .inr A → ¬ (ztsim A = false ∧ (eC e = 9 ∨ eC e = 10)) → zEx h h1 (znx N (i + 1) - (i + 1)) (5 * (znx N (i + 1) - (i + 1))) → zTyp h1 A b → zw_47_117 xs (d + 2) Q (some ck) (some a) (some b) none h1 := by
          intro h1 b A hA hs x1 t1
          rw [hA] at spec
          dsimp only at spec
          rw [if_neg hs] at spec
          obtain ⟨A1, A2, _⟩ := zTy_ok hN.1 N.length _ _ A (by omega) hA
          refine zNd_gN (zNd_ex hn x1) he (pk_lt 1 (eM e) (fun hm1 => ?_) (fun hm1 => ?_))
          · rw [if_neg (by omega)] at spec
            have h2 := (ztp_2 i2 i3 (by omega) (by omega))
            rw [h2.1] at hfus
            obtain ⟨q1, q2, q3⟩ := zfuls_2 hfus
            have q4 := zful_lt q2
            refine zX_cv (x1.1 _ _ ho) (zc46k (k := 1) (zNd_ex hn x1) he hm1 (by decide) (by omega) (fun p2 hp2 => ?_))
            have hkid1 : zkid N i 1 = znx N (i + 1) := rfl
            rw [hkid1] at hp2
            refine zX_cv (x1.1 _ _ hcko) (zc47 hN f (znx N (i + 1)) p2 0 (d + 1) h1 _ w hp2 (by omega) (by decide) (zCk_ex hck x1) (zB4_ex hb4 x1) ?_ ?_)
            · intro x hx h' c' b'
              rw [hx] at spec
              exact k0 x spec h' (zCe_le (zCe_trans (zCe_ex (S := [4]) x1) c' (fun _ z => z) (fun _ z => Or.inl z)) (by omega) (by omega)) b'
            · intro T hT h' b2 x2 t2
              rw [hT] at spec
              dsimp only at spec
              obtain ⟨B1, B2, _⟩ := zTy_ok hN.1 N.length _ _ T (by omega) hT
              have x12 := zEx_trans x1 x2
              refine zKR_v (last h' (some b) (some b2) (.add (.div (.arg (eC e)) A) T) (znx N i - i - 1) (Or.inr (Or.inr ⟨b, A, b2, T, rfl, rfl, rfl, h2.2, zTyp_ex t1 x2, t2⟩)) (zEx_le x12 (by omega) (by omega)) (by omega) ?_ spec i1)
              have : ztdep (.add (.div (.arg (eC e)) A) T) = 1 + max (ztdep A) (ztdep T) := rfl
              omega
          · have hm2 : eM e = 1 := by omega
            rw [if_pos hm2] at spec
            refine last h1 (some b) none (.div (.arg (eC e)) A) (znx N i - i - 1) (Or.inr (Or.inl ⟨b, A, rfl, rfl, rfl, ztp_1 i2 (by omega), t1⟩)) (zEx_le x1 (by omega) (by omega)) (by omega) ?_ spec i1
            have : ztdep (.div (.arg (eC e)) A) = 1 + ztdep A := rfl
            omega
        have fst : ∀ v : Nat, v ≤ 2 → v = (if wh = 1 ∧ eC e = 5 then 2 else 0) → zw_47_71 xs (d + 2) Q (some ck) (some a) none (nI v) (some p) (some ck) h := by
          intro v hv2 hv
          refine zX_cv hcko (zc47 hN f (i + 1) p v (d + 1) h _ w hp (by omega) hv2 hck hb4 ?_ ?_)
          · intro x hx h' c' b'
            rw [← hv, hx] at spec
            exact k0 x spec h' (zCe_le c' (by omega) (by omega)) b'
          · intro T hT h' b x1 t1
            rw [hv] at hT
            have c106 : ∀ (s : Bool), s = !(decide (ztsim T = false ∧ (eC e = 9 ∨ eC e = 10))) → zw_47_106 xs (d + 2) Q (some ck) (some a) (some b) none (zB s) (some ck) h' := by
              intro s hs
              refine zX_cv (x1.1 _ _ ho) (zc46k (k := 0) (zNd_ex hn x1) he hm0 (by decide) (by omega) (fun p' hp' => ?_))
              rw [hkid0] at hp'
              refine zKR_v (zNd_gF hp' ?_)
              cases s with
              | true =>
                have hs : ¬ (ztsim T = false ∧ (eC e = 9 ∨ eC e = 10)) := fun q => by rw [decide_eq_true q] at hs; cases hs
                exact zX_cv (x1.1 _ _ hcko) (zc49t (sec h' b T hT hs x1 t1))
              | false =>
                have hs : (ztsim T = false ∧ (eC e = 9 ∨ eC e = 10)) := by
                  by_cases q : (ztsim T = false ∧ (eC e = 9 ∨ eC e = 10))
                  · exact q
                  · rw [decide_eq_false q] at hs; cases hs
                refine zX_cv (x1.1 _ _ hcko) (zc49f (w := w) (by omega) (zCk_ex hck x1) (zB4_ex hb4 x1) (fun h2 c' b' => ?_))
                rw [hT] at spec
                dsimp only at spec
                rw [if_pos hs] at spec
                exact k0 _ spec h2 (zCe_le (zCe_trans (zCe_ex (S := [4]) x1) c' (fun _ z => z) (fun _ z => Or.inl z)) (by omega) (by omega)) b'
            refine zKR_v (zTyp_gs t1 ⟨fun z => ?_, fun z => ?_⟩)
            · have hs0 := zB_0.mp z
              refine zNd_gC (zNd_ex hn x1) he ?_
              rw [if_pos i1]
              refine pk_eq (eC e) 9 (fun h9 => c106 false (by rw [hs0, h9]; rfl)) (fun h9 => zNd_gC (zNd_ex hn x1) he ?_)
              rw [if_pos i1]
              refine pk_eq (eC e) 10 (fun h10 => c106 false (by rw [hs0, h10]; rfl)) (fun h10 => c106 true ?_)
              rw [decide_eq_false (by omega)]; rfl
            · have hs1 : ztsim T = true := by cases hq : ztsim T; exact absurd (by rw [hq]; rfl) z; rfl
              exact c106 true (by rw [hs1]; rfl)
        refine zKR_v (pk_eq wh 1 (fun h1 => zNd_gC hn he ?_) (fun h1 => fst 0 (by decide) (by rw [if_neg (by omega)])))
        rw [if_pos i1]
        exact pk_eq (eC e) 5 (fun h5 => fst 2 (by decide) (by rw [if_pos ⟨h1, h5⟩])) (fun h5 => fst 0 (by decide) (by rw [if_neg (by omega)]))
      · have hm : eM e = 0 := by omega
        rw [if_pos hm] at spec
        refine zNd_gN hn he ⟨fun z => absurd z (by rw [hm]; decide), fun _ => ?_⟩
        refine last h none none (.arg (eC e)) 0 (Or.inl ⟨rfl, rfl, rfl, ztp_0 i2 (by omega)⟩) (zEx_refl h) (by omega) (show 1 < 2 ^ 30 by decide) ?_ i1
        rw [spec]; exact (if_pos (show 1 ≤ 7 by decide)).symm
    refine zKI_v ⟨fun z => no (fun q => ?_), fun z => ?_⟩
    · rw [zB_0.mp z] at q; exact absurd q.1 (by decide)
    · have hz1 : zist e = true := by cases hq : zist e; exact absurd (by rw [hq]; rfl) z; rfl
      have i1 := (zist_ok hz1).1
      refine zNd_gC hn he ?_
      rw [if_pos i1]
      refine pk_eq (eC e) 10 (fun h10 => pk_eq wh 2 (fun h2 => yes hz1 (Or.inr h2)) (fun h2 => no (fun q => ?_))) (fun h10 => yes hz1 (Or.inl h10))
      rcases q.2 with q | q
      · exact q h10
      · exact h2 q
end TY47
