/-! the reference at work: its state -/
def zCr (ce : List (Nat × Nat × Nat)) (lo : List (Nat × Nat)) (x : Int32) (V : Term) : Prop := ∃ c : Nat, x = nI c ∧ zRc ce lo V (.inl c)
def zwkS : List Nat := [10, 19, 20, 25, 26, 27, 28, 29, 30, 31, 32, 33, 34, 35, 36, 38, 39, 41, 42, 43, 48, 52]
def zwkT : List Nat := [21, 27, 28, 49, 51, 59, 65, 66]
def zFw (M : Nat → zE) : Prop := ∀ q, q ∈ ([38, 39, 41, 42, 43] : List Nat) → ∃ L : List Int32, M q = zAi L ∧ L.length = 12
def zPd (M : Nat → zE) (ce : List (Nat × Nat × Nat)) (lo : List (Nat × Nat)) (N : List zNt) (pd : List Int32) : Prop := M 52 = zAi pd ∧ pd.length = 100 ∧ ∀ j x, pd[j]? = some x → x = -1 ∨ zCr ce lo x (zpcn N j)
def zWS (N : List zNt) (M0 M : Nat → zE) (F0 F : Nat → Value) (Ts vs : List Term) (most : Nat) (pd : List Int32) (p : Nat) (ce : List (Nat × Nat × Nat)) (lo : List (Nat × Nat)) : Prop := zPo M F ce lo ∧ zSm zwkS M0 M ∧ zSm zwkT F0 F ∧ zTbl M F Ts ∧ zSt M F (zCr ce lo) vs 0 most ∧ most ≤ 16 ∧ F 59 = .int (nI p) ∧ zSc4 M ∧ zFw M ∧ zPd M ce lo N pd
def zWC (N : List zNt) (fr bits bound : Nat) (M0 : Nat → zE) (F0 : Nat → Value) : Prop := zNr M0 F0 N fr ∧ zNx M0 N ∧ zGd N ∧ F0 6 = .int (nI fr) ∧ fr ≤ 8660 ∧ F0 58 = .int (nI bits) ∧ F0 60 = .int (nI bound)
/-- how much room the PUSHs that were not done yet may take -/
def zwt (N : List zNt) (j : Nat) : Nat := match N[j]? with
  | some e => if eC e = 34 then znx N j - j else 0
  | none => 0
def zpw (N : List zNt) (A : List Nat) (pd : List Int32) : Nat := (A.map fun j => if pd[j]? = some (-1) then zwt N j else 0).sum
def zfrs : List Nat := [38, 39, 41, 42, 43]
section RW1
variable {xs : List Value} {d : Nat} {h : zH} {N : List zNt} {M0 M M' : Nat → zE} {F0 F F' : Nat → Value} {Q : zO → zH → Prop} {ce ce' X : List (Nat × Nat × Nat)} {lo lo' Y : List (Nat × Nat)} {Ts Ts' vs : List Term} {pd : List Int32} {most p fr bits bound k a b C : Nat} {x : Int32} {V : Term} {A : List Nat} {E : Nat → zH → Prop}
theorem zCr_app (hx : zCr ce lo x V) : zCr (ce ++ X) (lo ++ Y) x V := by
  obtain ⟨c, h1, h2⟩ := hx
  exact ⟨c, h1, zRc_app V _ h2⟩
theorem zFw_sm {S : List Nat} (hf : zFw M) (hM : zSm S M M') (hS : (S.all fun q => !([38, 39, 41, 42, 43, 48, 52].contains q)) = true) : zFw M' := fun q hq => by
  obtain ⟨L, h1, h2⟩ := hf q hq
  refine ⟨L, (hM q (fun z => ?_)).trans h1, h2⟩
  have := List.all_eq_true.mp hS q z
  have all : ∀ q ∈ ([38, 39, 41, 42, 43] : List Nat), ([38, 39, 41, 42, 43, 48, 52] : List Nat).contains q = true := by decide
  rw [all q hq] at this
  cases this
theorem zWS_up {S T : List Nat} (hk : zWS N M0 M F0 F Ts vs most pd p ce lo) (hM : zSm S M M') (hF : zSm T F F') (hp : zPo M' F' ce' lo') (ht : zTbl M' F' Ts') (hx : ∀ x V, zCr ce lo x V → zCr ce' lo' x V) (hsc : zSc4 M') (hS : (S.all fun q => zwkS.contains q && !([38, 39, 41, 42, 43, 48, 52].contains q)) = true) (hT : (T.all fun q => zwkT.contains q && !([49, 50, 51, 59].contains q)) = true) : zWS N M0 M' F0 F' Ts' vs most pd p ce' lo' := by
  obtain ⟨a1, a2, a3, a4, a5, a6, a7, a8, a9, a10, a11, a12⟩ := hk
  have s1 : ∀ k, k ∈ S → k ∈ zwkS ∧ ([38, 39, 41, 42, 43, 48, 52] : List Nat).contains k = false := fun k hk => by
    have := List.all_eq_true.mp hS k hk
    simp only [Bool.and_eq_true, Bool.not_eq_true'] at this
    exact ⟨List.contains_iff_mem.mp this.1, this.2⟩
  have t1 : ∀ k, k ∈ T → k ∈ zwkT ∧ ([49, 50, 51, 59] : List Nat).contains k = false := fun k hk => by
    have := List.all_eq_true.mp hT k hk
    simp only [Bool.and_eq_true, Bool.not_eq_true'] at this
    exact ⟨List.contains_iff_mem.mp this.1, this.2⟩
  have nS : ∀ k, k ∈ ([38, 39, 41, 42, 43, 48, 52] : List Nat) → S.contains k = false := fun k hk => by
    cases hc : S.contains k with
    | false => rfl
    | true => have := (s1 k (List.contains_iff_mem.mp hc)).2; rw [List.contains_iff_mem.mpr hk] at this; cases this
  have nT : ∀ k, k ∈ ([49, 50, 51, 59] : List Nat) → T.contains k = false := fun k hk => by
    cases hc : T.contains k with
    | false => rfl
    | true => have := (t1 k (List.contains_iff_mem.mp hc)).2; rw [List.contains_iff_mem.mpr hk] at this; cases this
  refine ⟨hp, zSm_trans a2 hM (fun _ z => z) (fun k z => (s1 k z).1), zSm_trans a3 hF (fun _ z => z) (fun k z => (t1 k z).1), ht, zSt_P (zSt_sm a5 hM hF (nS 48 (by decide)) ?_) hx, a6, ?_, hsc, zFw_sm a9 hM ?_, ?_, a11, fun j x hj => ?_⟩
  · simp only [List.all_cons, List.all_nil, Bool.and_true, nT 49 (by decide), nT 50 (by decide), nT 51 (by decide)]
    rfl
  · rw [hF 59 (fun z => by have := nT 59 (by decide); rw [List.contains_iff_mem.mpr z] at this; cases this)]
    exact a7
  · exact List.all_eq_true.mpr (fun k hk => by rw [(s1 k hk).2]; rfl)
  · rw [hM 52 (fun z => by have := nS 52 (by decide); rw [List.contains_iff_mem.mpr z] at this; cases this)]
    exact a10
  · rcases a12 j x hj with z | z
    · exact Or.inl z
    · exact Or.inr (hx _ _ z)
/-- what a plain instruction's value wants -/
def zDo (Q : zO → zH → Prop) (h : zH) (N : List zNt) (M0 M : Nat → zE) (F0 : Nat → Value) (Ts vs : List Term) (most : Nat) (pd : List Int32) (p : Nat) (ce : List (Nat × Nat × Nat)) (lo : List (Nat × Nat)) (A : List Nat) (C : Nat) (V : Term) : Prop := ∀ (M' : Nat → zE) (F' : Nat → Value) (Ts' : List Term) (pd' : List Int32) (X : List (Nat × Nat × Nat)) (Y : List (Nat × Nat)) (c : Nat), zWS N M0 M' F0 F' Ts' vs most pd' p (ce ++ X) (lo ++ Y) → zRc (ce ++ X) (lo ++ Y) V (.inl c) → X.length + 2 * zpw N A pd' ≤ 4 * C + 2 * zpw N A pd → Y.length + zpw N A pd' ≤ 2 * C + zpw N A pd → Ts'.length + zpw N A pd' ≤ Ts.length + zpw N A pd → (∀ q, q ∈ zfrs → M' q = M q) → Q (.inl (some (.int (nI c)))) (zov h M')
theorem zfr_sm {S : List Nat} (hM : zSm S M M') (hS : (S.all fun q => !(zfrs.contains q)) = true) : ∀ q, q ∈ zfrs → M' q = M q := fun q hq => hM q (fun z => by
  have := List.all_eq_true.mp hS q z
  rw [List.contains_iff_mem.mpr hq] at this
  cases this)
theorem zDo_mv (g : zDo Q h N M0 M F0 Ts vs most pd p ce lo A C V) (hM : ∀ q, q ∈ zfrs → M' q = M q) : zDo Q h N M0 M' F0 Ts vs most pd p ce lo A C V := fun M2 F2 Ts2 pd2 X Y c a1 a2 a3 a4 a5 a6 => g M2 F2 Ts2 pd2 X Y c a1 a2 a3 a4 a5 (fun q hq => (a6 q hq).trans (hM q hq))
theorem zDo_0 {c : Nat} (hs : zWS N M0 M F0 F Ts vs most pd p ce lo) (hc : zRc ce lo V (.inl c)) (g : zDo Q h N M0 M F0 Ts vs most pd p ce lo A C V) : Q (.inl (some (.int (nI c)))) (zov h M) :=
  g M F Ts pd [] [] c (by rw [List.append_nil, List.append_nil]; exact hs) (by rw [List.append_nil, List.append_nil]; exact hc) (by simp) (by simp) (Nat.le_refl _) (fun _ _ => rfl)
theorem zWS_4 (hs : zWS N M0 M F0 F Ts vs most pd p ce lo) : zSc4 M := hs.2.2.2.2.2.2.2.1
theorem zWS_t (hs : zWS N M0 M F0 F Ts vs most pd p ce lo) : zTbl M F Ts := hs.2.2.2.1
/-- one cell more -/
theorem zdo_c (hl : 50 ≤ h.1.length) (hs : zWS N M0 M F0 F Ts vs most pd p ce lo) (hC : 1 ≤ C) (hce : ce.length < 1400) (hk : k < 128) (ha : a < 32768) (hb : b < 32768) (g : zDo Q h N M0 M F0 Ts vs most pd p ce lo A C V) (hv : zRc (ce ++ [(k, a, b)]) lo V (.inl ce.length)) : zCV xs (d + 1) 187 12 (some 10) [.int (nI k), .int (nI a), .int (nI b)] (zov h M) (zKI (fun x h2 => Q (.inl (some (.int x))) h2) E) := by
  refine zM_cv hl hs.1.1 (zc187 hl hs.1 hce hk ha hb (fun M' F' p1 s1 s2 => zKI_v ?_))
  refine g M' F' Ts pd [(k, a, b)] [] ce.length ?_ (by rw [List.append_nil]; exact hv) (by rw [List.length_singleton]; omega) (by rw [List.length_nil]; omega) (Nat.le_refl _) (zfr_sm s1 (by decide))
  refine zWS_up hs s1 s2 (by rw [List.append_nil]; exact p1) (zTbl_sm (zWS_t hs) s1 (s2 21 (by decide)) (by decide)) (fun x V => zCr_app) (zSc4_sm (zWS_4 hs) s1 (by decide)) (by decide) (by decide)
theorem zget_new {α : Type} {l : List α} {x : α} : (l ++ [x])[l.length]? = some x := by rw [List.getElem?_append_right (Nat.le_refl _), Nat.sub_self]; rfl
theorem zRc_up1 {x : Nat × Nat × Nat} {y : Nat ⊕ (Nat × Nat)} (hv : zRc ce lo V y) : zRc (ce ++ [x]) lo V y := by
  have := zRc_app (ce' := [x]) (lo' := []) V y hv
  rw [List.append_nil] at this
  exact this
/-- a truth -/
theorem zdo_t {t : Bool} (hl : 50 ≤ h.1.length) (hs : zWS N M0 M F0 F Ts vs most pd p ce lo) (hC : 1 ≤ C) (hce : ce.length < 1400) (g : zDo Q h N M0 M F0 Ts vs most pd p ce lo A C (ztr t)) : zCV xs (d + 2) 188 12 (some 10) [.int (zB t)] (zov h M) (zKI (fun x h2 => Q (.inl (some (.int x))) h2) E) := by
  refine zM_cv hl hs.1.1 (zc188 hl hs.1 hce (fun M' F' p1 s1 s2 => zKI_v ?_))
  refine g M' F' Ts pd [(if t = true then 2 else 1, 0, 0)] [] ce.length ?_ ?_ (by rw [List.length_singleton]; omega) (by rw [List.length_nil]; omega) (Nat.le_refl _) (zfr_sm s1 (by decide))
  · refine zWS_up hs s1 s2 (by rw [List.append_nil]; exact p1) (zTbl_sm (zWS_t hs) s1 (s2 21 (by decide)) (by decide)) (fun x V => zCr_app) (zSc4_sm (zWS_4 hs) s1 (by decide)) (by decide) (by decide)
  · rw [List.append_nil]
    cases t
    · exact ⟨0, 0, zget_new⟩
    · exact ⟨0, 0, zget_new⟩
/-- a number -/
theorem zdo_n {s : Bool} {n : Nat} (hl : 50 ≤ h.1.length) (hs : zWS N M0 M F0 F Ts vs most pd p ce lo) (hC : 1 ≤ C) (hce : ce.length < 1400) (hlo : lo.length < 600) (hn : n < 2 ^ 120) (g : zDo Q h N M0 M F0 Ts vs most pd p ce lo A C (zmn (s && n != 0) n)) : zCV xs (d + 3) 189 12 (some 10) [.long (lN (n / 1152921504606846976)), .long (lN (n % 1152921504606846976)), .int (zB s)] (zov h M) (zKI (fun x h2 => Q (.inl (some (.int x))) h2) E) := by
  have h122 : n < 2 ^ 122 := Nat.lt_of_lt_of_le hn (by decide)
  refine zM_cv hl hs.1.1 (zc189 hl hs.1 hce hlo h122 (fun M' F' ce' lo' p1 l1 l2 n1 s1 s2 => zKI_v ?_))
  refine g M' F' Ts pd ce' lo' ce.length ?_ ?_ (by omega) (by omega) (Nat.le_refl _) (zfr_sm s1 (by decide))
  · exact zWS_up hs s1 s2 p1 (zTbl_sm (zWS_t hs) s1 (s2 21 (by decide)) (by decide)) (fun x V => zCr_app) (zSc4_sm (zWS_4 hs) s1 (by decide)) (by decide) (by decide)
  · cases hq : (s && n != 0) with
    | false =>
      rw [hq] at n1
      exact ⟨n1, hn, Or.inl rfl⟩
    | true =>
      rw [hq] at n1
      simp at hq
      exact ⟨n1, hn, Or.inr ⟨rfl, hq.2⟩⟩
theorem zgo_t {U v : Term} (ht : zTok U) (hv : zVt U v) : zgo v = 0 := by
  have h10 := zTok_c ht
  rcases (by omega : ztc U = 0 ∨ ztc U = 1 ∨ (ztc U = 2 ∨ ztc U = 3) ∨ ztc U = 4 ∨ ztc U = 5 ∨ ztc U = 6 ∨ ztc U = 7 ∨ ztc U = 8 ∨ ztc U = 9 ∨ ztc U = 10) with c | c | c | c | c | c | c | c | c | c
  · rw [zVt_unit ht c hv]; rfl
  · rcases zVt_bool ht c hv with rfl | rfl <;> rfl
  · obtain ⟨s, n, rfl, _⟩ := zVt_num ht c hv; rfl
  · obtain ⟨k, w, rfl, _⟩ := zVt_text ht c hv; rfl
  · obtain ⟨a, b, rfl, _⟩ := zVt_pair ht c hv; rfl
  · rcases zVt_opt ht c hv with rfl | ⟨v, rfl, _⟩ <;> rfl
  · rcases zVt_or ht c hv with ⟨v, rfl, _⟩ | ⟨v, rfl, _⟩ <;> rfl
  · obtain ⟨L, rfl, _⟩ := zVt_list ht c hv; rfl
  · obtain ⟨L, rfl, _⟩ := zVt_map ht c hv; rfl
  · obtain ⟨L, rfl, _⟩ := zVt_big ht c hv; rfl
/-- update of a BIG -/
theorem zc216b {l key opt : Term} {c o : Nat} (hl : 50 ≤ h.1.length) (hp : zPo M F ce lo) (hc : ce.length + 2 ≤ 1400) (hb : zRc ce lo key (.inl b)) (ho : zOc ce lo opt o) (hr : zRc ce lo l (.inr (c, 14))) (hle : ∃ L, l = zenc L)
    (q : ∀ M' F' X, zPo M' F' (ce ++ X) lo → X.length = 2 → zRc (ce ++ X) lo (zud key opt (.sum l)) (.inl (ce.length + 1)) → zSm [10, 30, 31, 32] M M' → zSm [27] F F' → Q (.inl (some (.int (nI (ce.length + 1))))) (zov h M')) : zG xs (d + 2) (216, 0, lv_args 0 [zo (some 10), .int (nI c), .int (nI b), .int (nI o)], []) (zov h M) Q := by
  have hbl := zRc_lt _ _ hb b (Or.inl rfl)
  have h14 := hp.2.2.2.2.1
  have hmk : ∃ w ma mb, ce[c]? = some (w, ma, mb) ∧ 14 ≤ w ∧ w < 100 := by
    obtain ⟨L, rfl⟩ := hle
    cases L with
    | nil => obtain ⟨a, b, h1⟩ := hr; exact ⟨14, a, b, h1, by decide, by decide⟩
    | cons e es =>
      obtain ⟨hd, bd, h1, _⟩ := hr
      have := zgo_le e
      exact ⟨_, hd, bd, h1, by omega, by omega⟩
  obtain ⟨w, ma, mb, hm, hw, hw2⟩ := hmk
  have hcl := (List.getElem?_eq_some_iff.mp hm).1
  refine zm_216 (fun _ _ _ _ _ _ _ _ _ _ => False) (fun _ _ _ _ _ _ _ _ _ _ z => z.elim) ?_
  refine zup0 (d := d + 1) hl hp (by omega) hbl ho hm hw2 (fun goes hv M' F' hg hv14 p1 s1 s2 => ⟨fun z => absurd z (by omega), fun _ => ?_⟩)
  have l1 : (ce ++ [((5 : Nat), b, hv)]).length = ce.length + 1 := by rw [List.length_append]; rfl
  have fin : ∀ (kd : Nat), kd = (if goes = true then 16 else 15) → zCV xs (d + 1 + 1) 187 12 (some 10) [Value.int (nI kd), Value.int (nI ce.length), Value.int (nI c)] (zov h M') (zKI (fun x1 h2 => Q (.inl (some (Value.int x1))) h2) (fun e h => Q (.inr e) h)) := by
    intro kd hkd
    have hk128 : kd < 128 := by rw [hkd]; split <;> decide
    refine zM_cv hl p1.1 (zc187 (k := kd) (a := ce.length) (b := c) hl p1 (by omega) hk128 (by omega) (by omega) (fun M2 F2 p2 t1 t2 => zKI_v ?_))
    rw [l1]
    rw [List.append_assoc] at p2
    refine q M2 F2 _ p2 rfl ?_ (zSm_t s1 t1) (zSm_t s2 t2)
    have up : ∀ {V x}, zRc ce lo V x → zRc (ce ++ ([(5, b, hv)] ++ [(kd, ce.length, c)])) lo V x := fun {V x} hv' => by
      have := zRc_app (ce' := [(5, b, hv)] ++ [(kd, ce.length, c)]) (lo' := []) V x hv'
      rw [List.append_nil] at this
      exact this
    have g0 : (ce ++ ([(5, b, hv)] ++ [(kd, ce.length, c)]))[ce.length]? = some (5, b, hv) := by
      rw [List.getElem?_append_right (Nat.le_refl _), Nat.sub_self]; rfl
    have g1 : (ce ++ ([(5, b, hv)] ++ [(kd, ce.length, c)]))[ce.length + 1]? = some (kd, ce.length, c) := by
      rw [List.getElem?_append_right (by omega), show ce.length + 1 - ce.length = 1 by omega]; rfl
    rcases hg with ⟨rfl, rfl, rfl⟩ | ⟨rfl, v, rfl, hvc⟩
    · rw [if_pos rfl] at hkd
      subst hkd
      exact ⟨ce.length, c, g1, ⟨_, _, g0, up hb, up hb⟩, up hr⟩
    · rw [if_neg (by decide)] at hkd
      subst hkd
      exact ⟨ce.length, c, g1, ⟨_, _, g0, up hb, up hvc⟩, up hr⟩
  cases goes with
  | true => exact fin 16 rfl
  | false => exact fin 15 rfl
end RW1
