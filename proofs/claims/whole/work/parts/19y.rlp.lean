/-! the reference's check: its loop -/
def zC75 (xs : List Value) (d : Nat) (Q : zO → zH → Prop) (l0 : zP) (l1 l2 l3 l4 l5 : Int32) (h : zH) : Prop := ∀ lv : List (Nat × Value), zgetl lv 0 = some (zo l0) → zgetl lv 1 = some (Value.int l1) → zgetl lv 2 = some (Value.int l2) → zgetl lv 3 = some (Value.int l3) → zgetl lv 4 = some (Value.int l4) → zgetl lv 5 = some (Value.int l5) → zG xs d (167, 75, lv, []) h Q
theorem zC75_i {xs : List Value} {d : Nat} {Q : zO → zH → Prop} {l0 : zP} {l1 l2 l3 l4 l5 : Int32} {h : zH} (w : zw_167_75 xs d Q (zC75 xs d Q) l0 l1 l2 l3 l4 l5 h) : zC75 xs d Q l0 l1 l2 l3 l4 l5 h := fun lv g0 g1 g2 g3 g4 g5 => zs_167_75 (J75 := zC75 xs d Q) (fun _ _ _ _ _ _ _ lv' g0 g1 g2 g3 g4 g5 hJ => hJ lv' g0 g1 g2 g3 g4 g5) g0 g1 g2 g3 g4 g5 w
/-- how deep a node is -/
def zHt (N : List zNt) : Nat → Nat → Prop
  | 0, _ => False
  | f + 1, i => ∃ e, N[i]? = some e ∧ ∀ j, j ∈ zchn N (eM e) (i + 1) → zHt N f j
theorem zNd_ht {h : zH} {N : List zNt} : ∀ (f i a : Nat), zNd h N f i a → zHt N f i
  | 0, _, _, hn => hn.elim
  | f + 1, i, a, hn => by
    obtain ⟨e, ps, r, pv, he, _, _, hl, _, _, _, hc⟩ := zNd_at hn
    refine ⟨e, he, fun j hj => ?_⟩
    obtain ⟨k, hk⟩ := List.getElem?_of_mem hj
    have hkl := (List.getElem?_eq_some_iff.mp hk).1
    rw [zchn_len] at hkl
    exact zNd_ht f j _ (hc k j _ hk (List.getElem?_eq_getElem (by omega)))
section RLP
variable {xs : List Value} {d : Nat} {h : zH} {M0 M M' : Nat → zE} {F0 F F' : Nat → Value} {Q : zO → zH → Prop} {Ts Ts' : List Term} {T U : Term} {N : List zNt} {fr j D stop t : Nat} {e : zNt} {st st' sv l : List Term} {held most ins c held' most' ins' : Nat} {ce ce' : List (Nat × Nat × Nat)} {lo lo' : List (Nat × Nat)} {x y : Int32} {J : zP → Int32 → Int32 → Int32 → Int32 → Int32 → zH → Prop}
/-- bad(first[j]), and the check says no -/
theorem zno (hl : 50 ≤ h.1.length) (hc : zKC M0 F0 N fr) (hk : zKS M0 M F0 F Ts l held most ins ce lo) (he : N[j]? = some e) (k : ∀ M' F', zKS M0 M' F0 F' Ts l held most ins ce lo → F' 5 = .int (nI (eF e)) → Q (.inl (some (.int 0))) (zov h M')) : zw_167_439 xs (d + 1) Q J (some 10) (nI j) (zov h M) :=
  zbad (d := d) hl hc hk he (fun M' F' a1 a2 => ⟨fun _ => ⟨Or.inl rfl, k M' F' a1 a2⟩, fun w => absurd (by decide) w⟩)
theorem zno2 (hl : 50 ≤ h.1.length) (hc : zKC M0 F0 N fr) (hk : zKS M0 M F0 F Ts l held most ins ce lo) (he : N[j]? = some e) (k : ∀ M' F', zKS M0 M' F0 F' Ts l held most ins ce lo → F' 5 = .int (nI (eF e)) → Q (.inl (some (.int 0))) (zov h M')) : zw_167_222 xs (d + 1) Q J (some 10) (nI j) (zov h M) :=
  zbad (d := d) hl hc hk he (fun M' F' a1 a2 => ⟨fun _ => ⟨Or.inl rfl, k M' F' a1 a2⟩, fun w => absurd (by decide) w⟩)
/-- the test behind an instruction -/
theorem zg403 {lost : Int32} {row : Int32} (hl : 50 ≤ h.1.length) (hc : zKC M0 F0 N fr) (hk : zKS M0 M F0 F Ts l held most ins ce lo) (he : N[j]? = some e) (hh : held ≤ 100) (hdp : ∀ T, T ∈ l → ztdep T ≤ 200)
    (k0 : ¬ (l.length + held ≤ 12 ∧ (0 < l.length → ztdep (zkat l 0) ≤ 8)) → ∀ M' F', zKS M0 M' F0 F' Ts l held most ins ce lo → F' 5 = .int (nI (eF e)) → Q (.inl (some (.int 0))) (zov h M'))
    (k1 : l.length + held ≤ 12 → (0 < l.length → ztdep (zkat l 0) ≤ 8) → zw_167_459 xs (d + 2) Q J (some 10) (nI D) (nI stop) lost (nI t) (nI j) row (zov h M)) : zw_167_403 xs (d + 2) Q J (some 10) (nI D) (nI stop) lost (nI t) (nI j) row (zov h M) := by
  obtain ⟨h10, hR, hr, hx, h6⟩ := zKS_c hk hc
  have hs := hk.2.2.2.2.1
  have h16 := hs.2.2.2.1
  refine zM_gi hl h10 hs.1 (zM_gi hl h10 hs.2.1 ?_)
  rw [nI_add]
  refine pk_lt 12 (l.length + held) (fun q => zno (d := d + 1) hl hc hk he (k0 (fun z => by omega))) (fun q => zM_gi hl h10 hs.1 (pk_lt 0 l.length (fun q2 => ?_) (fun q2 => k1 q (fun z => by omega))))
  refine zM_gr hl h10 (hR (25, 28) (by decide)) (ztop 0 (d := d + 1) hl h10 hR hs (by decide) (fun w tw => ?_))
  obtain ⟨i, i1, i2, rfl⟩ := zTop_at tw q2
  obtain ⟨_, _, _, t4, Ki, On, Tw, De, Si, b1, b2, b3, b4, b5, cc1, cc2, cc3, cc4, cc5, rows⟩ := hk.2.2.2.1
  have hd2 := (t4 i _ i2).2
  exact zM_ia' hl b4 (rows i _ i2).2.2.2.1 (pk_lt 8 (ztdep (zkat l 0)) (fun q3 => zno (d := d + 1) hl hc hk he (k0 (fun z => by have := z.2 q2; omega))) (fun q3 => k1 q (fun _ => q3)))
/-- on to the next node, or into a row -/
theorem zg459 {lost : Int32} (hl : 50 ≤ h.1.length) (hc : zKC M0 F0 N fr) (hk : zKS M0 M F0 F Ts l held most ins ce lo) (he : N[j]? = some e) (q : J (some 10) (nI D) (nI (znx N j)) (nI stop) lost (nI (t + 1)) (zov h M)) : zw_167_459 xs (d + 2) Q J (some 10) (nI D) (nI stop) lost (nI t) (nI j) (-1) (zov h M) := by
  obtain ⟨h10, hR, hr, hx, h6⟩ := zKS_c hk hc
  have hjl := (List.getElem?_eq_some_iff.mp he).1
  refine ⟨fun _ => ?_, fun z => absurd (by decide) z⟩
  intro x3 hx3
  rw [show nI D + (0 : Int32) = nI D from nI_add D 0] at hx3
  subst hx3
  refine ⟨fun _ => zM_nX hl h10 hR hx hjl hc.2.2.1.1.1 ⟨fun _ => ?_, fun z => absurd (by decide) z⟩, fun z => absurd (by decide) z⟩
  intro x5 hx5
  subst hx5
  rw [nI_1]
  exact q
theorem zg459r {lost : Int32} {row : Nat} (hl : 50 ≤ h.1.length) (hc : zKC M0 F0 N fr) (hk : zKS M0 M F0 F Ts l held most ins ce lo) (hrow : row < N.length) (q : J (some 10) (nI (D + 1)) (nI (row + 1)) (nI (znx N row)) lost (nI (t + 1)) (zov h M)) : zw_167_459 xs (d + 2) Q J (some 10) (nI D) (nI stop) lost (nI t) (nI j) (nI row) (zov h M) := by
  obtain ⟨h10, hR, hr, hx, h6⟩ := zKS_c hk hc
  have hN := hc.2.2.1.1.1
  refine ⟨fun z => absurd z (nI_pos (by omega)), fun _ => ?_⟩
  intro x3 hx3
  rw [nI_1] at hx3
  subst hx3
  refine ⟨fun z => absurd z (nI_pos (by omega)), fun _ => ⟨fun z => absurd z (nI_pos (by omega)), fun _ => ?_⟩⟩
  rw [nI_1]
  refine zM_nX hl h10 hR hx hrow hN ?_
  intro x5 hx5
  subst hx5
  rw [nI_1]
  exact q
end RLP
/-! the reference's check: one instruction -/
def zErr (h : zH) (M0 : Nat → zE) (F0 : Nat → Value) (Q : zO → zH → Prop) (r : Nat ⊕ zkcs) : Prop := ∀ p M' F' Ts' st' held' most' ins' ce' lo', r = .inl p → zKS M0 M' F0 F' Ts' st' held' most' ins' ce' lo' → F' 5 = .int (nI p) → Q (.inl (some (.int 0))) (zov h M')
def zRes (Ts : List Term) (ce : List (Nat × Nat × Nat)) (lo : List (Nat × Nat)) (t n : Nat) : Prop := zns Ts + n ≤ 199 ∧ ce.length + 2 * n ≤ 1400 ∧ lo.length + n ≤ 600 ∧ t + n ≤ 399
def zGrw (Ts Ts' : List Term) (ce ce' : List (Nat × Nat × Nat)) (lo lo' : List (Nat × Nat)) (t t' n : Nat) : Prop := (∀ x U, zTi Ts x U → zTi Ts' x U) ∧ zns Ts' ≤ zns Ts + n ∧ ce'.length ≤ ce.length + 2 * n ∧ lo'.length ≤ lo.length + n ∧ t' ≤ t + n
def zCon (xs : List Value) (d : Nat) (h : zH) (M0 : Nat → zE) (F0 : Nat → Value) (Q : zO → zH → Prop) (r : Nat ⊕ zkcs) (n D at_ stop held : Nat) (M : Nat → zE) (Ts : List Term) (ce : List (Nat × Nat × Nat)) (lo : List (Nat × Nat)) (t : Nat) : Prop := ∀ o ins' most' M' F' Ts' st' ce' lo' t', r = .inr (o, ins', most') → zKS M0 M' F0 F' Ts' st' held most' ins' ce' lo' → (∀ l, o = some l → st' = l) → zkok held st' → zGrw Ts Ts' ce ce' lo lo' t t' n → zFeq D M M' → zC75 xs d Q (some 10) (nI D) (nI at_) (nI stop) (zB o.isNone) (nI t') (zov h M')
/-- a row of code -/
def zBk (xs : List Value) (d : Nat) (h : zH) (M0 : Nat → zE) (F0 : Nat → Value) (N : List zNt) (Q : zO → zH → Prop) (f i : Nat) : Prop := ∀ D t st held most ins M F Ts ce lo, zHt N f i → D + f ≤ 12 → zKS M0 M F0 F Ts st held most ins ce lo → zkok held st → st.length + held ≤ most → most ≤ 12 → (∃ e, N[i]? = some e ∧ eS e = 2) → zRes Ts ce lo t (znx N i - i) → zErr h M0 F0 Q (zkbl N i st held ins most) → zCon xs d h M0 F0 Q (zkbl N i st held ins most) (znx N i - i - 1) D (znx N i) (znx N i) held M Ts ce lo t → zC75 xs d Q (some 10) (nI D) (nI (i + 1)) (nI (znx N i)) 0 (nI t) (zov h M)
theorem zGrw_t {Ts Ts' Ts2 : List Term} {ce ce' ce2 : List (Nat × Nat × Nat)} {lo lo' lo2 : List (Nat × Nat)} {t t' t2 n m k : Nat} (h1 : zGrw Ts Ts' ce ce' lo lo' t t' n) (h2 : zGrw Ts' Ts2 ce' ce2 lo' lo2 t' t2 m) (hk : n + m ≤ k) : zGrw Ts Ts2 ce ce2 lo lo2 t t2 k := ⟨fun x U z => h2.1 x U (h1.1 x U z), by have := h1.2.1; have := h2.2.1; omega, by have := h1.2.2.1; have := h2.2.2.1; omega, by have := h1.2.2.2.1; have := h2.2.2.2.1; omega, by have := h1.2.2.2.2; have := h2.2.2.2.2; omega⟩
section RIN
variable {xs : List Value} {d : Nat} {h : zH} {M0 M M' : Nat → zE} {F0 F F' : Nat → Value} {Q : zO → zH → Prop} {Ts Ts' : List Term} {T U : Term} {N : List zNt} {fr j D stop t : Nat} {e : zNt} {st st' sv l : List Term} {held most ins c held' most' ins' : Nat} {ce ce' : List (Nat × Nat × Nat)} {lo lo' : List (Nat × Nat)} {x y : Int32}
theorem zkbl_max (hg : zGd N) (i : Nat) (st : List Term) (held a b : Nat) : zkbl N i st held a (max b (st.length + held)) = zkbl N i st held a b := by
  rw [zkbl_eq hg.1.1 i]
  unfold zkB
  rw [show max (max b (st.length + held)) (st.length + held) = max b (st.length + held) by omega]
theorem zktk_le (hc3 : 30 ≤ c) (hc7 : c ≤ 76) (hnb : zkbk c = false) (hrd : zkrd c st held = true) : zktk c ≤ st.length := by
  have a0 : ∀ i, st.length ≤ i → zkat st i = .arg 0 := fun i hi => by unfold zkat; rw [List.getD_eq_getElem?_getD, List.getElem?_eq_none hi]; rfl
  have nb : ∀ k, zkbk k = true → c ≠ k := fun k hk q => by rw [q, hk] at hnb; cases hnb
  have hk33 := nb 33 rfl
  have hk41 := nb 41 rfl
  have hk44 := nb 44 rfl
  have hk47 := nb 47 rfl
  have hk49 := nb 49 rfl
  have hk50 := nb 50 rfl
  have hk58 := nb 58 rfl
  have hk59 := nb 59 rfl
  have hsl : ∀ {i k}, zkhs st i k = true → i + 1 ≤ st.length := fun q => (zkhs_c q).1
  have knl : ∀ {i}, zkn (zkat st i) = true → i + 1 ≤ st.length := fun q => by
    rw [zkn_hs] at q
    rcases Bool.or_eq_true _ _ |>.mp q with w | w
    · exact hsl w
    · exact hsl w
  have sml : ztsim (zkat st 0) = true → 1 ≤ st.length := fun q => by
    rcases Nat.eq_zero_or_pos st.length with z | z
    · rw [a0 0 (by omega)] at q; cases q
    · exact z
  unfold zktk
  by_cases h0 : c = 31 ∨ c = 34 ∨ c = 35 ∨ c = 40 ∨ c = 45 ∨ c = 51
  · rw [if_pos h0]; omega
  rw [if_neg h0]
  by_cases h53 : c = 53
  · rw [if_pos h53]
    rw [h53] at hrd
    have hr2 : (zkm (zkat st 2) && zt1 (zkat st 2) == zkat st 0 && zkhs st 1 6 && zt2 (zkat st 2) == zt1 (zkat st 1)) = true := hrd
    exact (zkm_c ((Bool.and_eq_true _ _).mp ((Bool.and_eq_true _ _).mp ((Bool.and_eq_true _ _).mp hr2).1).1).1).1
  rw [if_neg h53]
  by_cases h2 : c = 32 ∨ c = 36 ∨ c = 46 ∨ c = 52 ∨ (53 < c ∧ c < 57) ∨ (59 < c ∧ c < 64) ∨ c = 68 ∨ c = 75
  · rw [if_pos h2]
    have : c = 32 ∨ c = 36 ∨ c = 46 ∨ c = 52 ∨ c = 54 ∨ c = 55 ∨ c = 56 ∨ c = 60 ∨ c = 61 ∨ c = 62 ∨ c = 63 ∨ c = 68 ∨ c = 75 := by omega
    rcases this with q | q | q | q | q | q | q | q | q | q | q | q | q <;> rw [q] at hrd
    · exact of_decide_eq_true hrd
    · exact of_decide_eq_true hrd
    · have hr2 : (zkhs st 1 8 && zt1 (zkat st 1) == zkat st 0) = true := hrd
      exact hsl ((Bool.and_eq_true _ _).mp hr2).1
    · have hr2 : (zkm (zkat st 1) && zt1 (zkat st 1) == zkat st 0) = true := hrd
      exact (zkm_c ((Bool.and_eq_true _ _).mp hr2).1).1
    · have hr2 : (zkm (zkat st 1) && zt1 (zkat st 1) == zkat st 0) = true := hrd
      exact (zkm_c ((Bool.and_eq_true _ _).mp hr2).1).1
    · have hr2 : (zkhs st 0 1 && zkhs st 1 1) = true := hrd
      exact hsl ((Bool.and_eq_true _ _).mp hr2).2
    · have hr2 : (zkhs st 0 1 && zkhs st 1 1) = true := hrd
      exact hsl ((Bool.and_eq_true _ _).mp hr2).2
    · have hr2 : (zkn (zkat st 0) && zkn (zkat st 1)) = true := hrd
      exact knl ((Bool.and_eq_true _ _).mp hr2).2
    · have hr2 : (zkn (zkat st 0) && zkn (zkat st 1)) = true := hrd
      exact knl ((Bool.and_eq_true _ _).mp hr2).2
    · have hr2 : (zkn (zkat st 0) && zkn (zkat st 1)) = true := hrd
      exact knl ((Bool.and_eq_true _ _).mp hr2).2
    · have hr2 : (zkn (zkat st 0) && zkn (zkat st 1)) = true := hrd
      exact knl ((Bool.and_eq_true _ _).mp hr2).2
    · have hr2 : (ztsim (zkat st 0) && zkat st 0 == zkat st 1) = true := hrd
      obtain ⟨w1, w2⟩ := (Bool.and_eq_true _ _).mp hr2
      rcases Nat.lt_or_ge 1 st.length with z | z
      · exact z
      · rw [eq_of_beq w2, a0 1 z] at w1; cases w1
    · have hr2 : (zkhs st 0 4 && zkhs st 1 4) = true := hrd
      exact hsl ((Bool.and_eq_true _ _).mp hr2).2
  · rw [if_neg h2]
    have : c = 30 ∨ c = 37 ∨ c = 38 ∨ c = 39 ∨ c = 42 ∨ c = 43 ∨ c = 48 ∨ c = 57 ∨ c = 64 ∨ c = 65 ∨ c = 66 ∨ c = 67 ∨ c = 69 ∨ c = 70 ∨ c = 71 ∨ c = 72 ∨ c = 73 ∨ c = 74 ∨ c = 76 := by omega
    rcases this with q | q | q | q | q | q | q | q | q | q | q | q | q | q | q | q | q | q | q <;> rw [q] at hrd
    · exact of_decide_eq_true hrd
    · exact hsl (i := 0) (k := 5) hrd
    · exact hsl (i := 0) (k := 5) hrd
    · exact of_decide_eq_true hrd
    · exact of_decide_eq_true hrd
    · exact of_decide_eq_true hrd
    · have hr2 : (zkhs st 0 8 || zkhs st 0 9 || zkhs st 0 4) = true := hrd
      rcases Bool.or_eq_true _ _ |>.mp hr2 with w | w
      · rcases Bool.or_eq_true _ _ |>.mp w with w | w
        · exact hsl w
        · exact hsl w
      · exact hsl w
    · exact hsl (i := 0) (k := 1) hrd
    · exact knl (i := 0) hrd
    · exact hsl (i := 0) (k := 2) hrd
    · exact hsl (i := 0) (k := 2) hrd
    · exact hsl (i := 0) (k := 3) hrd
    · exact hsl (i := 0) (k := 2) hrd
    · exact hsl (i := 0) (k := 2) hrd
    · exact hsl (i := 0) (k := 2) hrd
    · exact hsl (i := 0) (k := 2) hrd
    · exact hsl (i := 0) (k := 2) hrd
    · exact hsl (i := 0) (k := 2) hrd
    · have hr2 : (ztsim (zkat st 0) || zkhs st 0 0) = true := hrd
      rcases Bool.or_eq_true _ _ |>.mp hr2 with w | w
      · exact sml w
      · exact hsl w
end RIN
section RIN2
variable {xs : List Value} {d : Nat} {h : zH} {M0 M M' : Nat → zE} {F0 F F' : Nat → Value} {Q : zO → zH → Prop} {Ts Ts' : List Term} {T U : Term} {N : List zNt} {fr j D stop t f : Nat} {e : zNt} {st st' sv l : List Term} {held most ins c held' most' ins' : Nat} {ce ce' : List (Nat × Nat × Nat)} {lo lo' : List (Nat × Nat)} {x y : Int32}
/-- the frame is begun -/
theorem zKS_fr {L38 L39 : List Int32} (hk : zKS M0 M F0 F Ts st held most ins ce lo) (f38 : M 38 = zAi L38) (g38 : L38.length = 12) (f39 : M 39 = zAi L39) (g39 : L39.length = 12) (hD : D ≤ 11) (j stop : Int32) : zKS M0 (zub (zub (zub M 10 (zMo (zub F 52 (.int (nI (ins + 1)))))) 38 (zAi (L38.set D j))) 39 (zAi (L39.set D stop))) F0 (zub F 52 (.int (nI (ins + 1)))) Ts st held most (ins + 1) ce lo ∧ zFeq D M (zub (zub (zub M 10 (zMo (zub F 52 (.int (nI (ins + 1)))))) 38 (zAi (L38.set D j))) 39 (zAi (L39.set D stop))) ∧ zAt (zub (zub (zub M 10 (zMo (zub F 52 (.int (nI (ins + 1)))))) 38 (zAi (L38.set D j))) 39 (zAi (L39.set D stop))) 38 D = some j ∧ zAt (zub (zub (zub M 10 (zMo (zub F 52 (.int (nI (ins + 1)))))) 38 (zAi (L38.set D j))) 39 (zAi (L39.set D stop))) 39 D = some stop := by
  obtain ⟨w1, w2, w3, w4, Sk, w5, w6⟩ := hk.2.2.2.2.1
  obtain ⟨M2, hM2⟩ : ∃ M2, zub (zub (zub M 10 (zMo (zub F 52 (.int (nI (ins + 1)))))) 38 (zAi (L38.set D j))) 39 (zAi (L39.set D stop)) = M2 := ⟨_, rfl⟩
  have m2 : ∀ k, k ≠ 10 → k ≠ 38 → k ≠ 39 → M2 k = M k := fun k q1 q2 q3 => by rw [← hM2, zub_n q3, zub_n q2, zub_n q1]
  have m10 : M2 10 = zMo (zub F 52 (.int (nI (ins + 1)))) := by rw [← hM2, zub_n (by decide), zub_n (by decide), zub_s]
  have m38 : M2 38 = zAi (L38.set D j) := by rw [← hM2, zub_n (by decide), zub_s]
  have m39 : M2 39 = zAi (L39.set D stop) := by rw [← hM2, zub_s]
  rw [hM2]
  have sM : zSm [10, 38, 39] M M2 := fun k hk => by simp at hk; exact m2 k hk.1 hk.2.1 hk.2.2
  refine ⟨zKS_g hk m10 sM (zSm_ub (S := [52]) zSm_refl (by decide)) ⟨by rw [zub_n (by decide)]; exact w1, by rw [zub_n (by decide)]; exact w2, by rw [zub_n (by decide)]; exact w3, w4, Sk, by rw [m2 48 (by decide) (by decide) (by decide)]; exact w5, w6⟩ zub_s (fun q hq => ?_) (by decide) (by decide), ⟨fun q hq i hi => ?_, fun q hq i hi => ?_⟩, ?_, ?_⟩
  · by_cases h38 : q.1 = 38
    · refine ⟨_, by rw [h38]; exact m38, ?_⟩
      have : ∀ p ∈ zfrl, p.1 = 38 → p.2 = 12 := by decide
      rw [List.length_set, g38, this q hq h38]
    · by_cases h39 : q.1 = 39
      · refine ⟨_, by rw [h39]; exact m39, ?_⟩
        have : ∀ p ∈ zfrl, p.1 = 39 → p.2 = 12 := by decide
        rw [List.length_set, g39, this q hq h39]
      · obtain ⟨L, h1, h2⟩ := hk.2.2.2.2.2.2.2 q hq
        have : ∀ q ∈ zfrl, q.1 ≠ 10 := by decide
        exact ⟨L, (m2 q.1 (this q hq) h38 h39).trans h1, h2⟩
  · simp at hq
    rcases hq with rfl | rfl | rfl | rfl | rfl | rfl
    · rw [zAt_i m38, zAt_i f38, zset_ne (by omega)]
    · rw [zAt_i m39, zAt_i f39, zset_ne (by omega)]
    · unfold zAt; rw [m2 40 (by decide) (by decide) (by decide)]
    · unfold zAt; rw [m2 41 (by decide) (by decide) (by decide)]
    · unfold zAt; rw [m2 45 (by decide) (by decide) (by decide)]
    · unfold zAt; rw [m2 47 (by decide) (by decide) (by decide)]
  · simp at hq
    rcases hq with rfl | rfl
    · unfold zAt; rw [m2 44 (by decide) (by decide) (by decide)]
    · unfold zAt; rw [m2 46 (by decide) (by decide) (by decide)]
  · rw [zAt_i m38]; exact zset_eq (by omega)
  · rw [zAt_i m39]; exact zset_eq (by omega)
theorem zFsh_sm2 {S : List Nat} (hf : zFsh M) (hM : zSm S M M') (hS : (S.all fun q => !([38, 39, 40, 41, 44, 45, 46, 47].contains q)) = true) : zFsh M' := fun q hq => by
  obtain ⟨L, h1, h2⟩ := hf q hq
  refine ⟨L, (hM q.1 (fun z => ?_)).trans h1, h2⟩
  have := List.all_eq_true.mp hS q.1 z
  have all : ∀ q ∈ zfrl, ([38, 39, 40, 41, 44, 45, 46, 47] : List Nat).contains q.1 = true := by decide
  rw [all q hq] at this
  cases this
/-- an instruction without rows -/
theorem zplain {M2 : Nat → zE} {F2 : Nat → Value} (hl : 50 ≤ h.1.length) (hc : zKC M0 F0 N fr) (hk2 : zKS M0 M2 F0 F2 Ts st held most (ins + 1) ce lo) (hfe : zFeq D M M2) (he : N[j]? = some e) (hI : zkI e = true) (hnb : zkbk (eC e) = false) (hrd : zkrd (eC e) st held = true) (hok : zkok held st) (hms : st.length + held ≤ most) (hm12 : most ≤ 12) (hres : zRes Ts ce lo t (znx N j - j))
    (kE : zErr h M0 F0 Q (zkin N (zkbl N) held j (some st, ins, most))) (kC : zCon xs (d + 6) h M0 F0 Q (zkin N (zkbl N) held j (some st, ins, most)) (znx N j - j) D (znx N j) stop held M Ts ce lo t) :
    zCV xs (d + 6) 173 12 (some 10) [Value.int (0 : Int32)] (zov h M2) (zKI (fun x35 h36 => zGR (some 10) 12 11 h36 fun x39 => zIA xs x39 (nI j) h36 fun x41 => zCV xs (d + 6) 173 12 (some 10) [Value.int (1 : Int32)] h36 (zKI (fun x42 h43 => zCV xs (d + 6) 181 12 (some 10) [Value.int (nI j), Value.int x41, Value.int x35, Value.int x42] h43 (zKI (fun x44 h45 => ((x44 < (-1 : Int32) → (((0 : Int32) = 0 ∨ (0 : Int32) = 1) ∧ Q (.inl (some (Value.int (0 : Int32)))) h45)) ∧ (¬ x44 < (-1 : Int32) → zGI (some 10) 12 49 h45 fun x48 => zGR (some 10) 12 11 h45 fun x50 => zIA xs x50 (nI j) h45 fun x52 => zCall xs (d + 6) 194 [Value.int x52] h45 (zKI (fun x53 h54 => zPF (some 10) 12 49 (Value.int (x48 - x53)) h54 fun h55 => zGR (some 10) 12 11 h55 fun x56 => zIA xs x56 (nI j) h55 fun x58 => ((x58 = (32 : Int32) → zCV xs (d + 6) 168 12 (some 10) [Value.int x35] h55 (zKV (fun h60 => zw_167_373 xs (d + 6) Q (zC75 xs (d + 6) Q) (some 10) (nI D) (nI stop) (nI t) (nI j) (-1 : Int32) x44 h60) (fun e h => Q (.inr e) h))) ∧ (¬ x58 = (32 : Int32) → zw_167_373 xs (d + 6) Q (zC75 xs (d + 6) Q) (some 10) (nI D) (nI stop) (nI t) (nI j) (-1 : Int32) x44 h55))) (fun e h => Q (.inr e) h))))) (fun e h => Q (.inr e) h))) (fun e h => Q (.inr e) h))) (fun e h => Q (.inr e) h)) := by
  obtain ⟨i1, i2, i3, i4⟩ := zkI_ok hI
  have hg := hc.2.2.1
  obtain ⟨n1, n2, n3, n4, _⟩ := hg.1.2 j e he
  obtain ⟨h10, hR, hr, hx, h6⟩ := zKS_c hk2 hc
  have hjl := (List.getElem?_eq_some_iff.mp he).1
  have hjz := zful_lt (hg.2.2 j hjl)
  obtain ⟨r1, r2, r3, r4⟩ := hres
  have hl12 := hok.1
  have htk := zktk_le i2 i3 hnb hrd
  have nb : ∀ k, zkbk k = true → eC e ≠ k := fun k hk q => by rw [q, hk] at hnb; cases hnb
  have hk33 := nb 33 rfl
  have hk41 := nb 41 rfl
  have hk44 := nb 44 rfl
  have hk47 := nb 47 rfl
  have hk49 := nb 49 rfl
  have hk50 := nb 50 rfl
  have hk58 := nb 58 rfl
  have hk59 := nb 59 rfl
  -- the spec
  have zE : zkE N (zkbl N) j e st held (ins + 1) most = (if eC e = 76 then .inr (none, ins + 1, most) else (match zkpl N j (eC e) st with
      | .inl p => .inl p
      | .inr l => .inr (some l, ins + 1, most))) := by
    unfold zkE zkpl
    rw [if_neg hk33, if_neg (by omega), if_neg (by omega)]
    by_cases ht : eC e = 34 ∨ eC e = 40 ∨ eC e = 42 ∨ eC e = 43 ∨ eC e = 45 ∨ eC e = 51
    · rw [if_pos ht, if_pos ht, if_neg (by omega)]
      first | done | rfl
    · rw [if_neg ht, if_neg ht]
      first | done | rfl
  have zI : zkin N (zkbl N) held j (some st, ins, most) = (match zkE N (zkbl N) j e st held (ins + 1) most with
      | .inl p => .inl p
      | .inr s' => zkpo (eF e) held s') := by
    unfold zkin
    rw [he]
    dsimp only
    rw [hI, hrd, Bool.true_and, if_pos rfl]
    first | done | rfl
  refine ztop 0 (d := d + 5) hl h10 hR hk2.2.2.2.2.1 (by decide) (fun x tx => zM_nC hl h10 hR hr he (ztop 1 (d := d + 5) hl h10 hR hk2.2.2.2.2.1 (by decide) (fun y ty => ?_)))
  refine zM_cv hl h10 (zc181 (d := d) hl hc hk2 he hI hnb hrd hok tx ty (by omega) (by omega) (by omega) (fun p M3 F3 Ts3 ce3 lo3 hp hk3 h5 => zKI_v ?_) (fun l y' M3 F3 Ts3 ce3 lo3 hp hk3 hx3 hn3 hc3 hl3 s3 hlv => zKI_v ?_))
  · refine ⟨fun _ => ⟨Or.inl rfl, ?_⟩, fun z => absurd (by decide) z⟩
    have h76 : eC e ≠ 76 := fun q => by
      unfold zkpl at hp
      rw [if_neg (by omega)] at hp
      cases hp
    refine kE p M3 F3 Ts3 st held most _ ce3 lo3 ?_ hk3 h5
    rw [zI, zE, if_neg h76, hp]
  obtain ⟨h103, hR3, hr3, hx3', h63⟩ := zKS_c hk3 hc
  have hy1 : ¬ y' < -1 := by
    by_cases q : eC e = 30 ∨ eC e = 76
    · rw [hlv.1 q]; decide
    · by_cases q2 : eC e = 32
      · obtain ⟨w, w1, w2, rfl⟩ := hlv.2.1 q2
        exact fun z => absurd (show nI w < 0 from Int32.lt_trans z (by decide)) (nI_pos (by omega))
      · obtain ⟨T, _, w, w1, w2, rfl⟩ := hlv.2.2 (by omega) (by omega) q2
        exact fun z => absurd (show nI w < 0 from Int32.lt_trans z (by decide)) (nI_pos (by omega))
  refine ⟨fun z => absurd z hy1, fun _ => zM_gi hl h103 hk3.2.2.2.2.1.1 (zM_nC hl h103 hR3 hr3 he ⟨d + 5, rfl, zc194 n2 (zKI_v ?_)⟩)⟩
  rw [pk_sub htk]
  refine zM_pf hl h103 ?_
  have hk4 := zKS_sz hk3 htk
  obtain ⟨h104, hR4, hr4, hx4', h64⟩ := zKS_c hk4 hc
  refine zM_nC hl h104 hR4 hr4 he ?_
  have s4 : zSm [10, 19, 20, 25, 26, 27, 28, 29, 30, 31, 32, 33, 34, 35, 36] M2 (zub M3 10 (zMo (zub F3 49 (.int (nI (st.length - zktk (eC e))))))) := zSm_trans s3 (zSm_ub (S := [10]) zSm_refl (by decide)) (by decide) (by decide)
  -- behind the pushes
  have c384 : ∀ {M5 F5 st5 m5}, zKS M0 M5 F0 F5 Ts3 st5 held m5 (ins + 1) ce3 lo3 → zSm [10, 19, 20, 25, 26, 27, 28, 29, 30, 31, 32, 33, 34, 35, 36, 48] M2 M5 → (eC e = 76 → zkok held st5 ∧ m5 = most) → (eC e ≠ 76 → st5 = l ∧ m5 = max most (l.length + held)) → zw_167_384 xs (d + 6) Q (zC75 xs (d + 6) Q) (some 10) (nI D) (nI stop) (nI t) (nI j) (-1) (zov h M5) := by
    intro M5 F5 st5 m5 hk5 s5 h76 hn76
    obtain ⟨h105, hR5, hr5, hx5', h65⟩ := zKS_c hk5 hc
    have fe5 : zFeq D M M5 := zFeq_t hfe (zFeq_sm s5 (by decide))
    have gw : zGrw Ts Ts3 ce ce3 lo lo3 t (t + 1) (znx N j - j) := ⟨hx3, hn3, hc3, hl3, by omega⟩
    refine zM_nC hl h105 hR5 hr5 he (pk_eq (eC e) 76 (fun q => ?_) (fun q => ?_))
    · obtain ⟨ok5, rfl⟩ := h76 q
      have hz : zkin N (zkbl N) held j (some st, ins, m5) = .inr (none, ins + 1, m5) := by
        rw [zI, zE, if_pos q]
        rfl
      have hl5 := ok5.1
      refine zg403 (d := d + 4) (lost := 1) hl hc hk5 he (by omega) (fun T hT => by have := (ok5.2 T hT).2; omega) (fun z => absurd ⟨ok5.1, fun _ => (zkat_in ok5.2 0).2⟩ z) (fun _ _ => zg459 (d := d + 4) hl hc hk5 he ?_)
      exact kC none (ins + 1) m5 M5 F5 Ts3 st5 ce3 lo3 (t + 1) hz hk5 (fun _ z => by cases z) ok5 gw fe5
    · obtain ⟨rfl, rfl⟩ := hn76 q
      have hzp : zkin N (zkbl N) held j (some st, ins, most) = zkpo (eF e) held (some st5, ins + 1, most) := by rw [zI, zE, if_neg q, hp]
      have hpo : zkpo (eF e) held (some st5, ins + 1, most) = if st5.length + held ≤ 12 ∧ ztdep (zkat st5 0) ≤ 8 then .inr (some st5, ins + 1, max most (st5.length + held)) else .inl (eF e) := rfl
      have hz0 : ¬ 0 < st5.length → ztdep (zkat st5 0) ≤ 8 := fun z => by
        have : zkat st5 0 = .arg 0 := by unfold zkat; rw [List.getD_eq_getElem?_getD, List.getElem?_eq_none (by omega)]; rfl
        rw [this]; decide
      refine zg403 (d := d + 4) (lost := 0) hl hc hk5 he (by omega) (fun T hT => ?_) (fun z M6 F6 hk6 h5 => ?_) (fun z1 z2 => zg459 (d := d + 4) hl hc hk5 he ?_)
      · obtain ⟨k, hk⟩ := List.getElem?_of_mem hT
        obtain ⟨a1, a2, a3, a4, Sk, a5, a6, a7⟩ := hk5.2.2.2.2.1
        obtain ⟨x, _, w, _, w2, _⟩ := a7 k T hk
        exact (hk5.2.2.2.1.2.2.2.1 w T w2).2
      · refine kE (eF e) M6 F6 Ts3 st5 held _ _ ce3 lo3 ?_ hk6 h5
        rw [hzp, hpo, if_neg (fun w => z ⟨w.1, fun _ => w.2⟩)]
      · have hz : zkin N (zkbl N) held j (some st, ins, most) = .inr (some st5, ins + 1, max most (st5.length + held)) := by
          have hd8 : ztdep (zkat st5 0) ≤ 8 := (Classical.em (0 < st5.length)).elim z2 hz0
          rw [hzp, hpo, if_pos ⟨z1, hd8⟩]
        have okf := (zkin_ok hg he (fun i' h1 h2 => zkbl_ok hg N.length i' (by omega) h2) hok hm12 hz).2.2.2 st5 rfl
        exact kC (some st5) (ins + 1) _ M5 F5 Ts3 st5 ce3 lo3 (t + 1) hz hk5 (fun _ z => by cases z; rfl) okf gw fe5
  have dl : (st.drop (zktk (eC e))).length = st.length - zktk (eC e) := List.length_drop
  have hzaf : ¬ (eC e = 34 ∨ eC e = 40 ∨ eC e = 42 ∨ eC e = 43 ∨ eC e = 45 ∨ eC e = 51) → l = zkaf (eC e) st := fun q => by
    unfold zkpl at hp
    rw [if_neg q] at hp
    exact (Sum.inr.inj hp).symm
  refine pk_eq (eC e) 32 (fun q => ?_) (fun q => ?_)
  · -- SWAP
    have hll := hzaf (by omega)
    rw [q] at hll hrd
    have h2 : 2 ≤ st.length := of_decide_eq_true hrd
    have ht2 : zktk (eC e) = 2 := by rw [q]; rfl
    have hx0 : zTi Ts3 x (zkat st 0) := hx3 _ _ (zTop_at tx (by omega))
    refine zpu (d := d + 5) hl hk4 hx0 (by omega) (by omega) (by omega) (fun M5 F5 hk5 s5 => ?_)
    have hy' := hlv.2.1 q
    refine ⟨fun z => ?_, fun _ => zpu (d := d + 5) hl hk5 hy' (by rw [List.length_cons]; omega) (by omega) (by omega) (fun M6 F6 hk6 s6 => ?_)⟩
    · obtain ⟨w, w1, w2, rfl⟩ := hy'
      exact absurd z (nI_pos (by omega))
    · rw [ht2] at hk6 dl
      refine c384 hk6 (zSm_trans (zSm_trans (U := [10, 19, 20, 25, 26, 27, 28, 29, 30, 31, 32, 33, 34, 35, 36, 48]) s4 s5 (by decide) (by decide)) s6 (by decide) (by decide)) (fun z => by omega) (fun _ => ⟨hll.symm, ?_⟩)
      rw [hll]
      show _ = max most ((zkat st 1 :: zkat st 0 :: st.drop 2).length + held)
      simp only [List.length_cons]
      omega
  · by_cases q2 : eC e = 30 ∨ eC e = 76
    · -- no answer
      rw [hlv.1 q2]
      refine ⟨fun _ => ?_, fun z => absurd (by decide) z⟩
      have hll := hzaf (by omega)
      have ht1 : zktk (eC e) = 1 := by rcases q2 with w | w <;> rw [w] <;> rfl
      rw [ht1] at hk4 dl
      have okd : zkok held (st.drop 1) := ⟨by omega, fun T hT => hok.2 T (List.mem_of_mem_drop hT)⟩
      rw [ht1] at s4
      rw [ht1]
      refine c384 hk4 (zSm_mono s4 (by decide)) (fun _ => ⟨okd, rfl⟩) (fun h76 => ?_)
      have h30 : eC e = 30 := by omega
      rw [h30] at hll
      have : zkaf 30 st = st.drop 1 := rfl
      rw [this] at hll
      exact ⟨hll.symm, by rw [hll]; omega⟩
    · obtain ⟨T, hT, hy'⟩ := hlv.2.2 (by omega) (by omega) q
      refine ⟨fun z => ?_, fun _ => zpu (d := d + 5) hl hk4 hy' (by omega) (by omega) (by omega) (fun M6 F6 hk6 s6 => ?_)⟩
      · obtain ⟨w, w1, w2, rfl⟩ := hy'
        exact absurd z (nI_pos (by omega))
      · refine c384 hk6 (zSm_trans s4 s6 (by decide) (by decide)) (fun z => by omega) (fun _ => ⟨hT.symm, ?_⟩)
        rw [hT, List.length_cons]
end RIN2
/-! what a row leaves is counted -/
section RBLE
variable {N : List zNt}
theorem zkfo_le {held : Nat} : ∀ (l : List Nat) (s s' : zkcs), (∀ x, s.1 = some x → x.length + held ≤ s.2.2) → zkfo (zkin N (zkbl N) held) l s = .inr s' → ∀ x, s'.1 = some x → x.length + held ≤ s'.2.2
  | [], s, s', hs, h => by cases h; exact hs
  | j :: l, s, s', hs, h => by
    rw [zkfo] at h
    cases hz : zkin N (zkbl N) held j s with
    | inl p => rw [hz] at h; cases h
    | inr t =>
      rw [hz] at h
      refine zkfo_le l t s' ?_ h
      unfold zkin at hz
      cases he : N[j]? with
      | none => rw [he] at hz; cases hz
      | some e =>
        rw [he] at hz
        dsimp only at hz
        obtain ⟨s1, s2, s3⟩ := s
        cases s1 with
        | none => cases hz
        | some st =>
          dsimp only at hz
          by_cases hir : (zkI e && zkrd (eC e) st held) = true
          · rw [if_pos hir] at hz
            cases hE : zkE N (zkbl N) j e st held (s2 + 1) s3 with
            | inl p => rw [hE] at hz; cases hz
            | inr t' =>
              rw [hE] at hz
              dsimp only at hz
              obtain ⟨t1, t2, t3⟩ := t'
              unfold zkpo at hz
              cases t1 with
              | none => cases hz; intro x hx; cases hx
              | some y =>
                dsimp only at hz
                split at hz
                · cases hz
                  intro x hx
                  cases hx
                  show y.length + held ≤ max t3 (y.length + held)
                  omega
                · cases hz
          · rw [if_neg hir] at hz; cases hz
theorem zkbl_le (hg : zGd N) {i : Nat} {st l : List Term} {held a b a' b' : Nat} (h : zkbl N i st held a b = .inr (some l, a', b')) : l.length + held ≤ b' := by
  rw [zkbl_eq hg.1.1] at h
  unfold zkB at h
  cases he : N[i]? with
  | none => rw [he] at h; cases h
  | some e =>
    rw [he] at h
    dsimp only at h
    split at h
    · exact zkfo_le _ _ _ (fun x hx => by cases hx; show st.length + held ≤ max b _; omega) h l rfl
    · cases h
end RBLE
/-! the reference's check: an instruction with rows -/
section RBL
variable {xs : List Value} {d : Nat} {h : zH} {M0 M M' : Nat → zE} {F0 F F' : Nat → Value} {Q : zO → zH → Prop} {Ts Ts' : List Term} {T U : Term} {N : List zNt} {fr j D stop t f : Nat} {e : zNt} {st st' sv l : List Term} {held most ins c held' most' ins' : Nat} {ce ce' : List (Nat × Nat × Nat)} {lo lo' : List (Nat × Nat)} {x y : Int32}
theorem zFrm_feq {A : Term} {bs : List Term} (hf : zFrm M D Ts j stop A bs) (he : zFeq (D + 1) M M') (hx : ∀ x U, zTi Ts x U → zTi Ts' x U) : zFrm M' D Ts' j stop A bs := by
  obtain ⟨a1, a2, ⟨x, a3, a4⟩, a5, a6, a7⟩ := hf
  refine ⟨(he.1 38 (by decide) D (by omega)).trans a1, (he.1 39 (by decide) D (by omega)).trans a2, ⟨x, (he.1 41 (by decide) D (by omega)).trans a3, hx _ _ a4⟩, (he.1 45 (by decide) D (by omega)).trans a5, zSv_P (zSv_feq a6 he (Or.inl rfl) a7) hx, a7⟩
/-- the loop's turn at the end of a row -/
theorem zturn {lost : Bool} {A : Term} {bs : List Term} (hl : 50 ≤ h.1.length) (hc : zKC M0 F0 N fr) (hk : zKS M0 M F0 F Ts l held most ins ce lo) (hf : zFrm M D Ts j stop A bs) (hD : D ≤ 11) (ht : t < 400) {r : Nat} (hr : r ≤ 100)
    (q : zCV xs (d + 6) 170 12 (some 10) [Value.int (nI D), Value.int (zB lost)] (zov h M) (zKI (fun x79 h80 => ((x79 < 0 → (((0 : Int32) = 0 ∨ (0 : Int32) = 1) ∧ Q (.inl (some (Value.int (0 : Int32)))) h80)) ∧ (¬ x79 < 0 → ((x79 = (2 : Int32) → zw_167_148 xs (d + 6) Q (zC75 xs (d + 6) Q) (some 10) (nI D) (nI stop) (nI t) (nI j) x79 (1 : Int32) h80) ∧ (¬ x79 = (2 : Int32) → zw_167_148 xs (d + 6) Q (zC75 xs (d + 6) Q) (some 10) (nI D) (nI stop) (nI t) (nI j) x79 (0 : Int32) h80))))) (fun e h => Q (.inr e) h))) :
    zC75 xs (d + 6) Q (some 10) (nI (D + 1)) (nI r) (nI r) (zB lost) (nI t) (zov h M) := by
  obtain ⟨h10, hR, hr', hx, h6⟩ := zKS_c hk hc
  have hfs := hk.2.2.2.2.2.2.2
  obtain ⟨f1, f2, _⟩ := hf
  obtain ⟨L38, f38, g38⟩ := zFsh_at hfs (k := 38) (n := 12) (by decide)
  obtain ⟨L39, f39, g39⟩ := zFsh_at hfs (k := 39) (n := 12) (by decide)
  rw [zAt_i f38] at f1
  rw [zAt_i f39] at f2
  refine zC75_i (pk_lt t 400 (fun _ => pk_lt r r (fun z => absurd z (by omega)) (fun _ => pk_lt 0 (D + 1) (fun _ => ⟨fun _ => ?_, fun z => absurd rfl z⟩) (fun z => absurd z (by omega)))) (fun z => absurd z (by omega)))
  intro x68 hx68
  rw [show nI (D + 1) + (-1 : Int32) = nI D from (Int32.sub_eq_add_neg ..).symm.trans (pk_sub (a := D + 1) (b := 1) (by omega))] at hx68
  subst hx68
  exact zM_gr hl h10 (hR (38, 38) (by decide)) (zM_ia' hl f38 f1 (zM_gr hl h10 (hR (39, 39) (by decide)) (zM_ia' hl f39 f2 q)))
def zkh1 (c held : Nat) : Nat := if c = 33 then held + 1 else held
theorem zkb_c (hnb : zkbk c = true) : c = 33 ∨ c = 41 ∨ c = 44 ∨ c = 47 ∨ c = 49 ∨ c = 50 ∨ c = 58 ∨ c = 59 := by
  unfold zkbk at hnb
  simp at hnb
  omega
theorem zkop_ok (hnb : zkbk c = true) (hrd : zkrd c st held = true) (hok : zkok held st) : zkok (zkh1 c held) (zkop c st) ∧ 0 < st.length := by
  have hl12 := hok.1
  unfold zkh1
  rcases zkb_c hnb with rfl | rfl | rfl | rfl | rfl | rfl | rfl | rfl
  · have h0 : 1 ≤ st.length := of_decide_eq_true hrd
    refine ⟨⟨?_, fun T hT => hok.2 T (List.mem_of_mem_drop hT)⟩, h0⟩
    show (st.drop 1).length + (held + 1) ≤ 12
    rw [List.length_drop]; omega
  · exact ⟨(zkf1_ok hok hrd (by decide)).1, (zkhs_c (k := 0) (c := 6) hrd).1⟩
  · exact ⟨(zkf1_ok hok hrd (by decide)).1, (zkhs_c (k := 0) (c := 7) hrd).1⟩
  · have hr2 : (zkhs st 0 8 && decide (st.length + held < 12)) = true := hrd
    exact ⟨(zkf1_ok hok hrd (by decide)).1, (zkhs_c ((Bool.and_eq_true _ _).mp hr2).1).1⟩
  · exact zkbg_ok hok hrd (by decide)
  · exact zkbg_ok hok hrd (by decide)
  · exact ⟨(zkf1_ok hok hrd (by decide)).1, (zkhs_c (k := 0) (c := 1) hrd).1⟩
  · exact zkbg_ok hok hrd (by decide)
theorem zkop_33 (h0 : 0 < st.length) : (zkop 33 st).length + 1 = st.length := by
  show (st.drop 1).length + 1 = _; rw [List.length_drop]; omega
theorem zkop_mx (hg : zGd N) (h0 : 0 < st.length) (hms : st.length + held ≤ most) {a : Nat} : zkbl N (j + 1) (zkop c st) (zkh1 c held) a (max most ((zkop c st).length + held)) = zkbl N (j + 1) (zkop c st) (zkh1 c held) a most := by
  unfold zkh1
  by_cases q : c = 33
  · subst q
    have := zkop_33 h0
    rw [show max most ((zkop 33 st).length + held) = most by omega]
  · rw [if_neg q]
    exact zkbl_max hg _ _ _ _ _
theorem zkE_b1 {a b p : Nat} (hnb : zkbk (eC e) = true) (hp : zkbl N (j + 1) (zkop (eC e) st) (zkh1 (eC e) held) a b = .inl p) : zkE N (zkbl N) j e st held a b = .inl p := by
  have cods := zkb_c hnb
  unfold zkh1 at hp
  unfold zkE
  by_cases q : eC e = 33
  · rw [if_pos q]
    rw [if_pos q, q] at hp
    have hp : zkbl N (j + 1) (st.drop 1) (held + 1) a b = .inl p := hp
    rw [hp]
  · rw [if_neg q]
    rw [if_neg q] at hp
    by_cases q2 : eC e = 58 ∨ eC e = 41 ∨ eC e = 44 ∨ eC e = 47
    · have : zkop (eC e) st = zkf1 (eC e) st := by unfold zkop; rw [if_neg q, if_neg (by omega)]
      rw [this] at hp
      rw [if_pos q2, hp]
    · have : zkop (eC e) st = zkbg (eC e) st := by unfold zkop; rw [if_neg q, if_pos (by omega)]
      rw [this] at hp
      rw [if_neg q2, if_pos (by omega), hp]
theorem zkE_c1 {a b a1 b1 : Nat} {o1 : Option (List Term)} (hnb : zkbk (eC e) = true) (two : ¬ (eC e = 58 ∨ eC e = 41 ∨ eC e = 44 ∨ eC e = 47)) (hr1 : zkbl N (j + 1) (zkop (eC e) st) (zkh1 (eC e) held) a b = .inr (o1, a1, b1)) : zkE N (zkbl N) j e st held a b = (match zkc1 (eC e) st o1 with
        | none => .inl (eF e)
        | some l' => .inr (some l', a1, b1)) := by
  have cods := zkb_c hnb
  unfold zkh1 at hr1
  unfold zkE
  by_cases q : eC e = 33
  · rw [if_pos q]
    rw [if_pos q, q] at hr1
    have hr1 : zkbl N (j + 1) (st.drop 1) (held + 1) a b = .inr (o1, a1, b1) := hr1
    rw [hr1]
    cases o1 with
    | none => rfl
    | some l1 =>
      have : zkc1 (eC e) st (some l1) = some (zkat st 0 :: l1) := by unfold zkc1; dsimp only; rw [if_pos q]
      rw [this]
  · rw [if_neg q] at hr1
    rw [if_neg q, if_neg two, if_pos (by omega)]
    have : zkop (eC e) st = zkbg (eC e) st := by unfold zkop; rw [if_neg q, if_pos (by omega)]
    rw [this] at hr1
    rw [hr1]
    dsimp only
    unfold zkrp zkc1
    cases o1 with
    | none => rfl
    | some l1 =>
      dsimp only
      rw [if_neg q]
      by_cases q5 : eC e = 50
      · rw [if_pos q5, if_pos q5]
        by_cases q6 : l1.length = st.length ∧ l1.drop 1 = st.drop 1
        · rw [if_pos q6, if_pos q6]
        · rw [if_neg q6, if_neg q6]
      · rw [if_neg q5, if_neg q5]
        by_cases q6 : l1 = (if eC e = 59 then st else st.drop 1)
        · rw [if_pos q6, if_pos q6]
        · rw [if_neg q6, if_neg q6]
theorem zkE_c2 {a b a1 b1 : Nat} {o1 : Option (List Term)} (two : eC e = 58 ∨ eC e = 41 ∨ eC e = 44 ∨ eC e = 47) (hr1 : zkbl N (j + 1) (zkop (eC e) st) (zkh1 (eC e) held) a b = .inr (o1, a1, b1)) : zkE N (zkbl N) j e st held a b = (match zkbl N (znx N (j + 1)) (zkf2 (eC e) st) held a1 b1 with
      | .inl p => .inl p
      | .inr (o2, a, b) => zkei (eF e) o1 o2 a b) := by
  unfold zkh1 at hr1
  rw [if_neg (by omega)] at hr1
  have : zkop (eC e) st = zkf1 (eC e) st := by unfold zkop; rw [if_neg (by omega), if_neg (by omega)]
  rw [this] at hr1
  unfold zkE
  rw [if_neg (by omega), if_pos two, hr1]
  first | done | rfl
theorem zkin_E {o : Option (List Term)} (he : N[j]? = some e) (hI : zkI e = true) (hrd : zkrd (eC e) st held = true) : zkin N (zkbl N) held j (some st, ins, most) = (match zkE N (zkbl N) j e st held (ins + 1) most with
      | .inl p => .inl p
      | .inr s' => zkpo (eF e) held s') := by
  unfold zkin
  rw [he]
  dsimp only
  rw [hI, hrd, Bool.true_and, if_pos rfl]
  first | done | rfl
/-- the end of an instruction -/
theorem zinfin {M7 : Nat → zE} {F7 : Nat → Value} {Ts7 l7 : List Term} {most7 insE mostE t7 : Nat} {ce7 : List (Nat × Nat × Nat)} {lo7 : List (Nat × Nat)} (hl : 50 ≤ h.1.length) (hc : zKC M0 F0 N fr) (he : N[j]? = some e) (hI : zkI e = true) (hrd : zkrd (eC e) st held = true) (hok : zkok held st) (hm12 : most ≤ 12)
    (kE : zErr h M0 F0 Q (zkin N (zkbl N) held j (some st, ins, most))) (kC : zCon xs (d + 6) h M0 F0 Q (zkin N (zkbl N) held j (some st, ins, most)) (znx N j - j) D (znx N j) stop held M Ts ce lo t)
    (hE : zkE N (zkbl N) j e st held (ins + 1) most = .inr (some l7, insE, mostE)) (hk7 : zKS M0 M7 F0 F7 Ts7 l7 held most7 insE ce7 lo7) (hmo7 : most7 = max mostE (l7.length + held)) (gw7 : zGrw Ts Ts7 ce ce7 lo lo7 t (t7 + 1) (znx N j - j)) (fe7 : zFeq D M M7) : zw_167_403 xs (d + 6) Q (zC75 xs (d + 6) Q) (some 10) (nI D) (nI stop) 0 (nI t7) (nI j) (-1) (zov h M7) := by
  have hg := hc.2.2.1
  have hl12 := hok.1
  have zI := zkin_E (N := N) (o := none) (ins := ins) (most := most) he hI hrd
  have hzp : zkin N (zkbl N) held j (some st, ins, most) = zkpo (eF e) held (some l7, insE, mostE) := by rw [zI, hE]
  have hpo : zkpo (eF e) held (some l7, insE, mostE) = if l7.length + held ≤ 12 ∧ ztdep (zkat l7 0) ≤ 8 then .inr (some l7, insE, max mostE (l7.length + held)) else .inl (eF e) := rfl
  have hz0 : ¬ 0 < l7.length → ztdep (zkat l7 0) ≤ 8 := fun z => by
    have : zkat l7 0 = .arg 0 := by unfold zkat; rw [List.getD_eq_getElem?_getD, List.getElem?_eq_none (by omega)]; rfl
    rw [this]; decide
  refine zg403 (d := d + 4) (lost := 0) hl hc hk7 he (by omega) (fun T hT => ?_) (fun z M6 F6 hk6 h5 => ?_) (fun z1 z2 => zg459 (d := d + 4) hl hc hk7 he ?_)
  · obtain ⟨k, hk⟩ := List.getElem?_of_mem hT
    obtain ⟨a1, a2, a3, a4, Sk, a5, a6, a7⟩ := hk7.2.2.2.2.1
    obtain ⟨x, _, w, _, w2, _⟩ := a7 k T hk
    exact (hk7.2.2.2.1.2.2.2.1 w T w2).2
  · refine kE (eF e) M6 F6 Ts7 l7 held _ _ ce7 lo7 ?_ hk6 h5
    rw [hzp, hpo, if_neg (fun w => z ⟨w.1, fun _ => w.2⟩)]
  · have hd8 : ztdep (zkat l7 0) ≤ 8 := (Classical.em (0 < l7.length)).elim z2 hz0
    have hz : zkin N (zkbl N) held j (some st, ins, most) = .inr (some l7, insE, max mostE (l7.length + held)) := by rw [hzp, hpo, if_pos ⟨z1, hd8⟩]
    have okf := (zkin_ok hg he (fun i' h1 h2 => zkbl_ok hg N.length i' (by omega) h2) hok hm12 hz).2.2.2 l7 rfl
    rw [hmo7] at hk7
    exact kC (some l7) insE _ M7 F7 Ts7 l7 ce7 lo7 (t7 + 1) hz hk7 (fun _ z => by cases z; rfl) okf gw7 fe7
/-- behind the only row -/
theorem zrow1 {M4 : Nat → zE} {F4 : Nat → Value} {Ts4 st4 : List Term} {ins1 most1 t4 : Nat} {ce4 : List (Nat × Nat × Nat)} {lo4 : List (Nat × Nat)} {o1 : Option (List Term)} (hl : 50 ≤ h.1.length) (hc : zKC M0 F0 N fr) (he : N[j]? = some e) (hI : zkI e = true) (hnb : zkbk (eC e) = true) (two : ¬ (eC e = 58 ∨ eC e = 41 ∨ eC e = 44 ∨ eC e = 47)) (hrd : zkrd (eC e) st held = true) (hok : zkok held st) (hm12 : most ≤ 12) (h0 : 0 < st.length) (hk100 : D ≤ 11)
    (kE : zErr h M0 F0 Q (zkin N (zkbl N) held j (some st, ins, most))) (kC : zCon xs (d + 6) h M0 F0 Q (zkin N (zkbl N) held j (some st, ins, most)) (znx N j - j) D (znx N j) stop held M Ts ce lo t)
    (hr1 : zkbl N (j + 1) (zkop (eC e) st) (zkh1 (eC e) held) (ins + 1) most = .inr (o1, ins1, most1)) (hk4 : zKS M0 M4 F0 F4 Ts4 st4 (zkh1 (eC e) held) most1 ins1 ce4 lo4) (ho1 : ∀ l, o1 = some l → st4 = l) (ok4 : zkok (zkh1 (eC e) held) st4) (frm4 : zFrm M4 D Ts4 j stop (zkat st 0) (st.drop 1)) (fe4 : zFeq D M M4) (hm1 : most1 ≤ 12) (hB : zns Ts4 ≤ 200) (gw : ∀ {Ts5 : List Term}, (∀ x U, zTi Ts4 x U → zTi Ts5 x U) → zns Ts5 ≤ zns Ts4 + 1 → zGrw Ts Ts5 ce ce4 lo lo4 t (t4 + 1) (znx N j - j)) (ht4 : t4 < 400) {r : Nat} (hr : r ≤ 100) : zC75 xs (d + 6) Q (some 10) (nI (D + 1)) (nI r) (nI r) (zB o1.isNone) (nI t4) (zov h M4) := by
  obtain ⟨i1, i2, i3, i4⟩ := zkI_ok hI
  have hg := hc.2.2.1
  have cods := zkb_c hnb
  have zI := zkin_E (N := N) (o := none) (ins := ins) (most := most) he hI hrd
  have zE2 := zkE_c1 hnb two hr1
  have ok4l := ok4.1
  have o1e : (if o1.isNone = true then none else some st4) = o1 := by
    cases o1 with
    | none => rfl
    | some l1 => rw [ho1 l1 rfl]; rfl
  have hms4 : o1.isNone = false → st4.length + zkh1 (eC e) held ≤ most1 := fun q => by
    cases o1 with
    | none => cases q
    | some l1 => rw [ho1 l1 rfl]; exact zkbl_le hg hr1
  have hM1 : eM e = 1 := by
    rw [i4]
    have : eC e = 33 ∨ eC e = 49 ∨ eC e = 50 ∨ eC e = 59 := by omega
    rcases this with q | q | q | q <;> rw [q] <;> rfl
  have h59 : eC e = 59 → zkat st 0 = .arg 1 := fun q => by
    rw [q] at hrd
    have hq := zkhs_c (k := 0) (c := 1) hrd
    rw [zarg_c (zkat_in hok.2 0).1.1 (by omega), hq.2]
  have hh2 : (if eC e = 33 then zkh1 (eC e) held - 1 else zkh1 (eC e) held) = held := by
    unfold zkh1
    by_cases q : eC e = 33
    · rw [if_pos q, if_pos q]; omega
    · rw [if_neg q, if_neg q]
  have hhd : eC e = 33 → 1 ≤ zkh1 (eC e) held := fun q => by unfold zkh1; rw [if_pos q]; omega
  refine zturn (d := d) hl hc hk4 frm4 hk100 ht4 hr (zM_cv hl hk4.1.1 (zc170a (d := d + 3) (st0 := st) hl hc hk4 hk100 frm4 he hM1 (by omega) h0 h59 (fun _ => ok4) (by omega) hhd hms4 hm1 (by omega) hB (fun hn M5 F5 Ts5 l5 hd5 mo5 hk5 h5 => zKI_v ⟨fun _ => ⟨Or.inl rfl, ?_⟩, fun z => absurd (by decide) z⟩) (fun l' hs' M5 F5 Ts5 hk5 hx5 hn5 s5 => zKI_v ⟨fun z => absurd z (by decide), fun _ => ⟨fun z => absurd z (by decide), fun _ => ⟨fun z => absurd z (by decide), fun _ => ?_⟩⟩⟩)))
  · rw [o1e] at hn
    rw [hn] at zE2
    exact kE _ M5 F5 Ts5 _ _ _ _ ce4 lo4 (by rw [zI, zE2]) hk5 h5
  · rw [o1e] at hs'
    rw [hs'] at zE2
    rw [hh2] at hk5
    exact zinfin hl hc he hI hrd hok hm12 kE kC zE2 hk5 rfl (gw hx5 hn5) (zFeq_t fe4 (zFeq_sm s5 (by decide)))
end RBL
section RBL2
variable {xs : List Value} {d : Nat} {h : zH} {M0 M M' : Nat → zE} {F0 F F' : Nat → Value} {Q : zO → zH → Prop} {Ts Ts' : List Term} {T U : Term} {N : List zNt} {fr j D stop t f g : Nat} {e : zNt} {st st' sv l : List Term} {held most ins c held' most' ins' : Nat} {ce ce' : List (Nat × Nat × Nat)} {lo lo' : List (Nat × Nat)} {x y : Int32}
/-- behind the second row -/
theorem zrow2 {M6 : Nat → zE} {F6 : Nat → Value} {Ts6 st6 : List Term} {ins2 most2 t6 : Nat} {ce6 : List (Nat × Nat × Nat)} {lo6 : List (Nat × Nat)} {o1 o2 : Option (List Term)} (hl : 50 ≤ h.1.length) (hc : zKC M0 F0 N fr) (he : N[j]? = some e) (hI : zkI e = true) (hM2 : eM e = 2) (hrd : zkrd (eC e) st held = true) (hok : zkok held st) (hm12 : most ≤ 12) (hk100 : D ≤ 11)
    (kE : zErr h M0 F0 Q (zkin N (zkbl N) held j (some st, ins, most))) (kC : zCon xs (d + 6) h M0 F0 Q (zkin N (zkbl N) held j (some st, ins, most)) (znx N j - j) D (znx N j) stop held M Ts ce lo t)
    (hE : zkE N (zkbl N) j e st held (ins + 1) most = zkei (eF e) o1 o2 ins2 most2) (hk6 : zKS M0 M6 F0 F6 Ts6 st6 held most2 ins2 ce6 lo6) (ho2 : ∀ l, o2 = some l → st6 = l) (ok6 : zkok held st6) (hms6 : ∀ l, o2 = some l → l.length + held ≤ most2) (frm6 : zFrm M6 D Ts6 j stop (zkat st 0) (st.drop 1)) (h40 : zAt M6 40 D = some 1) (h47 : zAt M6 47 D = some (zas o1)) (h46 : ∀ l1, o1 = some l1 → zSv (zTi Ts6) M6 46 D l1 ∧ l1.length + held ≤ most2) (fe6 : zFeq D M M6) (hm2 : most2 ≤ 12) (gw : zGrw Ts Ts6 ce ce6 lo lo6 t (t6 + 1) (znx N j - j)) (ht6 : t6 < 400) {r : Nat} (hr : r ≤ 100) : zC75 xs (d + 6) Q (some 10) (nI (D + 1)) (nI r) (nI r) (zB o2.isNone) (nI t6) (zov h M6) := by
  have hg := hc.2.2.1
  have zI := zkin_E (N := N) (o := none) (ins := ins) (most := most) he hI hrd
  have ok6l := ok6.1
  have hms : o2.isNone = false → st6.length + held ≤ most2 := fun q => by
    cases o2 with
    | none => cases q
    | some l1 => rw [ho2 l1 rfl]; exact hms6 l1 rfl
  refine zturn (d := d) hl hc hk6 frm6 hk100 ht6 hr (zM_cv hl hk6.1.1 (zc170c (d := d + 3) (o1 := o1) hl hc hk6 hk100 frm6 h40 h47 h46 he hM2 hms (by omega) hm2 (fun hn M7 F7 hk7 h5 => zKI_v ⟨fun _ => ⟨Or.inl rfl, ?_⟩, fun z => absurd (by decide) z⟩) (fun l' hl' M7 F7 hk7 s7 => zKI_v ⟨fun z => absurd z (by decide), fun _ => ⟨fun z => absurd z (by decide), fun _ => ⟨fun z => absurd z (by decide), fun _ => ?_⟩⟩⟩) (fun hn1 hn2 => zKI_v ⟨fun z => absurd z (by decide), fun _ => ⟨fun _ => ⟨fun z => absurd z (by decide), fun _ => ?_⟩, fun z => absurd rfl z⟩⟩)))
  · obtain ⟨l1, rfl, hn, hne⟩ := hn
    cases o2 with
    | none => cases hn
    | some l2 =>
      have h2 := ho2 l2 rfl
      have : zkei (eF e) (some l1) (some l2) ins2 most2 = .inl (eF e) := by unfold zkei; dsimp only; rw [if_neg (by rw [← h2]; exact hne)]
      rw [this] at hE
      exact kE _ M7 F7 Ts6 _ _ _ _ ce6 lo6 (by rw [zI, hE]) hk7 h5
  · have hE2 : zkei (eF e) o1 o2 ins2 most2 = .inr (some l', ins2, most2) ∧ l'.length + held ≤ most2 := by
      rcases hl' with ⟨q1, q2, q3⟩ | ⟨q1, q2⟩
      · cases o2 with
        | none => cases q1
        | some l2 =>
          have h2 := ho2 l2 rfl
          rw [q2, h2]
          refine ⟨?_, hms6 l2 rfl⟩
          rcases q3 with q3 | q3
          · rw [q3]; rfl
          · rw [q3, h2]; unfold zkei; dsimp only; rw [if_pos rfl]
      · cases o2 with
        | none => rw [q2]; exact ⟨rfl, (h46 l' q2).2⟩
        | some l2 => cases q1
    rw [hE2.1] at hE
    refine zinfin hl hc he hI hrd hok hm12 kE kC hE hk7 (by have := hE2.2; omega) gw (zFeq_t fe6 (zFeq_sm s7 (by decide)))
  · cases o2 with
    | some l2 => cases hn1
    | none =>
      rw [hn2] at hE
      have hE2 : zkei (eF e) none none ins2 most2 = .inr (none, ins2, most2) := rfl
      rw [hE2] at hE
      have hz : zkin N (zkbl N) held j (some st, ins, most) = .inr (none, ins2, most2) := by rw [zI, hE]; rfl
      refine zg403 (d := d + 4) (lost := 1) hl hc hk6 he (by omega) (fun T hT => by have := (ok6.2 T hT).2; omega) (fun z => absurd ⟨ok6.1, fun _ => (zkat_in ok6.2 0).2⟩ z) (fun _ _ => zg459 (d := d + 4) hl hc hk6 he ?_)
      exact kC none ins2 most2 M6 F6 Ts6 st6 ce6 lo6 (t6 + 1) hz hk6 (fun _ z => by cases z) ok6 gw fe6
/-- behind the first of two rows -/
theorem zrow12 {M4 : Nat → zE} {F4 : Nat → Value} {Ts4 st4 : List Term} {ins1 most1 t4 : Nat} {ce4 : List (Nat × Nat × Nat)} {lo4 : List (Nat × Nat)} {o1 : Option (List Term)} (hl : 50 ≤ h.1.length) (hc : zKC M0 F0 N fr) (IH : ∀ i, zBk xs (d + 6) h M0 F0 N Q g i) (hht : zHt N (g + 1) j) (hD : D + g ≤ 11) (he : N[j]? = some e) (hI : zkI e = true) (two : eC e = 58 ∨ eC e = 41 ∨ eC e = 44 ∨ eC e = 47) (hrd : zkrd (eC e) st held = true) (hok : zkok held st) (hms : st.length + held ≤ most) (hm12 : most ≤ 12) (h0 : 0 < st.length) (hk100 : D ≤ 11) (hres : zRes Ts ce lo t (znx N j - j))
    (kE : zErr h M0 F0 Q (zkin N (zkbl N) held j (some st, ins, most))) (kC : zCon xs (d + 6) h M0 F0 Q (zkin N (zkbl N) held j (some st, ins, most)) (znx N j - j) D (znx N j) stop held M Ts ce lo t)
    (hr1 : zkbl N (j + 1) (zkop (eC e) st) (zkh1 (eC e) held) (ins + 1) most = .inr (o1, ins1, most1)) (hk4 : zKS M0 M4 F0 F4 Ts4 st4 held most1 ins1 ce4 lo4) (ho1 : ∀ l, o1 = some l → st4 = l) (ok4 : zkok held st4) (frm4 : zFrm M4 D Ts4 j stop (zkat st 0) (st.drop 1)) (h40 : zAt M4 40 D = some 0) (fe4 : zFeq D M M4) (hm1 : most1 ≤ 12) (hmm : most ≤ most1) (gw : zGrw Ts Ts4 ce ce4 lo lo4 t t4 (znx N (j + 1) - (j + 1))) {r : Nat} (hr : r ≤ 100) : zC75 xs (d + 6) Q (some 10) (nI (D + 1)) (nI r) (nI r) (zB o1.isNone) (nI t4) (zov h M4) := by
  obtain ⟨i1, i2, i3, i4⟩ := zkI_ok hI
  have hg := hc.2.2.1
  have hN100 := hg.1.1
  have zI := zkin_E (N := N) (o := none) (ins := ins) (most := most) he hI hrd
  have zE2 := zkE_c2 two hr1
  have ok4l := ok4.1
  have hok1 := hok.1
  have hjl := (List.getElem?_eq_some_iff.mp he).1
  have hM2 : eM e = 2 := by rw [i4]; rcases two with q | q | q | q <;> rw [q] <;> rfl
  have hkk := zGd_k hg he
  have hmem1 := List.mem_of_getElem? (zchn_kid (N := N) (i := j) (k := 0) (show 0 < eM e by omega) (by decide))
  have hmem2 := List.mem_of_getElem? (zchn_kid (N := N) (i := j) (k := 1) (show 1 < eM e by omega) (by decide))
  have hmem2 : znx N (j + 1) ∈ zchn N (eM e) (j + 1) := hmem2
  have hc1 := zchn_lt _ _ _ (j + 1) hkk hmem1
  have hl1 := zful_lt hc1.2.2.1
  have hc2 := zchn_lt _ _ _ (znx N (j + 1)) hkk hmem2
  have hl2 := zful_lt hc2.2.2.1
  have hj1 := znx_ge (N := N) (i := j + 1)
  obtain ⟨ht1e, ht1, ht1c⟩ := hht
  cases he.symm.trans ht1
  have hh2 : zHt N g (znx N (j + 1)) := ht1c _ hmem2
  have okf2 := (zkf1_ok hok hrd two).2
  have okf2l := okf2.1
  have h41 : eC e = 41 → 5 ≤ ztc (zkat st 0) := fun q => by rw [q] at hrd; have := (zkhs_c (k := 0) (c := 6) hrd).2; omega
  have h44 : eC e = 44 → ztc (zkat st 0) = 7 := fun q => by rw [q] at hrd; exact (zkhs_c (k := 0) (c := 7) hrd).2
  have hh1 : zkh1 (eC e) held = held := by unfold zkh1; rw [if_neg (by omega)]
  obtain ⟨g1, g2, g3, g4, g5⟩ := gw
  obtain ⟨r1, r2, r3, r4⟩ := hres
  have errS : ∀ p, zkbl N (znx N (j + 1)) (zkf2 (eC e) st) held ins1 most1 = .inl p → zkin N (zkbl N) held j (some st, ins, most) = .inl p := fun p hp => by
    rw [hp] at zE2
    rw [zI, zE2]
  have o1m : ∀ l1, o1 = some l1 → l1.length + held ≤ most1 := fun l1 q => by
    rw [q, hh1] at hr1
    exact zkbl_le hg hr1
  refine zturn (d := d) hl hc hk4 frm4 hk100 (by omega) hr (zM_cv hl hk4.1.1 (zc170b (d := d + 3) (st0 := st) hl hc hk4 hk100 frm4 h40 he hM2 two h41 h44 (by omega) (by omega) h0 (by omega) hm1 (by omega) (fun e2 he2 hs2 M5 F5 hk5 fe5 frm5 h405 h475 h465 => zKI_v ⟨fun z => absurd z (by decide), fun _ => ⟨fun z => absurd z (by decide), fun _ => ⟨fun _ => ?_, fun z => absurd rfl z⟩⟩⟩) (fun e2 he2 hs2 M5 F5 l5 mo5 hk5 h5 => zKI_v ⟨fun _ => ⟨Or.inl rfl, ?_⟩, fun z => absurd (by decide) z⟩)))
  · obtain ⟨h105, hR5, hr5, hx5, h65⟩ := zKS_c hk5 hc
    refine zM_cv hl h105 (zc164 hl h105 hR5 hx5 (by omega) hN100 (zKI_v ?_))
    obtain ⟨most5, hmo5⟩ : ∃ x, max most1 ((zkf2 (eC e) st).length + held) = x := ⟨_, rfl⟩
    rw [hmo5] at hk5
    refine zg403 (d := d + 4) (lost := 0) hl hc hk5 he (by omega) (fun T hT => by have := (okf2.2 T hT).2; omega) (fun z => absurd ⟨okf2.1, fun _ => (zkat_in okf2.2 0).2⟩ z) (fun _ _ => zg459r (d := d + 4) hl hc hk5 hl2.1 ?_)
    have hmx : zkbl N (znx N (j + 1)) (zkf2 (eC e) st) held ins1 most5 = zkbl N (znx N (j + 1)) (zkf2 (eC e) st) held ins1 most1 := by rw [← hmo5]; exact zkbl_max hg _ _ _ _ _
    refine IH (znx N (j + 1)) (D + 1) (t4 + 1) _ held most5 ins1 M5 F5 Ts4 ce4 lo4 hh2 (by omega) hk5 okf2 (by omega) (by omega) ⟨e2, he2, hs2⟩ ⟨by omega, by omega, by omega, by omega⟩ (fun p M' F' Ts' st' hd' mo' in' ce' lo' hp hk' h5 => kE p M' F' Ts' st' hd' mo' in' ce' lo' (errS p (by rw [← hmx]; exact hp)) hk' h5) ?_
    intro o2 ins2 most2 M6 F6 Ts6 st6 ce6 lo6 t6 hr2 hk6 ho2 ok6 gw6 fe6
    rw [hmx] at hr2
    have bo2 := zkbl_ok hg N.length (znx N (j + 1)) (by omega) hl2.1 _ _ _ _ _ _ _ okf2 hm1 hr2
    have bm2 := zkbl_m hg N.length (znx N (j + 1)) (by omega) _ _ _ _ _ _ _ hr2
    rw [hr2] at zE2
    obtain ⟨q1, q2, q3, q4, q5⟩ := gw6
    refine zrow2 (o1 := o1) hl hc he hI hM2 hrd hok hm12 hk100 kE kC zE2 hk6 ho2 ok6 (fun l2 q => by rw [q] at hr2; exact zkbl_le hg hr2) (zFrm_feq frm5 fe6 q1) ((fe6.1 40 (by decide) D (by omega)).trans h405) ?_ (fun l1 hl1' => ?_) (zFeq_t fe4 (zFeq_t fe5 (zFeq_le fe6 (by omega)))) bo2.1 ⟨fun x U z => q1 _ _ (g1 _ _ z), by omega, by omega, by omega, by omega⟩ (by omega) (by omega)
    · rw [fe6.1 47 (by decide) D (by omega), h475]
      cases o1 with
      | none => rfl
      | some l1 => rw [ho1 l1 rfl]; rfl
    · have := o1m l1 hl1'
      refine ⟨?_, by omega⟩
      rw [← ho1 l1 hl1']
      exact zSv_P (zSv_feq h465 fe6 (Or.inr rfl) (by omega)) q1
  · refine kE _ M5 F5 Ts4 _ _ _ _ ce4 lo4 (errS _ ?_) hk5 h5
    rw [zkbl_eq hg.1.1]
    unfold zkB
    rw [he2]
    dsimp only
    rw [if_neg hs2]
theorem zblockI {M2 : Nat → zE} {F2 : Nat → Value} (hl : 50 ≤ h.1.length) (hc : zKC M0 F0 N fr) (IH : ∀ i, zBk xs (d + 6) h M0 F0 N Q g i) (hk2 : zKS M0 M2 F0 F2 Ts st held most (ins + 1) ce lo) (hfe : zFeq D M M2) (hn38 : zAt M2 38 D = some (nI j)) (hn39 : zAt M2 39 D = some (nI stop)) (hht : zHt N (g + 1) j) (hD : D + g ≤ 11) (he : N[j]? = some e) (hI : zkI e = true) (hnb : zkbk (eC e) = true) (hrd : zkrd (eC e) st held = true) (hok : zkok held st) (hms : st.length + held ≤ most) (hm12 : most ≤ 12) (hres : zRes Ts ce lo t (znx N j - j))
    (kE : zErr h M0 F0 Q (zkin N (zkbl N) held j (some st, ins, most))) (kC : zCon xs (d + 6) h M0 F0 Q (zkin N (zkbl N) held j (some st, ins, most)) (znx N j - j) D (znx N j) stop held M Ts ce lo t) :
    zCV xs (d + 6) 180 12 (some 10) [Value.int (nI D)] (zov h M2) (zKI (fun x61 h62 => ((x61 = 0 → (((0 : Int32) = 0 ∨ (0 : Int32) = 1) ∧ Q (.inl (some (Value.int (0 : Int32)))) h62)) ∧ (¬ x61 = 0 → ∀ x65 : Int32, x65 = (nI j + (1 : Int32)) → zw_167_384 xs (d + 6) Q (zC75 xs (d + 6) Q) (some 10) (nI D) (nI stop) (nI t) (nI j) x65 h62))) (fun e h => Q (.inr e) h)) := by
  obtain ⟨i1, i2, i3, i4⟩ := zkI_ok hI
  have hg := hc.2.2.1
  obtain ⟨n1, n2, n3, n4, _⟩ := hg.1.2 j e he
  have hjl := (List.getElem?_eq_some_iff.mp he).1
  have hN100 := hg.1.1
  obtain ⟨r1, r2, r3, r4⟩ := hres
  have hres : zRes Ts ce lo t (znx N j - j) := ⟨r1, r2, r3, r4⟩
  have hl12 := hok.1
  have cods := zkb_c hnb
  have hm : 0 < eM e := by rw [i4]; rcases cods with q | q | q | q | q | q | q | q <;> rw [q] <;> decide
  have hkk := zGd_k hg he
  have hmem1 := List.mem_of_getElem? (zchn_kid (N := N) (i := j) (k := 0) hm (by decide))
  have hc1 := zchn_lt _ _ _ (j + 1) hkk hmem1
  have hl1 := zful_lt hc1.2.2.1
  have hh1 : zHt N g (j + 1) := by
    obtain ⟨ht1e, ht1, ht1c⟩ := hht
    cases he.symm.trans ht1
    exact ht1c (j + 1) hmem1
  have zI := zkin_E (N := N) (o := none) (ins := ins) (most := most) he hI hrd
  obtain ⟨okop, h0⟩ := zkop_ok hnb hrd hok
  have okl := okop.1
  have hmx := zkop_mx (N := N) (j := j) (c := eC e) (a := ins + 1) hg h0 hms
  have err1 : ∀ p, zkbl N (j + 1) (zkop (eC e) st) (zkh1 (eC e) held) (ins + 1) most = .inl p → zkin N (zkbl N) held j (some st, ins, most) = .inl p := fun p hp => by rw [zI, zkE_b1 hnb hp]
  obtain ⟨most3, hm3⟩ : ∃ x, max most ((zkop (eC e) st).length + held) = x := ⟨_, rfl⟩
  have hhh : zkh1 (eC e) held ≤ held + 1 ∧ held ≤ zkh1 (eC e) held := by unfold zkh1; split <;> omega
  have hm3l : (zkop (eC e) st).length + zkh1 (eC e) held ≤ most3 ∧ most3 ≤ 12 ∧ most ≤ most3 := by
    unfold zkh1 at *
    by_cases q : eC e = 33
    · rw [if_pos q] at *
      have := zkop_33 h0
      rw [q] at hm3 ⊢
      omega
    · rw [if_neg q] at *
      omega
  rw [hm3] at hmx
  have hk100 : D ≤ 11 := by omega
  refine zM_cv hl hk2.1.1 (zc180 (d := d + 3) hl hc hk2 hk100 hn38 he hI hnb hrd hok hms hm12 (by omega) (fun e1 he1 hs1 M3 F3 Ts3 hk3 hx3 hn3 hf3 ha38 ha39 ha41 ha40 ha45 ha44 => zKI_v ⟨fun z => absurd z (by decide), fun _ => ?_⟩) (fun e1 he1 hs1 M3 F3 Ts3 hd3 mo3 hk3 h5 => zKI_v ⟨fun _ => ⟨Or.inl rfl, ?_⟩, fun z => absurd rfl z⟩))
  · intro x65 hx65
    rw [nI_1] at hx65
    subst hx65
    have hk3 : zKS M0 M3 F0 F3 Ts3 (zkop (eC e) st) (zkh1 (eC e) held) (max most ((zkop (eC e) st).length + held)) (ins + 1) ce lo := hk3
    rw [hm3] at hk3
    obtain ⟨h103, hR3, hr3, hx3', h63⟩ := zKS_c hk3 hc
    have dl : (st.drop 1).length = st.length - 1 := List.length_drop
    have frm3 : zFrm M3 D Ts3 j stop (zkat st 0) (st.drop 1) := ⟨ha38.trans hn38, ha39.trans hn39, ha41, by rw [dl]; exact ha45, ha44, by rw [dl]; omega⟩
    have fe3 : zFeq D M M3 := zFeq_t hfe hf3
    refine zM_nC hl h103 hR3 hr3 he (pk_eq (eC e) 76 (fun q => absurd q (by omega)) (fun _ => ?_))
    refine zg403 (d := d + 4) (lost := 0) hl hc hk3 he (by omega) (fun T hT => by have := (okop.2 T hT).2; omega) (fun z => absurd ⟨okl, fun _ => (zkat_in okop.2 0).2⟩ z) (fun _ _ => zg459r (d := d + 4) hl hc hk3 hl1.1 ?_)
    refine IH (j + 1) (D + 1) (t + 1) _ (zkh1 (eC e) held) most3 (ins + 1) M3 F3 Ts3 ce lo hh1 (by omega) hk3 okop hm3l.1 hm3l.2.1 ⟨e1, he1, hs1⟩ ⟨by omega, by omega, by omega, by omega⟩ (fun p M' F' Ts' st' hd' mo' in' ce' lo' hp hk' h5 => kE p M' F' Ts' st' hd' mo' in' ce' lo' (err1 p (by rw [← hmx]; exact hp)) hk' h5) ?_
    intro o1 ins1 most1 M4 F4 Ts4 st4 ce4 lo4 t4 hr1 hk4 ho1 ok4 gw4 fe4
    rw [hmx] at hr1
    have bo1 := zkbl_ok hg N.length (j + 1) (by omega) hl1.1 _ _ _ _ _ _ _ okop hm12 hr1
    have bm1 := zkbl_m hg N.length (j + 1) (by omega) _ _ _ _ _ _ _ hr1
    have frm4 := zFrm_feq frm3 fe4 gw4.1
    have fe4' : zFeq D M M4 := zFeq_t fe3 (zFeq_le fe4 (by omega))
    obtain ⟨gx4, gn4, gc4, gl4, gt4⟩ := gw4
    by_cases two : eC e = 58 ∨ eC e = 41 ∨ eC e = 44 ∨ eC e = 47
    · have hh : zkh1 (eC e) held = held := by unfold zkh1; rw [if_neg (by omega)]
      rw [hh] at hk4 ok4
      exact zrow12 hl hc IH hht hD he hI two hrd hok hms hm12 h0 hk100 hres kE kC hr1 hk4 ho1 ok4 frm4 ((fe4.1 40 (by decide) D (by omega)).trans ha40) fe4' bo1.1 (by omega) ⟨fun x U z => gx4 _ _ (hx3 _ _ z), by omega, by omega, by omega, by omega⟩ (by omega)
    · exact zrow1 hl hc he hI hnb two hrd hok hm12 h0 hk100 kE kC hr1 hk4 ho1 ok4 frm4 fe4' bo1.1 (by omega) (fun hx5 hn5 => ⟨fun x U z => hx5 _ _ (gx4 _ _ (hx3 _ _ z)), by omega, by omega, by omega, by omega⟩) (by omega) (by omega)
  · refine kE _ M3 F3 Ts3 _ _ _ _ ce lo (err1 _ ?_) hk3 h5
    rw [zkbl_eq hg.1.1]
    unfold zkB
    rw [he1]
    dsimp only
    rw [if_neg hs1]
end RBL2
/-! the reference's check -/
section RCH
variable {xs : List Value} {d : Nat} {h : zH} {M0 M M' : Nat → zE} {F0 F F' : Nat → Value} {Q : zO → zH → Prop} {Ts Ts' : List Term} {T U : Term} {N : List zNt} {fr j D stop t f g : Nat} {e : zNt} {st st' sv l : List Term} {held most ins c held' most' ins' : Nat} {ce ce' : List (Nat × Nat × Nat)} {lo lo' : List (Nat × Nat)} {x y : Int32}
theorem zkin_n (he : N[j]? = some e) : zkin N (zkbl N) held j (none, ins, most) = .inl (eF e) := by
  unfold zkin
  rw [he]
theorem zkin_s (he : N[j]? = some e) : zkin N (zkbl N) held j (some st, ins, most) = if (zkI e && zkrd (eC e) st held) = true then (match zkE N (zkbl N) j e st held (ins + 1) most with
          | .inl p => .inl p
          | .inr s' => zkpo (eF e) held s')
        else .inl (eF e) := by
  unfold zkin
  rw [he]
  first | done | rfl
theorem zri {o : Option (List Term)} (hl : 50 ≤ h.1.length) (hc : zKC M0 F0 N fr) (IH : ∀ g, g < f → ∀ i, zBk xs (d + 6) h M0 F0 N Q g i) (hk : zKS M0 M F0 F Ts st held most ins ce lo) (ho : ∀ l, o = some l → st = l) (hok : zkok held st) (hms : ∀ l, o = some l → l.length + held ≤ most) (hm12 : most ≤ 12) (hht : zHt N f j) (hD : D + f ≤ 12) (he : N[j]? = some e) (hjs : j < stop) (hst : stop ≤ 100) (hres : zRes Ts ce lo t (znx N j - j))
    (kE : zErr h M0 F0 Q (zkin N (zkbl N) held j (o, ins, most))) (kC : zCon xs (d + 6) h M0 F0 Q (zkin N (zkbl N) held j (o, ins, most)) (znx N j - j) D (znx N j) stop held M Ts ce lo t) : zC75 xs (d + 6) Q (some 10) (nI D) (nI j) (nI stop) (zB o.isNone) (nI t) (zov h M) := by
  obtain ⟨h10, hR, hr, hx, h6⟩ := zKS_c hk hc
  have hg := hc.2.2.1
  obtain ⟨n1, n2, n3, n4, _⟩ := hg.1.2 j e he
  have hfs := hk.2.2.2.2.2.2.2
  have ht4 := hres.2.2.2
  have hl12 := hok.1
  obtain ⟨g, rfl⟩ : ∃ g, f = g + 1 := by
    cases f with
    | zero => exact hht.elim
    | succ g => exact ⟨g, rfl⟩
  refine zC75_i (pk_lt t 400 (fun _ => pk_lt j stop (fun _ => ⟨fun z => absurd ((nI_eq (by omega) (by omega)).mp z) (by omega), fun _ => ?_⟩) (fun z => absurd z (by omega))) (fun z => absurd z (by omega)))
  have bad : zkin N (zkbl N) held j (o, ins, most) = .inl (eF e) → zw_167_222 xs (d + 6) Q (zC75 xs (d + 6) Q) (some 10) (nI j) (zov h M) := fun hz => zno2 (d := d + 5) hl hc hk he (fun M' F' a1 a2 => kE _ M' F' Ts st held most ins ce lo hz a1 a2)
  cases o with
  | none => exact ⟨fun z => absurd z (by decide), fun _ => bad (zkin_n he)⟩
  | some l =>
    have hsl := ho l rfl
    subst hsl
    have hms' := hms st rfl
    have zin := zkin_s (N := N) (held := held) (st := st) (ins := ins) (most := most) he
    refine ⟨fun _ => zM_nS hl h10 hR hr he (pk_eq (eS e) 3 (fun h3 => ?_) (fun h3 => bad ?_)), fun z => absurd rfl z⟩
    · refine zM_nC hl h10 hR hr he ⟨d + 5, rfl, zc175 n2 (zKI_v (zM_nM hl h10 hR hr he ?_))⟩
      have hkp : zkip (eC e) < 100 := by
        unfold zkip
        rw [List.getD_eq_getElem?_getD]
        cases hq : ([0, 0, 0, 1, 2, 0, 0, 0, 0, 0, 1, 2, 1, 1, 2, 1, 0, 2, 0, 1, 1, 2, 0, 0, 0, 0, 0, 0, 2, 1, 0, 0, 0, 0, 0, 0, 0, 0, 0, 0, 0, 0, 0, 0, 0, 0, 0] : List Nat)[eC e - 30]? with
        | none => decide
        | some x =>
          have all : ∀ y ∈ ([0, 0, 0, 1, 2, 0, 0, 0, 0, 0, 1, 2, 1, 1, 2, 1, 0, 2, 0, 1, 1, 2, 0, 0, 0, 0, 0, 0, 2, 1, 0, 0, 0, 0, 0, 0, 0, 0, 0, 0, 0, 0, 0, 0, 0, 0, 0] : List Nat), y < 100 := by decide
          exact all x (List.mem_of_getElem? hq)
      have no : zkI e = false → zw_167_222 xs (d + 6) Q (zC75 xs (d + 6) Q) (some 10) (nI j) (zov h M) := fun hz => bad (by rw [zin, hz]; rfl)
      by_cases hrg : 30 ≤ eC e ∧ eC e ≤ 76
      rotate_left
      · rw [if_neg hrg]
        refine ⟨fun z => absurd (show nI (eM e) < 0 by rw [← z]; decide) (nI_pos (by omega)), fun _ => no ?_⟩
        unfold zkI
        by_cases q : 30 ≤ eC e
        · rw [decide_eq_false (show ¬ eC e ≤ 76 by omega)]; simp
        · rw [decide_eq_false q]; simp
      rw [if_pos hrg]
      refine pk_eq (zkip (eC e)) (eM e) (fun hmz => ?_) (fun hmz => no ?_)
      rotate_left
      · unfold zkI
        rw [beq_false_of_ne (fun q => hmz q.symm)]; simp
      have hI : zkI e = true := by unfold zkI; rw [h3, decide_eq_true hrg.1, decide_eq_true hrg.2, hmz]; simp
      refine zM_nC hl h10 hR hr he (zM_cv hl h10 (zc176 (d := d + 2) hl h10 hR hk.2.2.2.1 hk.2.2.2.2.1 (by omega) hrg.1 hrg.2 n2 (zKI_v ⟨fun z => bad ?_, fun z => ?_⟩)))
      · rw [zin, zB_0.mp z, Bool.and_false]; rfl
      have hrd := zBt z
      refine zM_gi hl h10 hk.2.2.2.2.2.1 (zM_pf hl h10 ?_)
      rw [nI_1]
      obtain ⟨L38, f38, g38⟩ := zFsh_at hfs (k := 38) (n := 12) (by decide)
      obtain ⟨L39, f39, g39⟩ := zFsh_at hfs (k := 39) (n := 12) (by decide)
      have hR1 : zRf (zub F 52 (.int (nI (ins + 1)))) := zRf_sm hR (zSm_ub (S := [52]) zSm_refl (by decide)) (by decide)
      refine zM_gr hl zub_s (hR1 (38, 38) (by decide)) (zM_st' (L := L38) hl (by rw [zub_n (by decide)]; exact f38) (by omega) (by omega) ?_)
      refine zM_gr hl (by rw [zub_n (by decide)]; exact zub_s) (hR1 (39, 39) (by decide)) (zM_st' (L := L39) hl (by rw [zub_n (by decide), zub_n (by decide)]; exact f39) (by omega) (by omega) ?_)
      obtain ⟨hk2, fe2, at38, at39⟩ := zKS_fr (D := D) hk f38 g38 f39 g39 (by omega) (nI j) (nI stop)
      obtain ⟨M2, hM2⟩ : ∃ M2, zub (zub (zub M 10 (zMo (zub F 52 (.int (nI (ins + 1)))))) 38 (zAi (L38.set D (nI j)))) 39 (zAi (L39.set D (nI stop))) = M2 := ⟨_, rfl⟩
      rw [hM2] at hk2 fe2 at38 at39
      show zGR (some 10) 12 11 (zov h (zub (zub (zub M 10 (zMo (zub F 52 (.int (nI (ins + 1)))))) 38 (zAi (L38.set D (nI j)))) 39 (zAi (L39.set D (nI stop))))) _
      rw [hM2]
      obtain ⟨h102, hR2, hr2, hx2, h62⟩ := zKS_c hk2 hc
      refine zM_nC hl h102 hR2 hr2 he ⟨d + 5, rfl, zc179 n2 (zKI_v ⟨fun z => ?_, fun z => ?_⟩)⟩
      · exact zplain hl hc hk2 fe2 he hI (zB_0.mp z) hrd hok hms' hm12 hres kE kC
      · exact zblockI hl hc (IH g (by omega)) hk2 fe2 at38 at39 hht (by omega) he hI (zBt z) hrd hok hms' hm12 hres kE kC
    · rw [zin]
      have : zkI e = false := by unfold zkI; rw [beq_false_of_ne h3]; rfl
      rw [this]
      rfl
end RCH
section RCH2
variable {xs : List Value} {d : Nat} {h : zH} {M0 M M' : Nat → zE} {F0 F F' : Nat → Value} {Q : zO → zH → Prop} {Ts Ts' : List Term} {T U : Term} {N : List zNt} {fr D stop f g : Nat} {e : zNt} {held : Nat}
theorem zrl (hl : 50 ≤ h.1.length) (hc : zKC M0 F0 N fr) (IH : ∀ g, g < f → ∀ i, zBk xs (d + 6) h M0 F0 N Q g i) (hD : D + f ≤ 12) (hst : stop ≤ 100) : ∀ (c p : Nat) (o : Option (List Term)) (st : List Term) (most ins : Nat) (M : Nat → zE) (F : Nat → Value) (Ts : List Term) (ce : List (Nat × Nat × Nat)) (lo : List (Nat × Nat)) (t : Nat), zfuls N c p stop → (∀ q, q ∈ zchn N c p → zHt N f q) → zKS M0 M F0 F Ts st held most ins ce lo → (∀ l, o = some l → st = l) → zkok held st → (∀ l, o = some l → l.length + held ≤ most) → most ≤ 12 → zRes Ts ce lo t (stop - p) → zErr h M0 F0 Q (zkfo (zkin N (zkbl N) held) (zchn N c p) (o, ins, most)) → zCon xs (d + 6) h M0 F0 Q (zkfo (zkin N (zkbl N) held) (zchn N c p) (o, ins, most)) (stop - p) D stop stop held M Ts ce lo t → zC75 xs (d + 6) Q (some 10) (nI D) (nI p) (nI stop) (zB o.isNone) (nI t) (zov h M)
  | 0, p, o, st, most, ins, M, F, Ts, ce, lo, t, hf, _, hk, ho, hok, _, _, _, _, kC => by
    have hf : p = stop := hf
    subst hf
    exact kC o ins most M F Ts st ce lo t rfl hk ho hok ⟨fun _ _ z => z, by omega, by omega, by omega, by omega⟩ zFeq_refl
  | c + 1, p, o, st, most, ins, M, F, Ts, ce, lo, t, hf, hht, hk, ho, hok, hms, hm12, hres, kE, kC => by
    have hg := hc.2.2.1
    have hpl := zful_lt hf.1
    have hle := zfuls_le _ _ _ hf.2
    obtain ⟨e, he⟩ : ∃ e, N[p]? = some e := ⟨_, List.getElem?_eq_getElem hpl.1⟩
    obtain ⟨r1, r2, r3, r4⟩ := hres
    have hz : zkfo (zkin N (zkbl N) held) (zchn N (c + 1) p) (o, ins, most) = (match zkin N (zkbl N) held p (o, ins, most) with
        | .inl q => .inl q
        | .inr s' => zkfo (zkin N (zkbl N) held) (zchn N c (znx N p)) s') := rfl
    refine zri hl hc IH hk ho hok hms hm12 (hht p List.mem_cons_self) hD he (by omega) hst ⟨by omega, by omega, by omega, by omega⟩ (fun q M' F' Ts' st' hd' mo' in' ce' lo' hq hk' h5 => kE q M' F' Ts' st' hd' mo' in' ce' lo' (by rw [hz, hq]) hk' h5) ?_
    intro o' ins' most' M' F' Ts' st' ce' lo' t' hr hk' ho' hok' gw fe
    obtain ⟨l0, hl0⟩ : ∃ l0, o = some l0 := by
      cases o with
      | none => rw [zkin_n he] at hr; cases hr
      | some l0 => exact ⟨l0, rfl⟩
    subst hl0
    have hsl := ho l0 rfl
    subst hsl
    obtain ⟨v1, v2, v3, v4⟩ := zkin_ok hg he (fun i' h1 h2 => zkbl_ok hg N.length i' (by omega) h2) hok hm12 hr
    obtain ⟨g1, g2, g3, g4, g5⟩ := gw
    rw [hr] at hz
    dsimp only at hz
    refine zrl hl hc IH hD hst c (znx N p) o' st' most' ins' M' F' Ts' ce' lo' t' hf.2 (fun q hq => hht q (List.mem_cons_of_mem _ hq)) hk' ho' hok' ?_ v1 ⟨by omega, by omega, by omega, by omega⟩ (fun q M2 F2 Ts2 st2 hd2 mo2 in2 ce2 lo2 hq hk2 h5 => kE q M2 F2 Ts2 st2 hd2 mo2 in2 ce2 lo2 (by rw [hz]; exact hq) hk2 h5) ?_
    · intro l' hl'
      have : zkfo (zkin N (zkbl N) held) [p] (some st, ins, most) = .inr (o', ins', most') := by rw [zkfo, hr]; rfl
      exact zkfo_le [p] _ _ (fun x hx => by cases hx; exact hms st rfl) this l' hl'
    · intro o2 ins2 most2 M2 F2 Ts2 st2 ce2 lo2 t2 hr2 hk2 ho2 hok2 gw2 fe2
      obtain ⟨q1, q2, q3, q4, q5⟩ := gw2
      exact kC o2 ins2 most2 M2 F2 Ts2 st2 ce2 lo2 t2 (by rw [hz]; exact hr2) hk2 ho2 hok2 ⟨fun x U z => q1 _ _ (g1 _ _ z), by omega, by omega, by omega, by omega⟩ (zFeq_t fe fe2)
theorem zbk (hl : 50 ≤ h.1.length) (hc : zKC M0 F0 N fr) : ∀ (n f : Nat), f ≤ n → ∀ i, zBk xs (d + 6) h M0 F0 N Q f i
  | _, 0, _, i => fun D t st held most ins M F Ts ce lo hht => hht.elim
  | 0, f + 1, hn, i => absurd hn (by omega)
  | n + 1, f + 1, hn, i => by
    intro D t st held most ins M F Ts ce lo hht hD hk hok hms hm12 hrow hres kE kC
    have hg := hc.2.2.1
    obtain ⟨e, he, hs⟩ := hrow
    have hil := (List.getElem?_eq_some_iff.mp he).1
    have hiz := zful_lt (hg.2.2 i hil)
    have hN := hg.1.1
    obtain ⟨e', he', hch⟩ := hht
    cases he.symm.trans he'
    obtain ⟨r1, r2, r3, r4⟩ := hres
    have spec : zkbl N i st held ins most = zkfo (zkin N (zkbl N) held) (zchn N (eM e) (i + 1)) (some st, ins, most) := by
      rw [zkbl_eq hg.1.1]
      unfold zkB
      rw [he]
      dsimp only
      rw [if_pos hs, show max most (st.length + held) = most by omega]
    rw [spec] at kE kC
    refine zrl (f := f) hl hc (fun g hg' => zbk hl hc n g (by omega)) (by omega) (by omega) (eM e) (i + 1) (some st) st most ins M F Ts ce lo t (zGd_k hg he) hch hk (fun l hl' => by cases hl'; rfl) hok (fun l hl' => by cases hl'; exact hms) hm12 ⟨by omega, by omega, by omega, by omega⟩ kE ?_
    rw [show znx N i - (i + 1) = znx N i - i - 1 by omega]
    exact kC
/-- the check's answer -/
def zdck (N : List zNt) (ic : Nat) (P R S : Term) : Nat ⊕ (Nat × Nat) := match zkbl N ic [.add (.div (.arg 5) P) S] 0 0 0 with
  | .inl p => .inl p
  | .inr (none, a, b) => .inr (a, b)
  | .inr (some l, a, b) => if l = [.add (.div (.arg 5) R) S] then .inr (a, b) else .inl (zFp N ic)
theorem zc167 {ip ir is_ ic : Nat} {P R S : Term} {Sk : List Int32} {ce : List (Nat × Nat × Nat)} {lo : List (Nat × Nat)} (hl : 50 ≤ h.1.length) (hc : zKC M F N fr) (hp : zPo M F ce lo) (ht : zTbl M F Ts) (h48 : M 48 = zAi Sk) (l48 : Sk.length = 16) (hfs : zFsh M) (hsc : zSc4 M) (h54 : F 54 = .int (nI ip)) (tP : ip < 220 ∧ Ts[ip]? = some P) (h55 : F 55 = .int (nI ir)) (tR : ir < 220 ∧ Ts[ir]? = some R) (h56 : F 56 = .int (nI is_)) (tS : is_ < 220 ∧ Ts[is_]? = some S) (h57 : F 57 = .int (nI ic)) (he : N[ic]? = some e) (hht : zHt N f ic) (hf : f ≤ 12) (gP : zTg1 P ∧ ztdep P ≤ 7) (gR : zTg1 R ∧ ztdep R ≤ 7) (gS : zTg1 S ∧ ztdep S ≤ 7) (hB : zns Ts + (znx N ic - ic) ≤ 197) (hce : ce.length + 2 * (znx N ic - ic) ≤ 1400) (hlo : lo.length + (znx N ic - ic) ≤ 600)
    (k0 : ∀ p M' F' Ts' st held most ins ce' lo', zdck N ic P R S = .inl p → zKS M M' F F' Ts' st held most ins ce' lo' → F' 5 = .int (nI p) → Q (.inl (some (.int 0))) (zov h M'))
    (k1 : ∀ ins most M' F' Ts' st ce' lo', zdck N ic P R S = .inr (ins, most) → zKS M M' F F' Ts' st 0 most ins ce' lo' → (∀ x U, zTi Ts x U → zTi Ts' x U) → zns Ts' ≤ zns Ts + (znx N ic - ic) + 2 → ce'.length ≤ ce.length + 2 * (znx N ic - ic) → lo'.length ≤ lo.length + (znx N ic - ic) → Q (.inl (some (.int 1))) (zov h M')) : zG xs (d + 6) (167, 0, lv_args 0 [zo (some 10)], []) (zov h M) Q := by
  have hg := hc.2.2.1
  have hN := hg.1.1
  have hil := (List.getElem?_eq_some_iff.mp he).1
  have hiz := zful_lt (hg.2.2 ic hil)
  have h10 := hp.1
  have hR := hp.2.1
  have hFp : zFp N ic = eF e := by unfold zFp; rw [he]
  -- the fields
  obtain ⟨F4, hF4⟩ : ∃ F4, zub (zub (zub (zub F 49 (.int 0)) 50 (.int 0)) 51 (.int 0)) 52 (.int 0) = F4 := ⟨_, rfl⟩
  have s4 : zSm [49, 50, 51, 52] F F4 := by rw [← hF4]; exact zSm_ub (zSm_ub (zSm_ub (zSm_ub zSm_refl (by decide)) (by decide)) (by decide)) (by decide)
  have f49 : F4 49 = .int 0 := by rw [← hF4, zub_n (by decide), zub_n (by decide), zub_n (by decide), zub_s]
  have f50 : F4 50 = .int 0 := by rw [← hF4, zub_n (by decide), zub_n (by decide), zub_s]
  have f51 : F4 51 = .int 0 := by rw [← hF4, zub_n (by decide), zub_s]
  have f52 : F4 52 = .int 0 := by rw [← hF4, zub_s]
  have sM : zSm [10] M (zub M 10 (zMo F4)) := zSm_ub zSm_refl (by decide)
  have hk0 : zKS M (zub M 10 (zMo F4)) F F4 Ts [] 0 0 0 ce lo := by
    refine ⟨zPo_sm hp zub_s sM s4 (by decide) (by decide), zSm_mono sM (by decide), zSm_mono s4 (by decide), zTbl_sm ht sM (s4 21 (by decide)) (by decide), ⟨f49, f50, f51, by decide, Sk, by rw [zub_n (by decide)]; exact h48, l48, fun k T hk => by cases hk⟩, f52, zSc4_sm hsc sM (by decide), fun q hq => ?_⟩
    obtain ⟨L, a1, a2⟩ := hfs q hq
    have : ∀ q ∈ zfrl, q.1 ≠ 10 := by decide
    exact ⟨L, by rw [zub_n (this q hq)]; exact a1, a2⟩
  refine zs_167_0 (J75 := zC75 xs (d + 6) Q) (lv := lv_args 0 [zo (some 10)]) (l0 := some 10) (fun _ _ _ _ _ _ _ lv' g0 g1 g2 g3 g4 g5 hJ => hJ lv' g0 g1 g2 g3 g4 g5) rfl ?_
  refine zM_pf hl h10 (zM_pf hl zub_s (zM_pf hl zub_s (zM_pf hl zub_s ?_)))
  have hov : zub (zub (zub (zub M 10 (zMo (zub F 49 (.int 0)))) 10 (zMo (zub (zub F 49 (.int 0)) 50 (.int 0)))) 10 (zMo (zub (zub (zub F 49 (.int 0)) 50 (.int 0)) 51 (.int 0)))) 10 (zMo (zub (zub (zub (zub F 49 (.int 0)) 50 (.int 0)) 51 (.int 0)) 52 (.int 0))) = zub M 10 (zMo F4) := by
    rw [hF4]
    funext i
    unfold zub
    split <;> rfl
  show zGI (some 10) 12 54 (zov h (zub (zub (zub (zub M 10 (zMo (zub F 49 (.int 0)))) 10 (zMo (zub (zub F 49 (.int 0)) 50 (.int 0)))) 10 (zMo (zub (zub (zub F 49 (.int 0)) 50 (.int 0)) 51 (.int 0)))) 10 (zMo (zub (zub (zub (zub F 49 (.int 0)) 50 (.int 0)) 51 (.int 0)) 52 (.int 0))))) _
  rw [hov]
  refine zM_gi hl hk0.1.1 ((s4 54 (by decide)).trans h54) (zM_gi hl hk0.1.1 ((s4 56 (by decide)).trans h56) ?_)
  have okPS : zTg1 (.add (.div (.arg 5) P) S) ∧ ztdep (.add (.div (.arg 5) P) S) ≤ 8 := ⟨zTg1_p gP.1 gS.1 (by decide), by show 1 + max _ _ ≤ 8; omega⟩
  refine zmk (.add (.div (.arg 5) P) S) (d := d + 5) hl hk0 (by omega) okPS.1.1 (by omega) ⟨ip, tP.1, tP.2, rfl⟩ ⟨is_, tS.1, tS.2, rfl⟩ (fun M1 F1 Ts1 y1 a1 a2 a3 a4 _ a6 => zpu (d := d + 5) hl a1 a2 (by decide) (by decide) (by decide) (fun M2 F2 hk2 s2 => ?_))
  have hk2 : zKS M M2 F F2 Ts1 [.add (.div (.arg 5) P) S] 0 1 0 ce lo := hk2
  obtain ⟨h102, hR2, hr2, hx2, h62⟩ := zKS_c hk2 hc
  have f57 : F2 57 = .int (nI ic) := (hk2.2.2.1 57 (by decide)).trans h57
  have f55 : F2 55 = .int (nI ir) := (hk2.2.2.1 55 (by decide)).trans h55
  have ok2 : zkok 0 [.add (.div (.arg 5) P) S] := ⟨show 1 ≤ 12 by decide, fun T hT => by simp at hT; rw [hT]; exact okPS⟩
  have spc : zkbl N ic [.add (.div (.arg 5) P) S] 0 0 1 = zkbl N ic [.add (.div (.arg 5) P) S] 0 0 0 := zkbl_max hg ic [.add (.div (.arg 5) P) S] 0 0 0
  refine zM_gi hl h102 f57 ?_
  intro x19 hx19
  rw [nI_1] at hx19
  subst hx19
  refine zM_gr hl h102 (hR2 (13, 17) (by decide)) (zM_gi hl h102 f57 ?_)
  obtain ⟨Nx, Ow, Le, x1, x2, x3, x4, x5, x6, xr⟩ := hx2
  refine zM_ia' hl x1 (xr ic hil).2 (zM_gi hl h102 f57 (zM_cv hl h102 (zc169 (d := d + 4) hl hc hk2 he (fun hs => zKI_v ⟨fun z => absurd z (by decide), fun _ => ?_⟩) (fun hs M3 F3 hk3 h5 => zKI_v ⟨fun _ => ⟨Or.inl rfl, ?_⟩, fun z => absurd rfl z⟩))))
  · refine zbk (d := d) (Q := Q) hl hc f f (Nat.le_refl _) ic 0 0 _ 0 1 0 M2 F2 Ts1 ce lo hht (by omega) hk2 ok2 (show 1 ≤ 1 by decide) (by decide) ⟨e, he, hs⟩ ⟨by omega, by omega, by omega, by omega⟩ (fun p M' F' Ts' st' hd' mo' in' ce' lo' hq hk' h5 => k0 p M' F' Ts' st' hd' mo' in' ce' lo' (by unfold zdck; rw [← spc, hq]) hk' h5) ?_
    intro o ins most M3 F3 Ts3 st3 ce3 lo3 t3 hr3 hk3 ho3 ok3 gw3 fe3
    rw [spc] at hr3
    obtain ⟨g1, g2, g3, g4, g5⟩ := gw3
    obtain ⟨h103, hR3, hr3', hx3, h63⟩ := zKS_c hk3 hc
    have ok3l := ok3.1
    refine zC75_i (pk_lt t3 400 (fun _ => pk_lt (znx N ic) (znx N ic) (fun z => absurd z (by omega)) (fun _ => pk_lt 0 0 (fun z => absurd z (by omega)) (fun _ => ?_))) (fun z => absurd z (by omega)))
    have bad : ∀ {M5 F5 Ts5 st5 ins5 ce5 lo5}, zdck N ic P R S = .inl (eF e) → zKS M M5 F F5 Ts5 st5 0 most ins5 ce5 lo5 → zw_167_550 xs (d + 6) Q (zC75 xs (d + 6) Q) (some 10) (zov h M5) := by
      intro M5 F5 Ts5 st5 ins5 ce5 lo5 hz hk5
      obtain ⟨h105, hR5, hr5, hx5, h65⟩ := zKS_c hk5 hc
      obtain ⟨_, _, So, Fi, Co, Ma, Ab, Hi, Lo, c1, c2, c3, c4, c5, c6, c7, c8, c9, c10, c11, c12, c13, c14, rows⟩ := hr5
      refine zM_gr hl h105 (hR5 (10, 14) (by decide)) (zM_gi hl h105 ((hk5.2.2.1 57 (by decide)).trans h57) (zM_ia' hl c2 (rows ic e he).2.1 (zM_cv hl h105 (zc158 hl h105 h65 (zKI_v ⟨fun _ => ⟨Or.inl rfl, ?_⟩, fun z => absurd (by decide) z⟩)))))
      have hsub : nI (fr + eF e) - nI fr = nI (eF e) := by rw [pk_sub (by omega)]; congr 1; omega
      rw [hsub]
      exact k0 _ _ _ Ts5 st5 0 most ins5 ce5 lo5 hz (zKS_5 hk5) zub_s
    cases o with
    | none =>
      refine ⟨fun z => absurd z (by decide), fun _ => ⟨Or.inr rfl, k1 ins most M3 F3 Ts3 st3 ce3 lo3 (by unfold zdck; rw [hr3]) hk3 (fun x U z => g1 _ _ (a3 _ _ z)) (by omega) (by omega) (by omega)⟩⟩
    | some l =>
      have hsl := ho3 l rfl
      subst hsl
      have hz : zdck N ic P R S = if st3 = [.add (.div (.arg 5) R) S] then .inr (ins, most) else .inl (zFp N ic) := by unfold zdck; rw [hr3]
      refine ⟨fun _ => zM_gi hl h103 hk3.2.2.2.2.1.1 (pk_eq st3.length 1 (fun h1 => ?_) (fun h1 => bad ?_ hk3)), fun z => absurd rfl z⟩
      · obtain ⟨b1, b2, b3, b4, Sk3, b5, b6, b7⟩ := hk3.2.2.2.2.1
        obtain ⟨T3, hT3⟩ : ∃ T3, st3 = [T3] := by
          cases st3 with
          | nil => cases h1
          | cons T3 r =>
            cases r with
            | nil => exact ⟨T3, rfl⟩
            | cons _ _ => simp at h1
        obtain ⟨v, c1, c2⟩ := b7 0 T3 (by rw [hT3]; rfl)
        rw [hT3] at c1
        have c1 : Sk3[0]? = some v := c1
        refine zM_gr hl h103 (hR3 (48, 48) (by decide)) (zM_ia' (j := 0) hl b5 c1 (zM_gi hl h103 ((hk3.2.2.1 55 (by decide)).trans h55) (zM_gi hl h103 ((hk3.2.2.1 56 (by decide)).trans h56) ?_)))
        have okRS : zTok (.add (.div (.arg 5) R) S) := (zTg1_p (c := 5) gR.1 gS.1 (by decide)).1
        refine zmk (.add (.div (.arg 5) R) S) (d := d + 5) hl hk3 (by omega) okRS (by show 1 + max _ _ ≤ 200; omega) (g1 _ _ (a3 _ _ ⟨ir, tR.1, tR.2, rfl⟩)) (g1 _ _ (a3 _ _ ⟨is_, tS.1, tS.2, rfl⟩)) (fun M5 F5 Ts5 y5 e1 e2 e3 e4 _ _ => ⟨fun q => ?_, fun q => bad ?_ e1⟩)
        · have := (zTi_eq e1.2.2.2.1.2.2.1 (e3 _ _ c2) e2).mp q
          rw [hT3, this, if_pos rfl] at hz
          exact ⟨Or.inr rfl, k1 ins most M5 F5 Ts5 _ ce3 lo3 hz e1 (fun x U z => e3 _ _ (g1 _ _ (a3 _ _ z))) (by omega) (by omega) (by omega)⟩
        · rw [hz, if_neg (fun w => q ?_), hFp]
          rw [hT3] at w
          injection w with w _
          exact (zTi_eq e1.2.2.2.1.2.2.1 (e3 _ _ c2) e2).mpr w
      · rw [hz, if_neg (fun w => h1 (by rw [w]; rfl)), hFp]
  · refine k0 _ M3 F3 Ts1 _ _ _ _ ce lo ?_ hk3 h5
    have : zkbl N ic [.add (.div (.arg 5) P) S] 0 0 0 = .inl (eF e) := by
      rw [zkbl_eq hg.1.1]
      unfold zkB
      rw [he]
      dsimp only
      rw [if_neg hs]
    unfold zdck
    rw [this]
end RCH2
