/-! the reference's cells: labels 10 .. 52, as a function of the label; zov h M: h with these cells -/
def zov (h : zH) (M : Nat → zE) : zH := (h.1.take 7 ++ (List.range 43).map (fun i => M (10 + i)) ++ h.1.drop 50, h.2.1, h.2.2)
def zub {α : Type} (M : Nat → α) (k : Nat) (e : α) : Nat → α := fun i => if i = k then e else M i
theorem zub_s {α : Type} {M : Nat → α} {k : Nat} {e : α} : zub M k e k = e := if_pos rfl
theorem zub_n {α : Type} {M : Nat → α} {k i : Nat} {e : α} (h : i ≠ k) : zub M k e i = M i := if_neg h
theorem zov_at {h : zH} {M : Nat → zE} (hl : 50 ≤ h.1.length) (i : Nat) : (zov h M).1[i]? = if 7 ≤ i ∧ i < 50 then some (M (i + 3)) else h.1[i]? := by
  unfold zov
  dsimp only
  have l1 : (h.1.take 7).length = 7 := by rw [List.length_take]; omega
  have l2 : ((List.range 43).map (fun i => M (10 + i))).length = 43 := by rw [List.length_map, List.length_range]
  by_cases h1 : i < 7
  · rw [if_neg (by omega), List.append_assoc, List.getElem?_append_left (by omega), List.getElem?_take, if_pos h1]
  · by_cases h2 : i < 50
    · rw [if_pos (by omega), List.append_assoc, List.getElem?_append_right (by omega), List.getElem?_append_left (by rw [l1, l2]; omega), l1, List.getElem?_map, List.getElem?_range (by omega)]
      rw [Option.map_some, show 10 + (i - 7) = i + 3 by omega]
    · rw [if_neg (by omega), List.getElem?_append_right (by rw [List.length_append, l1, l2]; omega), List.length_append, l1, l2, List.getElem?_drop]
      congr 1
      omega
theorem zov_own {h : zH} {M : Nat → zE} (hl : 50 ≤ h.1.length) {k : Nat} (h1 : 10 ≤ k) (h2 : k ≤ 52) : zown (zov h M) k = some (M k) := by
  unfold zown
  have e3 : zK0 = 3 := rfl
  rw [if_neg (by rw [e3]; omega), zov_at hl, if_pos (by rw [e3]; omega), e3, show k - 3 + 3 = k by omega]
theorem zov_frame {h : zH} {M : Nat → zE} (hl : 50 ≤ h.1.length) {k : Nat} (h1 : k < 10 ∨ 52 < k) : zown (zov h M) k = zown h k := by
  unfold zown
  have e3 : zK0 = 3 := rfl
  split
  · rfl
  · rename_i hk
    rw [e3] at hk
    rw [zov_at hl, if_neg (by rw [e3]; omega)]
theorem zov_put {h : zH} {M : Nat → zE} (hl : 50 ≤ h.1.length) {k : Nat} {e : zE} (h1 : 10 ≤ k) (h2 : k ≤ 52) : zput (zov h M) k e = zov h (zub M k e) := by
  unfold zput
  have e3 : zK0 = 3 := rfl
  have : (zov h M).1.set (k - zK0) e = (zov h (zub M k e)).1 := by
    apply List.ext_getElem?
    intro i
    have hlen : k - zK0 < (zov h M).1.length := by
      have := zov_at (M := M) hl (k - zK0)
      rw [if_pos (by rw [e3]; omega)] at this
      exact (List.getElem?_eq_some_iff.mp this).1
    by_cases hi : k - zK0 = i
    · subst hi
      rw [List.getElem?_set_self hlen, zov_at hl, if_pos (by rw [e3]; omega), e3, show k - 3 + 3 = k by omega, zub_s]
    · rw [List.getElem?_set_ne hi, zov_at hl, zov_at hl]
      split
      · rw [zub_n (by rw [e3] at hi; omega)]
      · rfl
  rw [this]
  rfl
theorem zov_id {h : zH} {M : Nat → zE} (hl : 50 ≤ h.1.length) (hm : ∀ k, 10 ≤ k → k ≤ 52 → zown h k = some (M k)) : zov h M = h := by
  have e3 : zK0 = 3 := rfl
  have : (zov h M).1 = h.1 := by
    apply List.ext_getElem?
    intro i
    rw [zov_at hl]
    split
    · rename_i hi
      have := hm (i + 3) (by omega) (by omega)
      rw [← (zown_lt this).2.2, e3]
      rfl
    · rfl
  rw [show zov h M = ((zov h M).1, h.2.1, h.2.2) from rfl, this]
theorem zov_len {h : zH} {M : Nat → zE} (hl : 50 ≤ h.1.length) : (zov h M).1.length = h.1.length := by
  unfold zov
  dsimp only
  rw [List.length_append, List.length_append, List.length_take, List.length_map, List.length_range, List.length_drop]
  omega
/-- the reference's object -/
def zMo (F : Nat → Value) : zE := .inr (12, (List.range 67).map F)
theorem zMo_set {F : Nat → Value} {j : Nat} {v : Value} : ((List.range 67).map F).set j v = (List.range 67).map (zub F j v) := by
  apply List.ext_getElem?
  intro i
  by_cases hi : j = i
  · subst hi
    by_cases hj : j < 67
    · rw [List.getElem?_set_self (by rw [List.length_map, List.length_range]; exact hj), List.getElem?_map, List.getElem?_range hj, Option.map_some, zub_s]
    · rw [List.getElem?_eq_none (by rw [List.length_set, List.length_map, List.length_range]; omega), List.getElem?_eq_none (by rw [List.length_map, List.length_range]; omega)]
  · rw [List.getElem?_set_ne hi, List.getElem?_map, List.getElem?_map]
    by_cases h2 : i < 67
    · rw [List.getElem?_range h2, Option.map_some, Option.map_some, zub_n (fun q => hi q.symm)]
    · rw [List.getElem?_eq_none (by rw [List.length_range]; omega)]; rfl
theorem zMo_at {F : Nat → Value} {j : Nat} (hj : j < 67) : ((List.range 67).map F)[j]? = some (F j) := by
  rw [List.getElem?_map, List.getElem?_range hj, Option.map_some]
section MODEL
variable {xs : List Value} {d : Nat} {h : zH} {M : Nat → zE} {F : Nat → Value} {Q : zO → zH → Prop}
theorem zM_gi {j : Nat} {x : Int32} {K : Int32 → Prop} (hl : 50 ≤ h.1.length) (hF : M 10 = zMo F) (hv : F j = .int x) (k : K x) (hj : j < 67 := by decide) : zGI (some 10) 12 j (zov h M) K := ⟨10, _, x, rfl, by rw [zov_own hl (by decide) (by decide), hF]; rfl, by rw [zMo_at hj, hv], k⟩
theorem zM_gl {j : Nat} {x : Int64} {K : Int64 → Prop} (hl : 50 ≤ h.1.length) (hF : M 10 = zMo F) (hv : F j = .long x) (k : K x) (hj : j < 67 := by decide) : zGL (some 10) 12 j (zov h M) K := ⟨10, _, x, rfl, by rw [zov_own hl (by decide) (by decide), hF]; rfl, by rw [zMo_at hj, hv], k⟩
theorem zM_gr {j a : Nat} {K : zP → Prop} (hl : 50 ≤ h.1.length) (hF : M 10 = zMo F) (hv : F j = .ref a) (k : K (some a)) (hj : j < 67 := by decide) : zGR (some 10) 12 j (zov h M) K := ⟨10, _, some a, rfl, by rw [zov_own hl (by decide) (by decide), hF]; rfl, by rw [zMo_at hj, hv]; rfl, k⟩
theorem zM_pf {j : Nat} {v : Value} {K : zH → Prop} (hl : 50 ≤ h.1.length) (hF : M 10 = zMo F) (k : K (zov h (zub M 10 (zMo (zub F j v))))) (hj : j < 67 := by decide) : zPF (some 10) 12 j v (zov h M) K := by
  refine ⟨10, (List.range 67).map F, rfl, by rw [zov_own hl (by decide) (by decide), hF]; rfl, by rw [List.length_map, List.length_range]; exact hj, ?_⟩
  rw [zov_put hl (by decide) (by decide), zMo_set]
  exact k
/-- arrays of ints -/
def zAi (L : List Int32) : zE := .inl (0, L.map Value.int)
theorem zM_ia {k : Nat} {j x : Int32} {L : List Int32} {K : Int32 → Prop} (hl : 50 ≤ h.1.length) (hA : M k = zAi L) (hj : ¬ j < 0) (hv : L[j.toNatClampNeg]? = some x) (kk : K x) (h1 : 10 ≤ k := by decide) (h2 : k ≤ 52 := by decide) : zIA xs (some k) j (zov h M) K := by
  refine ⟨k, L.map Value.int, x, rfl, zarr_own ?_, hj, ?_, kk⟩
  · rw [zov_own hl h1 h2, hA]; rfl
  · rw [List.getElem?_map, hv]; rfl
theorem zM_st {k : Nat} {j x : Int32} {L : List Int32} {K : zH → Prop} (hl : 50 ≤ h.1.length) (hA : M k = zAi L) (hj : ¬ j < 0) (hv : j.toNatClampNeg < L.length) (kk : K (zov h (zub M k (zAi (L.set j.toNatClampNeg x))))) (h1 : 10 ≤ k := by decide) (h2 : k ≤ 52 := by decide) : zST 0 (some k) j (.int x) (zov h M) K := by
  refine ⟨k, L.map Value.int, rfl, by rw [zov_own hl h1 h2, hA]; rfl, hj, by rw [List.length_map]; exact hv, ?_⟩
  rw [zov_put hl h1 h2, ← List.map_set]
  exact kk
theorem zM_cv {j : Nat} {args : List Value} {R : zO → zH → Prop} (hl : 50 ≤ h.1.length) (hF : M 10 = zMo F) (k : zG xs d (j, 0, lv_args 0 (zo (some 10) :: args), []) (zov h M) R) : zCV xs (d + 1) j 12 (some 10) args (zov h M) R :=
  ⟨10, _, rfl, by rw [zov_own hl (by decide) (by decide), hF]; rfl, d, rfl, k⟩
/-! small ones -/
theorem zc153 {x : Int32} (hl : 50 ≤ h.1.length) (hF : M 10 = zMo F) (hv : F 0 = .int x) (q : Q (.inl (some (.int x))) (zov h M)) : zG xs d (153, 0, lv_args 0 [zo (some 10)], []) (zov h M) Q := zm_153 (zM_gi hl hF hv q)
theorem zc156 {a b : Int32} (hl : 50 ≤ h.1.length) (hF : M 10 = zMo F) (q : Q (.inl (some (.int b))) (zov h (zub M 10 (zMo (zub F 0 (.int a)))))) : zG xs d (156, 0, lv_args 0 [zo (some 10), .int a, .int b], []) (zov h M) Q := zm_156 (zM_pf hl hF q)
theorem zc196 {x : Int32} (hl : 50 ≤ h.1.length) (hF : M 10 = zMo F) (hv : F 5 = .int x) (q : Q (.inl (some (.int x))) (zov h (zub M 10 (zMo (zub F 0 (.int 0)))))) : zG xs (d + 1) (196, 0, lv_args 0 [zo (some 10)], []) (zov h M) Q :=
  zm_196 (zM_gi hl hF hv (zM_cv hl hF (zc156 hl hF q)))
theorem zc198 {c : Int32} {n : Nat} (hl : 50 ≤ h.1.length) (hF : M 10 = zMo F) (hv : F 53 = .int (nI n)) (q : Q (.inl (some (.int (if c < 0 ∨ nI n ≤ c then 0 else 1)))) (zov h M)) : zG xs d (198, 0, lv_args 0 [zo (some 10), .int c], []) (zov h M) Q := by
  apply zm_198
  refine ⟨fun h1 => ?_, fun h1 => zM_gi hl hF hv ⟨fun h2 => ?_, fun h2 => ?_⟩⟩
  · rw [if_pos (Or.inl h1)] at q; exact ⟨Or.inl rfl, q⟩
  · rw [if_neg (fun z => z.elim h1 (fun z => Int32.not_lt.mpr z h2))] at q; exact ⟨Or.inr rfl, q⟩
  · rw [if_pos (Or.inr (Int32.not_lt.mp h2))] at q; exact ⟨Or.inl rfl, q⟩
theorem zc229 {i : Int32} {n : Nat} {L : List Int32} (hl : 50 ≤ h.1.length) (hF : M 10 = zMo F) (h4 : F 4 = .int (nI n)) (h2 : F 2 = .ref 12) (hA : M 12 = zAi L) (hn : n ≤ L.length) (hL : L.length = 2800) (q : Q (.inl (some (.int (if i < 0 ∨ nI n ≤ i then -1 else L.getD i.toNatClampNeg 0)))) (zov h (zub M 10 (zMo (zub F 0 (.int 0)))))) : zG xs (d + 1) (229, 0, lv_args 0 [zo (some 10), .int i], []) (zov h M) Q := by
  apply zm_229
  refine ⟨fun h1 => ?_, fun h1 => zM_gi hl hF h4 ⟨fun h2' => ?_, fun h2' => ?_⟩⟩
  · rw [if_pos (Or.inl h1)] at q; exact zM_cv hl hF (zc156 hl hF q)
  · rw [if_neg (fun z => z.elim h1 (fun z => Int32.not_lt.mpr z h2'))] at q
    obtain ⟨j, hj, rfl⟩ := nI_of h1
    have hjn : j < n := (nI_ltI hj (by omega)).mp h2'
    rw [nI_clamp hj] at q
    refine zM_gr hl hF h2 (zM_ia hl hA h1 (x := L.getD j 0) ?_ ?_)
    · rw [nI_clamp hj, List.getD_eq_getElem?_getD, List.getElem?_eq_getElem (by omega)]; rfl
    · exact zM_cv hl hF (zc156 hl hF q)
  · rw [if_pos (Or.inr (Int32.not_lt.mp h2'))] at q; exact zM_cv hl hF (zc156 hl hF q)
theorem zc231 {i a b c : Int32} (hl : 50 ≤ h.1.length) (hF : M 10 = zMo F) (h53 : F 53 = .int a) (h3 : F 3 = .int b) (h4 : F 4 = .int c) (q : Q (.inl (some (.int (if i = 0 then a else if i = 1 then b else if i = 2 then c else -1)))) (zov h (zub M 10 (zMo (zub F 0 (.int 0)))))) : zG xs (d + 1) (231, 0, lv_args 0 [zo (some 10), .int i], []) (zov h M) Q := by
  apply zm_231
  refine ⟨fun h1 => ?_, fun h1 => ⟨fun h2 => ?_, fun h2 => ⟨fun h3' => ?_, fun h3' => ?_⟩⟩⟩
  · rw [if_pos h1] at q; exact zM_gi hl hF h53 (zM_cv hl hF (zc156 hl hF q))
  · rw [if_neg h1, if_pos h2] at q; exact zM_gi hl hF h3 (zM_cv hl hF (zc156 hl hF q))
  · rw [if_neg h1, if_neg h2, if_pos h3'] at q; exact zM_gi hl hF h4 (zM_cv hl hF (zc156 hl hF q))
  · rw [if_neg h1, if_neg h2, if_neg h3'] at q; exact zM_cv hl hF (zc156 hl hF q)
/-- put: what it keeps -/
def zmb (word : Int64) (k : Nat) : Int32 := ((word >>> ((((8 : Int32) * nI k)).toInt64 &&& 63)) &&& (255 : Int64)).toInt32
def zmap (word : Int64) : Nat → List Int32 → Nat → List Int32
  | 0, L, _ => L
  | k + 1, L, a => zmap word k (L.set a (zmb word k)) (a + 1)
theorem zmap_len {word : Int64} : ∀ (k : Nat) (L : List Int32) (a : Nat), (zmap word k L a).length = L.length
  | 0, _, _ => rfl
  | k + 1, L, a => by rw [zmap, zmap_len k, List.length_set]
theorem zc154 {word : Int64} {n f : Nat} {L : List Int32} (hl : 50 ≤ h.1.length) (hF : M 10 = zMo F) (h1 : F 1 = .ref 11) (h3 : F 3 = .int (nI f)) (hA : M 11 = zAi L) (hL : L.length = 8660) (hn : 1 ≤ n ∧ n ≤ 8) (hf : f + n ≤ 240)
    (q : ∀ M' F', M' 10 = zMo F' → M' 11 = zAi (zmap word n L f) → (∀ k, k ≠ 10 → k ≠ 11 → M' k = M k) → F' 0 = .int 0 → F' 3 = .int (nI (f + n)) → (∀ j, j ≠ 0 → j ≠ 3 → F' j = F j) → Q (.inl (some (.int (nI (f + n))))) (zov h M')) : zG xs d (154, 0, lv_args 0 [zo (some 10), .long word, .int (nI n)], []) (zov h M) Q := by
  refine zm_154 (fun m l0 l1 l4 h1 => ∃ M1 F1 L1, m ≤ n ∧ l0 = some 10 ∧ l1 = word ∧ l4 = nI m - 1 ∧ h1 = zov h M1 ∧ M1 10 = zMo F1 ∧ M1 11 = zAi L1 ∧ (∀ k, k ≠ 10 → k ≠ 11 → M1 k = M k) ∧ F1 0 = .int 0 ∧ F1 3 = .int (nI (f + (n - m))) ∧ (∀ j, j ≠ 0 → j ≠ 3 → F1 j = F j) ∧ L1.length = 8660 ∧ zmap word m L1 (f + (n - m)) = zmap word n L f) ?_ ?_
  · rintro m l0 l1 l4 h9 ⟨M1, F1, L1, hm, rfl, rfl, rfl, rfl, a1, a2, a3, a4, a5, a6, a7, a8⟩
    cases m with
    | zero =>
      refine ⟨fun _ => ?_, fun q => absurd (by decide) q⟩
      refine zM_gi hl a1 a4 ⟨fun _ => zM_gi hl a1 a5 ?_, fun z => absurd rfl z⟩
      rw [Nat.sub_zero] at a5 a8 ⊢
      rw [zmap] at a8
      exact q M1 F1 a1 (by rw [← a8]; exact a2) a3 a4 a5 a6
    | succ j =>
      rw [nI_pred]
      refine ⟨fun z => absurd z (nI_pos (by omega)), fun _ => ?_⟩
      refine zM_gi hl a1 a4 ⟨fun _ => ?_, fun z => absurd rfl z⟩
      refine zM_gr (a := 11) hl a1 (by rw [a6 1 (by decide) (by decide)]; exact h1) ?_
      refine zM_gi hl a1 a5 ?_
      refine zM_pf hl a1 ?_
      refine zM_st (L := L1) hl (by rw [zub_n (by decide)]; exact a2) (nI_pos (by omega)) (by rw [nI_clamp (by omega)]; omega) ?_
      intro x hx
      refine ⟨j, by omega, _, zub F1 3 (.int (nI (f + (n - j)))), L1.set (f + (n - (j + 1))) (zmb l1 j), by omega, rfl, rfl, by rw [hx, Int32.sub_eq_add_neg], rfl, ?_, ?_, ?_, ?_, ?_, ?_, ?_, ?_⟩
      · rw [zub_n (by decide), zub_s, nI_1, show f + (n - (j + 1)) + 1 = f + (n - j) by omega]
      · rw [zub_s, nI_clamp (by omega)]; rfl
      · intro k k1 k2; rw [zub_n k2, zub_n k1]; exact a3 k k1 k2
      · rw [zub_n (by decide)]; exact a4
      · rw [zub_s]
      · intro i i1 i2; rw [zub_n i2]; exact a6 i i1 i2
      · rw [List.length_set]; exact a7
      · rw [← a8, zmap]; congr 1; omega
  · have hlt : ∀ a b : Nat, a < 2 ^ 31 → b < 2 ^ 31 → ¬ b < a + 1 → ¬ nI b < nI a + 1 - 1 ∨ True := fun _ _ _ _ _ => Or.inr trivial
    refine ⟨fun z => absurd z (nI_nlt (a := n) (b := 1) (by omega) (by omega)), fun _ => ⟨fun z => absurd z (nI_nlt (a := 8) (b := n) (by omega) (by omega)), fun _ => ?_⟩⟩
    refine zM_gi hl hF h3 ?_
    rw [nI_add]
    refine ⟨fun z => absurd z (nI_nlt (a := 240) (b := f + n) (by omega) (by omega)), fun _ => ?_⟩
    refine zM_pf hl hF ?_
    intro x hx
    refine ⟨n, _, _, L, Nat.le_refl _, rfl, rfl, hx, rfl, zub_s, by rw [zub_n (by decide)]; exact hA, fun k k1 k2 => zub_n k1, zub_s, by rw [zub_n (by decide), Nat.sub_self, Nat.add_zero]; exact h3, fun j j1 j2 => zub_n j1, hL, by rw [Nat.sub_self, Nat.add_zero]⟩
/-- put, refused -/
theorem zc154x {word : Int64} {n c : Int32} {f : Nat} (hl : 50 ≤ h.1.length) (hF : M 10 = zMo F) (h3 : F 3 = .int (nI f)) (hc : c = if n < 1 ∨ 8 < n then 1 else 2) (hn : n < 1 ∨ 8 < n ∨ 240 < nI f + n)
    (q : Q (.inl (some (.int 0))) (zov h (zub M 10 (zMo (zub F 0 (.int c)))))) : zG xs d (154, 0, lv_args 0 [zo (some 10), .long word, .int n], []) (zov h M) Q := by
  have hc0 : ¬ c = 0 := by rw [hc]; split <;> decide
  have hend : ∀ J, zw_154_87 xs d Q J (some 10) (zov h (zub M 10 (zMo (zub F 0 (.int c))))) := by
    intro J
    exact zM_gi (F := zub F 0 (.int c)) hl zub_s zub_s ⟨fun z => absurd z hc0, fun _ => q⟩
  refine zm_154 (fun _ l0 _ _ h1 => l0 = some 10 ∧ h1 = zov h (zub M 10 (zMo (zub F 0 (.int c))))) ?_ ?_
  · rintro m l0 l1 l4 h9 ⟨rfl, rfl⟩
    refine ⟨fun _ => hend _, fun _ => zM_gi (F := zub F 0 (.int c)) hl zub_s zub_s ⟨fun z => absurd z hc0, fun _ => hend _⟩⟩
  · refine ⟨fun h1 => ?_, fun h1 => ⟨fun h2 => ?_, fun h2 => zM_gi hl hF h3 ⟨fun h4 => ?_, fun h4 => ?_⟩⟩⟩
    · rw [if_pos (Or.inl h1)] at hc; subst hc
      unfold zw_154_12 zw_154_33
      exact zM_pf hl hF (fun x _ => ⟨0, rfl, rfl⟩)
    · rw [if_pos (Or.inr h2)] at hc; subst hc
      unfold zw_154_12 zw_154_33
      exact zM_pf hl hF (fun x _ => ⟨0, rfl, rfl⟩)
    · rw [if_neg (fun z => z.elim h1 h2)] at hc; subst hc
      unfold zw_154_33
      exact zM_pf hl hF (fun x _ => ⟨0, rfl, rfl⟩)
    · exact absurd hn (fun z => z.elim h1 (fun z => z.elim h2 h4))
end MODEL
/-! the class's small methods -/
section CLS
variable {xs : List Value} {d : Nat} {h : zH} {Q : zO → zH → Prop} {cn w e p q n on : Int32} {bs os cs : List Value}
theorem zX_cv {c j k : Nat} {fs args : List Value} {R : zO → zH → Prop} (hk : zown h k = some (.inr (c, fs))) (g : zG xs d (j, 0, lv_args 0 (zo (some k) :: args), []) h R) : zCV xs (d + 1) j c (some k) args h R := ⟨k, fs, rfl, hk, d, rfl, g⟩
theorem zX_gi {c j k : Nat} {fs : List Value} {x : Int32} {K : Int32 → Prop} (hk : zown h k = some (.inr (c, fs))) (hv : fs[j]? = some (.int x)) (g : K x) : zGI (some k) c j h K := ⟨k, fs, x, rfl, hk, hv, g⟩
theorem zX_gl {c j k : Nat} {fs : List Value} {x : Int64} {K : Int64 → Prop} (hk : zown h k = some (.inr (c, fs))) (hv : fs[j]? = some (.long x)) (g : K x) : zGL (some k) c j h K := ⟨k, fs, x, rfl, hk, hv, g⟩
theorem zX_gr {c j k a : Nat} {fs : List Value} {K : zP → Prop} (hk : zown h k = some (.inr (c, fs))) (hv : fs[j]? = some (.ref a)) (g : K (some a)) : zGR (some k) c j h K := ⟨k, fs, some a, rfl, hk, hv, g⟩
theorem zX_gn {c j k : Nat} {fs : List Value} {K : zP → Prop} (hk : zown h k = some (.inr (c, fs))) (hv : fs[j]? = some .null) (g : K none) : zGR (some k) c j h K := ⟨k, fs, none, rfl, hk, hv, g⟩
theorem zX_pf {c j k : Nat} {fs : List Value} {v : Value} {K : zH → Prop} (hk : zown h k = some (.inr (c, fs))) (hj : j < fs.length) (g : K (zput h k (.inr (c, fs.set j v)))) : zPF (some k) c j v h K := ⟨k, fs, rfl, hk, hj, g⟩
theorem zc4 (h3 : zown h 3 = some (.inr (0, [.ref 4, .ref 7, .ref 9, .int cn]))) (h4 : zown h 4 = some (.inr (1, [.ref 5, .ref 6, .int n, .int w, .int e, .int p, .int q]))) (k : Q (.inl (some (.int w))) h) : zG xs d (4, 0, lv_args 0 [zo (some 3)], []) h Q := zm_4 (zX_gr h3 rfl (zX_gi h4 rfl k))
theorem zc22 (h4 : zown h 4 = some (.inr (1, [.ref 5, .ref 6, .int n, .int w, .int e, .int p, .int q]))) (k : Q (.inl none) (zput h 4 (.inr (1, [.ref 5, .ref 6, .int 0, .int w, .int e, .int p, .int q])))) : zG xs d (22, 0, lv_args 0 [zo (some 4)], []) h Q := zm_22 (zX_pf h4 (show 2 < 7 by decide) k)
theorem zc95 (h7 : zown h 7 = some (.inr (2, [.ref 8, .int on]))) (k : Q (.inl none) (zput h 7 (.inr (2, [.ref 8, .int 0])))) : zG xs d (95, 0, lv_args 0 [zo (some 7)], []) h Q := zm_95 (zX_pf h7 (show 1 < 2 by decide) k)
theorem zc16 {i : Int32} (h3 : zown h 3 = some (.inr (0, [.ref 4, .ref 7, .ref 9, .int cn]))) (h4 : zown h 4 = some (.inr (1, [.ref 5, .ref 6, .int n, .int w, .int e, .int p, .int q]))) (h7 : zown h 7 = some (.inr (2, [.ref 8, .int on]))) (k : Q (.inl (some (.int (if i = 0 then cn else if i = 1 then n else if i = 2 then on else -1)))) h) : zG xs d (16, 0, lv_args 0 [zo (some 3), .int i], []) h Q := by
  apply zm_16
  refine ⟨fun h1 => ?_, fun h1 => ?_, fun h1 => ?_, fun ⟨h1, h2, h5⟩ => ?_⟩
  · rw [if_pos h1] at k; exact zX_gi h3 rfl k
  · subst h1; exact zX_gr h3 rfl (zX_gi h4 rfl k)
  · subst h1; exact zX_gr h3 rfl (zX_gi h7 rfl k)
  · rw [if_neg h1, if_neg h2, if_neg h5] at k; exact k
theorem zc6 {i : Int32} {m : Nat} (h7 : zown h 7 = some (.inr (2, [.ref 8, .int (nI m)]))) (h8 : zown h 8 = some (.inl (2, os))) (hm : m ≤ 2686) (hl : os.length = 2686) (hos : ∀ v ∈ os, ∃ x, v = .int x) (k : Q (.inl (some (.int (if i < 0 ∨ nI m ≤ i then -1 else (match os.getD i.toNatClampNeg .null with | .int x => x | _ => 0) &&& 255)))) h) : zG xs d (6, 0, lv_args 0 [zo (some 7), .int i], []) h Q := by
  apply zm_6
  refine ⟨fun h1 => ?_, fun h1 => zX_gi h7 rfl ⟨fun h2 => ?_, fun h2 => ?_⟩⟩
  · rw [if_pos (Or.inl h1)] at k; exact k
  · rw [if_neg (fun z => z.elim h1 (fun z => Int32.not_lt.mpr z h2))] at k
    obtain ⟨j, hj, rfl⟩ := nI_of h1
    have hjm : j < m := (nI_ltI hj (by omega)).mp h2
    refine zX_gr h7 rfl ⟨8, 2, os, rfl, zarr_own h8, by decide, ?_⟩
    rw [hl]
    refine ⟨fun _ => zX_gr h7 rfl ?_, fun z => absurd (nI_lt (by omega) (by omega)) z⟩
    obtain ⟨x, hx⟩ := hos os[j] (List.getElem_mem (by omega))
    rw [nI_clamp hj, List.getD_eq_getElem?_getD, List.getElem?_eq_getElem (by omega : j < os.length), Option.getD_some, hx] at k
    refine ⟨8, 2, os, x, rfl, h8, Or.inl rfl, h1, ?_, k⟩
    rw [nI_clamp hj, List.getElem?_eq_getElem (by omega : j < os.length), hx]
  · rw [if_pos (Or.inr (Int32.not_lt.mp h2))] at k; exact k
theorem zc5 {i : Int32} {m : Nat} (h3 : zown h 3 = some (.inr (0, [.ref 4, .ref 7, .ref 9, .int cn]))) (h7 : zown h 7 = some (.inr (2, [.ref 8, .int (nI m)]))) (h8 : zown h 8 = some (.inl (2, os))) (hm : m ≤ 2686) (hl : os.length = 2686) (hos : ∀ v ∈ os, ∃ x, v = .int x) (k : Q (.inl (some (.int (if i < 0 ∨ nI m ≤ i then -1 else (match os.getD i.toNatClampNeg .null with | .int x => x | _ => 0) &&& 255)))) h) : zG xs (d + 1) (5, 0, lv_args 0 [zo (some 3), .int i], []) h Q :=
  zm_5 (zX_gr h3 rfl (zX_cv h7 (zc6 h7 h8 hm hl hos k)))
theorem zc8 {c : Int32} {m : Nat} {K : zP → zH → Prop} {E : Nat → zH → Prop} (h3 : zown h 3 = some (.inr (0, [.ref 4, .ref 7, .ref 9, .int (nI m)]))) (h9 : zown h 9 = some (.inl (5, cs))) (hl : cs.length = 4) (hm : m ≤ 4) (k0 : c < 0 ∨ nI m ≤ c → K none h) (k1 : ∀ j, j < m → c = nI j → ∃ a, cs[j]? = some (.ref a) ∧ K (some a) h) : zG xs d (8, 0, lv_args 0 [zo (some 3), .int c], []) h (zKR K E) := by
  apply zm_8
  refine ⟨fun h1 => k0 (Or.inl h1), fun h1 => zX_gi h3 rfl ⟨fun h2 => ?_, fun h2 => k0 (Or.inr (Int32.not_lt.mp h2))⟩⟩
  obtain ⟨j, hj, rfl⟩ := nI_of h1
  have hjm : j < m := (nI_ltI hj (by omega)).mp h2
  refine zX_gr h3 rfl ⟨9, 5, cs, rfl, zarr_own h9, by decide, ?_⟩
  rw [hl]
  refine ⟨fun _ => zX_gr h3 rfl ?_, fun z => absurd (nI_lt (by omega) (by omega)) z⟩
  obtain ⟨a, ha, k⟩ := k1 j hjm rfl
  exact ⟨9, 5, cs, some a, rfl, h9, by decide, h1, by rw [nI_clamp hj]; exact ha, k⟩
theorem zc18 {word : Int64} {len m : Nat} (h3 : zown h 3 = some (.inr (0, [.ref 4, .ref 7, .ref 9, .int cn]))) (h4 : zown h 4 = some (.inr (1, [.ref 5, .ref 6, .int (nI len), .int w, .int e, .int p, .int q]))) (h5 : zown h 5 = some (.inl (2, bs))) (hb : bs.length = 240) (hm : 1 ≤ m ∧ m ≤ 8) (hn : len + m ≤ 240)
    (k : Q (.inl (some (.int (nI (len + m))))) (zput (zput h 5 (.inl (2, zapp word m bs len))) 4 (.inr (1, [.ref 5, .ref 6, .int (nI (len + m)), .int w, .int e, .int p, .int q])))) : zG xs (d + 1) (18, 0, lv_args 0 [zo (some 3), .long word, .int (nI m)], []) h Q := by
  apply zm_18
  refine ⟨fun z => absurd z (nI_nlt (a := m) (b := 1) (by omega) (by omega)), fun _ => ⟨fun z => absurd z (nI_nlt (a := 8) (b := m) (by omega) (by omega)), fun _ => ?_⟩⟩
  refine zX_gr h3 rfl (zX_gi h4 rfl ?_)
  rw [nI_add]
  refine ⟨fun z => absurd z (nI_nlt (a := 240) (b := len + m) (by omega) (by omega)), fun _ => ?_⟩
  refine zX_gr h3 rfl (zX_cv h4 (zc19 h4 h5 hb hn ?_))
  have g4 : zown (zput h 5 (.inl (2, zapp word m bs len))) 4 = some (.inr (1, [.ref 5, .ref 6, .int (nI len), .int w, .int e, .int p, .int q])) := by rw [zown_ne h5 (by decide)]; exact h4
  refine zX_gr (a := 4) (fs := [.ref 4, .ref 7, .ref 9, .int cn]) ?_ rfl (zX_gi (zown_put g4) rfl k)
  rw [zown_ne g4 (by decide), zown_ne h5 (by decide)]; exact h3
theorem zc18x {word : Int64} {m : Int32} {len e0 : Nat} (hd : 8 ≤ d) (h3 : zown h 3 = some (.inr (0, [.ref 4, .ref 7, .ref 9, .int cn]))) (h4 : zown h 4 = some (.inr (1, [.ref 5, .ref 6, .int (nI len), .int w, .int e, .int p, .int q]))) (hc : e0 = if m < 1 ∨ 8 < m then 0 else 1) (hn : m < 1 ∨ 8 < m ∨ 240 < nI len + m)
    (k : Q (.inr e0) (h.1, h.2.1 + 1, h.2.2 + 6)) : zG xs d (18, 0, lv_args 0 [zo (some 3), .long word, .int m], []) h Q := by
  apply zm_18
  refine ⟨fun h1 => ?_, fun h1 => ⟨fun h2 => ?_, fun h2 => ?_⟩⟩
  · rw [if_pos (Or.inl h1)] at hc; subst hc; exact ⟨hd, k⟩
  · rw [if_pos (Or.inr h2)] at hc; subst hc; exact ⟨hd, k⟩
  · refine zX_gr h3 rfl (zX_gi h4 rfl ⟨fun h5 => ?_, fun h5 => absurd hn (fun z => z.elim h1 (fun z => z.elim h2 h5))⟩)
    rw [if_neg (fun z => z.elim h1 h2)] at hc; subst hc; exact ⟨hd, k⟩
end CLS
/-! ways that end in a refusal -/
/-- h, and an exception made -/
def zex (h : zH) : zH := (h.1, h.2.1 + 1, h.2.2 + 6)
section FAIL
variable {xs : List Value} {d : Nat} {h : zH} {Q : zO → zH → Prop} {cn w e p q n on : Int32} {bs os cs : List Value}
theorem zc27t {x : Int32} (k : Q (.inl none) h) : zG xs d (27, 0, lv_args 0 [zo (some 4), .int 1, .int x], []) h Q := zm_27 ⟨fun z => absurd z (by decide), fun _ => k⟩
theorem zc27f {x : Int32} (hd : 8 ≤ d) (h4 : zown h 4 = some (.inr (1, [.ref 5, .ref 6, .int n, .int w, .int e, .int p, .int q]))) (k : Q (.inr 0) (zex (zput h 4 (.inr (1, [.ref 5, .ref 6, .int n, .int x, .int e, .int p, .int q]))))) : zG xs d (27, 0, lv_args 0 [zo (some 4), .int 0, .int x], []) h Q :=
  zm_27 ⟨fun _ => zX_pf h4 (show 3 < 7 by decide) ⟨hd, k⟩, fun z => absurd rfl z⟩
/-- next, behind the end -/
theorem zc26x (hd : 8 ≤ d) (h4 : zown h 4 = some (.inr (1, [.ref 5, .ref 6, .int n, .int w, .int e, .int p, .int q]))) (hp : ¬ p < e) (k : Q (.inr 0) (zex (zput h 4 (.inr (1, [.ref 5, .ref 6, .int n, .int e, .int e, .int p, .int q]))))) : zG xs (d + 1) (26, 0, lv_args 0 [zo (some 4)], []) h Q :=
  zm_26 (zX_gi h4 rfl (zX_gi h4 rfl ⟨fun z => absurd z hp, fun _ => zX_gi h4 rfl (zX_cv h4 (zc27f hd h4 k))⟩))
theorem zc25x {x : Int32} (hd : 8 ≤ d) (h4 : zown h 4 = some (.inr (1, [.ref 5, .ref 6, .int n, .int w, .int e, .int p, .int q]))) (hp : ¬ p < e) (k : Q (.inr 0) (zex (zput h 4 (.inr (1, [.ref 5, .ref 6, .int n, .int e, .int e, .int p, .int q]))))) : zG xs (d + 2) (25, 0, lv_args 0 [zo (some 4), .int x], []) h Q :=
  zm_25 (zX_gi h4 rfl (zX_cv h4 (zc26x hd h4 hp k)))
theorem zc24x {x y : Int32} (hd : 8 ≤ d) (h4 : zown h 4 = some (.inr (1, [.ref 5, .ref 6, .int n, .int w, .int e, .int p, .int q]))) (hp : ¬ p < e) (hx : 0 < x) (hx2 : x.toNatClampNeg ≤ 65536)
    (k : Q (.inr 0) (zex (zput (zadd h (.inl (6, List.replicate x.toNatClampNeg .null)) x.toNatClampNeg) 4 (.inr (1, [.ref 5, .ref 6, .int n, .int e, .int e, .int p, .int q]))))) : zG xs (d + 3) (24, 0, lv_args 0 [zo (some 4), .int x, .int y], []) h Q := by
  refine zm_24 (fun _ l0 l1 _ _ l4 h1 => l0 = some 4 ∧ l1 = x ∧ l4 = 0 ∧ h1 = zadd h (.inl (6, List.replicate x.toNatClampNeg .null)) x.toNatClampNeg) ?_ ?_
  · rintro m l0 l1 l2 l3 l4 h1 ⟨rfl, rfl, rfl, rfl⟩
    exact ⟨fun _ => zX_cv (zown_add h4) (zc25x hd (zown_add h4) hp k), fun z => absurd hx z⟩
  · exact ⟨⟨Int32.not_lt.mpr (Int32.le_of_lt hx), hx2⟩, 0, rfl, rfl, rfl, rfl⟩
/-- read with an empty buffer -/
theorem zc23x {x : Int32} (hd : 8 ≤ d) (h4 : zown h 4 = some (.inr (1, [.ref 5, .ref 6, .int 0, .int w, .int e, .int p, .int q]))) (hx : 0 < x) (hx2 : x.toNatClampNeg ≤ 65536)
    (k : ∀ h1, (∀ j, j ≠ 4 → zown h j ≠ none → zown h1 j = zown h j) → zown h1 4 = some (.inr (1, [.ref 5, .ref 6, .int 0, .int 0, .int 0, .int 0, .int 0])) → h1.1.length = h.1.length + 2 → h1.2 = (h.2.1 + 3, h.2.2 + 11 + x.toNatClampNeg) → Q (.inr 0) h1) : zG xs (d + 4) (23, 0, lv_args 0 [zo (some 4), .int x], []) h Q := by
  apply zm_23
  refine zX_gi h4 rfl (zX_pf h4 (show 4 < 7 by decide) ?_)
  refine zX_pf (zown_put h4) (show 2 < 7 by decide) ?_
  rw [zput_put]
  refine zX_pf (zown_put h4) (show 3 < 7 by decide) ?_
  rw [zput_put]
  refine zX_pf (zown_put h4) (show 5 < 7 by decide) ?_
  rw [zput_put]
  refine zX_pf (zown_put h4) (show 6 < 7 by decide) ?_
  rw [zput_put]
  refine zNO_i ?_
  have g4 := zown_add (n := 5) (e' := .inr (4, [.int 0, .int 0, .int 0, .null, .null])) (zown_put (e := .inr (1, [.ref 5, .ref 6, .int 0, .int (-1), .int 0, .int 0, .int 0])) h4)
  refine zX_cv g4 (zc24x hd g4 (by decide) hx hx2 ?_)
  refine k _ ?_ ?_ ?_ ?_
  · intro j hj h0
    obtain ⟨ej, hej⟩ := Option.ne_none_iff_exists'.mp h0
    show zown (zput (zadd (zadd _ _ _) _ _) 4 _) j = _
    have a1 : zown (zput h 4 (.inr (1, [.ref 5, .ref 6, .int 0, .int (-1), .int 0, .int 0, .int 0]))) j = some ej := by rw [zown_ne h4 hj]; exact hej
    refine (zown_ne (zown_add g4) hj).trans ?_
    rw [hej]
    exact zown_add (zown_add a1)
  · exact zown_put (zown_add g4)
  · show (List.set _ _ _).length = _
    rw [List.length_set]
    show (List.append _ _).length = _
    simp [zadd, zput]
  · show (_ , _) = _
    simp [zadd, zput, zex]
    omega
theorem zc21x {d : Nat} (hd : 8 ≤ d) (h3 : zown h 3 = some (.inr (0, [.ref 4, .ref 7, .ref 9, .int 0]))) (h9 : zown h 9 = some (.inl (5, cs))) (hl : cs.length = 4) (h4 : zown h 4 = some (.inr (1, [.ref 5, .ref 6, .int 0, .int w, .int e, .int p, .int q])))
    (k : ∀ h1, (∀ j, j ≠ 4 → zown h j ≠ none → zown h1 j = zown h j) → zown h1 4 = some (.inr (1, [.ref 5, .ref 6, .int 0, .int 0, .int 0, .int 0, .int 0])) → h1.1.length = h.1.length + 2 → h1.2 = (h.2.1 + 3, h.2.2 + 16) → Q (.inr 0) h1) : zG xs (d + 5) (21, 0, lv_args 0 [zo (some 3)], []) h Q := by
  apply zm_21
  refine zX_gi h3 rfl (zX_gr h3 rfl ⟨9, 5, cs, rfl, zarr_own h9, by decide, ?_⟩)
  rw [hl]
  refine ⟨fun _ => zX_gr h3 rfl (zX_cv h4 (zc23x hd h4 (by decide) (by decide) ?_)), fun z => absurd (by decide) z⟩
  exact k
/-- call of what is no contract -/
theorem zc94x {c x y : Int32} {d : Nat} (hd : 8 ≤ d) (h3 : zown h 3 = some (.inr (0, [.ref 4, .ref 7, .ref 9, .int 0]))) (h9 : zown h 9 = some (.inl (5, cs))) (hl : cs.length = 4) (h4 : zown h 4 = some (.inr (1, [.ref 5, .ref 6, .int n, .int w, .int e, .int p, .int q]))) (h7 : zown h 7 = some (.inr (2, [.ref 8, .int on])))
    (k : Q (.inr 0) (zex (zput (zput h 7 (.inr (2, [.ref 8, .int 0]))) 4 (.inr (1, [.ref 5, .ref 6, .int 0, .int w, .int e, .int p, .int q]))))) : zG xs (d + 1) (94, 0, lv_args 0 [zo (some 3), .int c, .int x, .int y], []) h Q := by
  apply zm_94
  refine zX_gr h3 rfl (zX_cv h7 (zc95 h7 ?_))
  have a3 : zown (zput h 7 (.inr (2, [.ref 8, .int 0]))) 3 = some (.inr (0, [.ref 4, .ref 7, .ref 9, .int (nI 0)])) := by rw [zown_ne h7 (by decide)]; exact h3
  have a4 : zown (zput h 7 (.inr (2, [.ref 8, .int 0]))) 4 = some (.inr (1, [.ref 5, .ref 6, .int n, .int w, .int e, .int p, .int q])) := by rw [zown_ne h7 (by decide)]; exact h4
  have a9 : zown (zput h 7 (.inr (2, [.ref 8, .int 0]))) 9 = some (.inl (5, cs)) := by rw [zown_ne h7 (by decide)]; exact h9
  refine zX_cv a3 (zc8 (m := 0) a3 a9 hl (by decide) (fun _ => ⟨fun _ => ?_, fun z => absurd rfl z⟩) (fun j hj => absurd hj (by omega)))
  exact zX_gr a3 rfl (zX_cv a4 (zc22 a4 ⟨by omega, k⟩))
theorem zc147x {c : Int32} {d : Nat} (hd : 8 ≤ d) (h3 : zown h 3 = some (.inr (0, [.ref 4, .ref 7, .ref 9, .int 0]))) (h9 : zown h 9 = some (.inl (5, cs))) (hl : cs.length = 4) (k : Q (.inr 0) (zex h)) : zG xs (d + 1) (147, 0, lv_args 0 [zo (some 3), .int c], []) h Q :=
  zm_147 (zX_cv h3 (zc8 (m := 0) h3 h9 hl (by decide) (fun _ => ⟨fun _ => ⟨by omega, k⟩, fun z => absurd rfl z⟩) (fun j hj => absurd hj (by omega))))
theorem zc150x {c : Int32} {d : Nat} (hd : 8 ≤ d) (h3 : zown h 3 = some (.inr (0, [.ref 4, .ref 7, .ref 9, .int 0]))) (h9 : zown h 9 = some (.inl (5, cs))) (hl : cs.length = 4) (h4 : zown h 4 = some (.inr (1, [.ref 5, .ref 6, .int n, .int w, .int e, .int p, .int q]))) (k : Q (.inr 0) (zex (zput h 4 (.inr (1, [.ref 5, .ref 6, .int 0, .int w, .int e, .int p, .int q]))))) : zG xs (d + 1) (150, 0, lv_args 0 [zo (some 3), .int c], []) h Q :=
  zm_150 (zX_cv h3 (zc8 (m := 0) h3 h9 hl (by decide) (fun _ => ⟨fun _ => zX_gr h3 rfl (zX_cv h4 (zc22 h4 ⟨by omega, k⟩)), fun z => absurd rfl z⟩) (fun j hj => absurd hj (by omega))))
theorem zc7x {c x : Int32} {d : Nat} (h3 : zown h 3 = some (.inr (0, [.ref 4, .ref 7, .ref 9, .int 0]))) (h9 : zown h 9 = some (.inl (5, cs))) (hl : cs.length = 4) (k : Q (.inl (some (.int (-1)))) h) : zG xs (d + 1) (7, 0, lv_args 0 [zo (some 3), .int c, .int x], []) h Q :=
  zm_7 (zX_cv h3 (zc8 (m := 0) h3 h9 hl (by decide) (fun _ => ⟨fun _ => k, fun z => absurd rfl z⟩) (fun j hj => absurd hj (by omega))))
end FAIL
section MFAIL
variable {xs : List Value} {d : Nat} {h : zH} {M : Nat → zE} {F : Nat → Value} {Q : zO → zH → Prop}
theorem zc158 {x s : Int32} (hl : 50 ≤ h.1.length) (hF : M 10 = zMo F) (h6 : F 6 = .int s) (k : Q (.inl (some (.int (-1)))) (zov h (zub M 10 (zMo (zub F 5 (.int (x - s))))))) : zG xs d (158, 0, lv_args 0 [zo (some 10), .int x], []) (zov h M) Q :=
  zm_158 (zM_gi hl hF h6 (zM_pf hl hF k))
/-- nodes of an empty buffer -/
theorem zc157x {x y : Int32} (hl : 50 ≤ h.1.length) (hF : M 10 = zMo F) (hy : 0 < y) (k : ∀ M' F', M' 10 = zMo F' → (∀ j, j ≠ 10 → M' j = M j) → F' 5 = .int (x + 0 - x) → (∀ j, j ≠ 5 → j ≠ 6 → j ≠ 7 → j ≠ 8 → F' j = F j) → Q (.inl (some (.int 0))) (zov h M')) : zG xs (d + 1) (157, 0, lv_args 0 [zo (some 10), .int x, .int 0, .int y], []) (zov h M) Q := by
  refine zm_157 (fun _ l0 l3 l4 l5 l6 l7 h1 => ∃ M1 F1, l0 = some 10 ∧ l3 = y ∧ l5 = x ∧ l6 = 0 ∧ l7 = 0 ∧ h1 = zov h M1 ∧ M1 10 = zMo F1 ∧ (∀ j, j ≠ 10 → M1 j = M j) ∧ F1 6 = .int x ∧ F1 7 = .int (x + 0) ∧ (∀ j, j ≠ 5 → j ≠ 6 → j ≠ 7 → j ≠ 8 → F1 j = F j)) (fun _ _ _ _ _ _ _ _ _ _ => False) ?_ (fun _ _ _ _ _ _ _ _ _ _ z => z.elim) ?_
  · rintro m l0 l3 l4 l5 l6 l7 h1 ⟨M1, F1, rfl, rfl, rfl, rfl, rfl, rfl, a1, a2, a3, a4, a5⟩
    refine ⟨fun _ => ⟨fun _ => zM_gi hl a1 a4 ⟨fun z => absurd z (by rw [Int32.add_zero]; exact Int32.lt_irrefl), fun _ => zM_gi hl a1 a4 (zM_cv hl a1 (zc158 hl a1 a3 ⟨fun _ => ⟨Or.inl rfl, ?_⟩, fun z => absurd (by decide) z⟩))⟩, fun z => absurd hy z⟩, fun z => absurd (by decide) z⟩
    exact k _ _ zub_s (fun j hj => by rw [zub_n hj]; exact a2 j hj) zub_s (fun j j1 j2 j3 j4 => by rw [zub_n j1]; exact a5 j j1 j2 j3 j4)
  · refine zM_pf hl hF (zM_pf hl zub_s (zM_pf hl zub_s (zM_pf hl zub_s ?_)))
    refine ⟨0, _, _, rfl, rfl, rfl, rfl, rfl, rfl, zub_s, ?_, rfl, rfl, ?_⟩
    · intro j hj; rw [zub_n hj, zub_n hj, zub_n hj, zub_n hj]
    · intro j j1 j2 j3 j4; rw [zub_n j4, zub_n j1, zub_n j3, zub_n j2]
theorem zc155x (hl : 50 ≤ h.1.length) (hF : M 10 = zMo F) (h3 : F 3 = .int 0) (h53 : F 53 = .int 0) (k : ∀ M' F', M' 10 = zMo F' → (∀ j, j ≠ 10 → M' j = M j) → F' 0 = .int 2 → F' 5 = .int 0 → F' 3 = .int 0 → (∀ j, j ≠ 0 → j ≠ 3 → j ≠ 5 → j ≠ 6 → j ≠ 7 → j ≠ 8 → F' j = F j) → Q (.inl (some (.int 0))) (zov h M')) : zG xs (d + 2) (155, 0, lv_args 0 [zo (some 10)], []) (zov h M) Q := by
  refine zm_155 (fun _ _ _ _ _ _ _ => False) (fun _ _ _ _ _ _ _ => False) (fun _ _ _ _ _ _ _ z => z.elim) (fun _ _ _ _ _ _ _ z => z.elim) ?_
  refine zM_gi hl hF h3 (zM_gi hl hF h53 (zM_pf hl hF ⟨fun z => absurd z (by decide), fun _ => ?_⟩))
  refine zM_cv hl zub_s (zc157x hl zub_s (by decide) (fun M' F' a1 a2 a3 a4 => ⟨fun _ => ?_, fun z => absurd rfl z⟩))
  refine zM_cv hl a1 (zc156 hl a1 ?_)
  refine k _ _ zub_s (fun j hj => by rw [zub_n hj, a2 j hj, zub_n hj]) zub_s (by rw [zub_n (by decide)]; exact a3) (by rw [zub_n (by decide), a4 3 (by decide) (by decide) (by decide) (by decide), zub_s]) ?_
  intro j j0 j1 j2 j3 j4 j5
  rw [zub_n j0, a4 j j2 j3 j4 j5, zub_n j1]
theorem zc197x {c x y : Int32} {f : Int32} (hl : 50 ≤ h.1.length) (hF : M 10 = zMo F) (h3 : F 3 = .int f) (h53 : F 53 = .int 0) (k : Q (.inl (some (.int 0))) (zov h (zub (zub (zub M 10 (zMo (zub F 3 (.int 0)))) 10 (zMo (zub (zub F 3 (.int 0)) 4 (.int 0)))) 10 (zMo (zub (zub (zub F 3 (.int 0)) 4 (.int 0)) 0 (.int 1)))))) : zG xs (d + 1) (197, 0, lv_args 0 [zo (some 10), .int c, .int x, .int y], []) (zov h M) Q := by
  refine zm_197 (fun _ _ _ _ _ _ _ _ _ => False) (fun _ _ _ _ _ _ _ _ _ z => z.elim) ?_
  refine zM_gi hl hF h3 (zM_pf hl hF (zM_pf hl zub_s ?_))
  refine zM_cv hl zub_s (zc198 (n := 0) hl zub_s h53 ?_)
  rw [if_pos (by by_cases h1 : c < 0; exact Or.inl h1; exact Or.inr (Int32.not_lt.mp h1))]
  refine ⟨fun _ => ?_, fun z => absurd rfl z⟩
  exact zM_cv hl zub_s (zc156 hl zub_s k)
theorem zc227x {c : Int32} (hl : 50 ≤ h.1.length) (hF : M 10 = zMo F) (h53 : F 53 = .int 0) (k : Q (.inl (some (.int 0))) (zov h (zub M 10 (zMo (zub F 0 (.int 1)))))) : zG xs (d + 1) (227, 0, lv_args 0 [zo (some 10), .int c], []) (zov h M) Q := by
  apply zm_227
  refine zM_cv hl hF (zc198 (n := 0) hl hF h53 ?_)
  rw [if_pos (by by_cases h1 : c < 0; exact Or.inl h1; exact Or.inr (Int32.not_lt.mp h1))]
  exact ⟨fun _ => zM_cv hl hF (zc156 hl hF k), fun z => absurd rfl z⟩
theorem zc228x {c f : Int32} (hl : 50 ≤ h.1.length) (hF : M 10 = zMo F) (h3 : F 3 = .int f) (h53 : F 53 = .int 0) (k : Q (.inl (some (.int 0))) (zov h (zub (zub M 10 (zMo (zub F 3 (.int 0)))) 10 (zMo (zub (zub F 3 (.int 0)) 0 (.int 1)))))) : zG xs (d + 1) (228, 0, lv_args 0 [zo (some 10), .int c], []) (zov h M) Q := by
  apply zm_228
  refine zM_gi hl hF h3 (zM_pf hl hF ?_)
  refine zM_cv hl zub_s (zc198 (n := 0) hl zub_s h53 ?_)
  rw [if_pos (by by_cases h1 : c < 0; exact Or.inl h1; exact Or.inr (Int32.not_lt.mp h1))]
  exact ⟨fun _ => zM_cv hl zub_s (zc156 hl zub_s k), fun z => absurd rfl z⟩
theorem zc230x {c x : Int32} (hl : 50 ≤ h.1.length) (hF : M 10 = zMo F) (h53 : F 53 = .int 0) (k : Q (.inl (some (.int (-1)))) (zov h (zub M 10 (zMo (zub F 0 (.int 0)))))) : zG xs (d + 1) (230, 0, lv_args 0 [zo (some 10), .int c, .int x], []) (zov h M) Q := by
  apply zm_230
  refine zM_cv hl hF (zc198 (n := 0) hl hF h53 ?_)
  rw [if_pos (by by_cases h1 : c < 0; exact Or.inl h1; exact Or.inr (Int32.not_lt.mp h1))]
  exact ⟨fun _ => zM_cv hl hF (zc156 hl hF k), fun z => absurd rfl z⟩
end MFAIL
