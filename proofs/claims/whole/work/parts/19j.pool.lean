/-! the reference's pools -/
def zSm {α : Type} (S : List Nat) (A B : Nat → α) : Prop := ∀ k, k ∉ S → B k = A k
theorem zSm_refl {α : Type} {S : List Nat} {A : Nat → α} : zSm S A A := fun _ _ => rfl
theorem zSm_trans {α : Type} {S T U : List Nat} {A B C : Nat → α} (h1 : zSm S A B) (h2 : zSm T B C) (hs : ∀ k, k ∈ S → k ∈ U) (ht : ∀ k, k ∈ T → k ∈ U) : zSm U A C := fun k hk => (h2 k (fun z => hk (ht k z))).trans (h1 k (fun z => hk (hs k z)))
theorem zSm_t {α : Type} {S : List Nat} {A B C : Nat → α} (h1 : zSm S A B) (h2 : zSm S B C) : zSm S A C := zSm_trans h1 h2 (fun _ z => z) (fun _ z => z)
theorem zSm_mono {α : Type} {S T : List Nat} {A B : Nat → α} (h1 : zSm S A B) (hs : ∀ k, k ∈ S → k ∈ T) : zSm T A B := fun k hk => h1 k (fun z => hk (hs k z))
theorem zSm_ub {α : Type} {S : List Nat} {A B : Nat → α} {k : Nat} {e : α} (h1 : zSm S A B) (hk : k ∈ S) : zSm S A (zub B k e) := fun j hj => by
  have hne : j ≠ k := fun z => hj (by rw [z]; exact hk)
  rw [zub_n hne]
  exact h1 j hj
/-- the fields that hold arrays, and these arrays' labels -/
def zrfs : List (Nat × Nat) := [(1, 11), (2, 12), (9, 13), (10, 14), (11, 15), (12, 16), (13, 17), (14, 18), (15, 19), (16, 20), (17, 21), (18, 22), (19, 23), (20, 24), (22, 25), (23, 26), (24, 27), (25, 28), (26, 29), (30, 30), (31, 31), (32, 32), (33, 33), (34, 34), (35, 35), (36, 36), (37, 37), (38, 38), (39, 39), (40, 40), (41, 41), (42, 42), (43, 43), (44, 44), (45, 45), (46, 46), (47, 47), (48, 48), (61, 49), (62, 50), (63, 51), (64, 52)]
def zRf (F : Nat → Value) : Prop := ∀ q ∈ zrfs, F q.1 = .ref q.2
theorem zRf_sm {F F' : Nat → Value} {T : List Nat} (h : zRf F) (hs : zSm T F F') (ht : (zrfs.all fun q => !(T.contains q.1)) = true) : zRf F' := fun q hq => by
  have h1 := List.all_eq_true.mp ht q hq
  rw [hs q.1 (by simpa using h1)]
  exact h q hq
def zAy (L : List Int32) : zE := .inl (2, L.map Value.int)
def zAh (L : List Int32) : zE := .inl (3, L.map Value.int)
def zAl (L : List Int64) : zE := .inl (1, L.map Value.long)
section MARR
variable {xs : List Value} {d : Nat} {h : zH} {M : Nat → zE} {F : Nat → Value} {Q : zO → zH → Prop} {k j x : Nat}
theorem zM_ia' {v : Int32} {L : List Int32} {K : Int32 → Prop} (hl : 50 ≤ h.1.length) (hA : M k = zAi L) (hv : L[j]? = some v) (kk : K v) (hj : j < 2 ^ 31 := by omega) (h1 : 10 ≤ k := by decide) (h2 : k ≤ 52 := by decide) : zIA xs (some k) (nI j) (zov h M) K := zM_ia hl hA (nI_pos hj) (by rw [nI_clamp hj]; exact hv) kk h1 h2
theorem zM_st' {v : Int32} {L : List Int32} {K : zH → Prop} (hl : 50 ≤ h.1.length) (hA : M k = zAi L) (hv : j < L.length) (hL : L.length < 2 ^ 31) (kk : K (zov h (zub M k (zAi (L.set j v))))) (h1 : 10 ≤ k := by decide) (h2 : k ≤ 52 := by decide) : zST 0 (some k) (nI j) (.int v) (zov h M) K := zM_st hl hA (nI_pos (by omega)) (by rw [nI_clamp (by omega)]; exact hv) (by rw [nI_clamp (by omega)]; exact kk) h1 h2
theorem zM_ba {v : Int32} {L : List Int32} {K : Int32 → Prop} (hl : 50 ≤ h.1.length) (hA : M k = zAy L) (hv : L[j]? = some v) (kk : K v) (hj : j < 2 ^ 31 := by omega) (h1 : 10 ≤ k := by decide) (h2 : k ≤ 52 := by decide) : zBA (some k) (nI j) (zov h M) K :=
  ⟨k, 2, L.map Value.int, v, rfl, by rw [zov_own hl h1 h2, hA]; rfl, Or.inl rfl, nI_pos hj, by rw [nI_clamp hj, List.getElem?_map, hv]; rfl, kk⟩
theorem zM_sa {v : Int32} {L : List Int32} {K : Int32 → Prop} (hl : 50 ≤ h.1.length) (hA : M k = zAh L) (hv : L[j]? = some v) (kk : K v) (hj : j < 2 ^ 31 := by omega) (h1 : 10 ≤ k := by decide) (h2 : k ≤ 52 := by decide) : zSA (some k) (nI j) (zov h M) K :=
  ⟨k, L.map Value.int, v, rfl, by rw [zov_own hl h1 h2, hA]; rfl, nI_pos hj, by rw [nI_clamp hj, List.getElem?_map, hv]; rfl, kk⟩
theorem zM_la {v : Int64} {L : List Int64} {K : Int64 → Prop} (hl : 50 ≤ h.1.length) (hA : M k = zAl L) (hv : L[j]? = some v) (kk : K v) (hj : j < 2 ^ 31 := by omega) (h1 : 10 ≤ k := by decide) (h2 : k ≤ 52 := by decide) : zLA (some k) (nI j) (zov h M) K :=
  ⟨k, L.map Value.long, v, rfl, by rw [zov_own hl h1 h2, hA]; rfl, nI_pos hj, by rw [nI_clamp hj, List.getElem?_map, hv]; rfl, kk⟩
theorem zM_sty {v : Int32} {L : List Int32} {K : zH → Prop} (hl : 50 ≤ h.1.length) (hA : M k = zAy L) (hv : j < L.length) (hL : L.length < 2 ^ 31) (kk : K (zov h (zub M k (zAy (L.set j v))))) (h1 : 10 ≤ k := by decide) (h2 : k ≤ 52 := by decide) : zST 2 (some k) (nI j) (.int v) (zov h M) K := by
  refine ⟨k, L.map Value.int, rfl, by rw [zov_own hl h1 h2, hA]; rfl, nI_pos (by omega), by rw [List.length_map, nI_clamp (by omega)]; exact hv, ?_⟩
  rw [zov_put hl h1 h2, ← List.map_set, nI_clamp (by omega)]
  exact kk
theorem zM_sth {v : Int32} {L : List Int32} {K : zH → Prop} (hl : 50 ≤ h.1.length) (hA : M k = zAh L) (hv : j < L.length) (hL : L.length < 2 ^ 31) (kk : K (zov h (zub M k (zAh (L.set j v))))) (h1 : 10 ≤ k := by decide) (h2 : k ≤ 52 := by decide) : zST 3 (some k) (nI j) (.int v) (zov h M) K := by
  refine ⟨k, L.map Value.int, rfl, by rw [zov_own hl h1 h2, hA]; rfl, nI_pos (by omega), by rw [List.length_map, nI_clamp (by omega)]; exact hv, ?_⟩
  rw [zov_put hl h1 h2, ← List.map_set, nI_clamp (by omega)]
  exact kk
theorem zM_stl {v : Int64} {L : List Int64} {K : zH → Prop} (hl : 50 ≤ h.1.length) (hA : M k = zAl L) (hv : j < L.length) (hL : L.length < 2 ^ 31) (kk : K (zov h (zub M k (zAl (L.set j v))))) (h1 : 10 ≤ k := by decide) (h2 : k ≤ 52 := by decide) : zST 1 (some k) (nI j) (.long v) (zov h M) K := by
  refine ⟨k, L.map Value.long, rfl, by rw [zov_own hl h1 h2, hA]; rfl, nI_pos (by omega), by rw [List.length_map, nI_clamp (by omega)]; exact hv, ?_⟩
  rw [zov_put hl h1 h2, ← List.map_set, nI_clamp (by omega)]
  exact kk
set_option maxRecDepth 100000 in
theorem znar_b : ∀ n, n < 128 → vp_nar .byte (nI n).toInt8.toInt32 = nI n := by decide
theorem znar_h {n : Nat} (hn : n < 32768) : vp_nar .short (nI n).toInt16.toInt32 = nI n := by
  have e : (nI n).toInt16.toInt32 = nI n := by
    apply Int32.toInt_inj.mp
    rw [Int16.toInt_toInt32, Int32.toInt_toInt16, nI_toInt (by omega)]
    exact Int.bmod_eq_of_le (by omega) (by omega)
  rw [vp_nar_short, e, e]
end MARR
/-- the pools: cells (what, head, body), longs (upper, lower) -/
def zPo (M : Nat → zE) (F : Nat → Value) (ce : List (Nat × Nat × Nat)) (lo : List (Nat × Nat)) : Prop :=
  M 10 = zMo F ∧ zRf F ∧ F 27 = .int (nI ce.length) ∧ F 28 = .int (nI lo.length) ∧ ce.length ≤ 1400 ∧ lo.length ≤ 600 ∧
  ∃ W H B U L, M 30 = zAy W ∧ M 31 = zAh H ∧ M 32 = zAh B ∧ M 33 = zAl U ∧ M 34 = zAl L ∧ W.length = 1400 ∧ H.length = 1400 ∧ B.length = 1400 ∧ U.length = 600 ∧ L.length = 600 ∧
  (∀ (i : Nat) (c : Nat × Nat × Nat), ce[i]? = some c → W[i]? = some (nI c.1) ∧ H[i]? = some (nI c.2.1) ∧ B[i]? = some (nI c.2.2)) ∧ (∀ (i : Nat) (c : Nat × Nat), lo[i]? = some c → U[i]? = some (lN c.1) ∧ L[i]? = some (lN c.2))
section POOL
variable {xs : List Value} {d : Nat} {h : zH} {M : Nat → zE} {F : Nat → Value} {Q : zO → zH → Prop} {ce : List (Nat × Nat × Nat)} {lo : List (Nat × Nat)}
/-- another field or array changes: the pools stay -/
theorem zPo_sm {M' : Nat → zE} {F' : Nat → Value} {S T : List Nat} (hp : zPo M F ce lo) (h10 : M' 10 = zMo F') (hM : zSm S M M') (hF : zSm T F F') (hS : ([30, 31, 32, 33, 34].all fun q => !(S.contains q)) = true) (hT : ((27, 27) :: (28, 28) :: zrfs).all (fun q => !(T.contains q.1)) = true) : zPo M' F' ce lo := by
  obtain ⟨a1, a2, a3, a4, a5, a6, W, H, B, U, L, b1, b2, b3, b4, b5, b6⟩ := hp
  have t0 : ∀ q : Nat × Nat, q ∈ ((27, 27) :: (28, 28) :: zrfs) → F' q.1 = F q.1 := fun q hq => hF q.1 (by simpa using List.all_eq_true.mp hT q hq)
  have s0 : ∀ k, k ∈ [30, 31, 32, 33, 34] → M' k = M k := fun k hk => hM k (by simpa using List.all_eq_true.mp hS k hk)
  refine ⟨h10, fun q hq => ?_, ?_, ?_, a5, a6, W, H, B, U, L, ?_, ?_, ?_, ?_, ?_, b6⟩
  · rw [t0 q (List.mem_cons_of_mem _ (List.mem_cons_of_mem _ hq))]; exact a2 q hq
  · rw [t0 (27, 27) (by simp)]; exact a3
  · rw [t0 (28, 28) (by simp)]; exact a4
  · rw [s0 30 (by simp)]; exact b1
  · rw [s0 31 (by simp)]; exact b2
  · rw [s0 32 (by simp)]; exact b3
  · rw [s0 33 (by simp)]; exact b4
  · rw [s0 34 (by simp)]; exact b5
theorem zgetset {α β : Type} {L : List α} {n : Nat} {x : α} (hn : n < L.length) {ce : List β} {c0 : β} {f : β → α} (hl : ce.length = n) (hx : f c0 = x) (hc : ∀ (i : Nat) (c : β), ce[i]? = some c → L[i]? = some (f c)) : ∀ (i : Nat) (c : β), (ce ++ [c0])[i]? = some c → (L.set n x)[i]? = some (f c) := by
  intro i c hi
  by_cases h1 : i < ce.length
  · rw [List.getElem?_append_left h1] at hi
    rw [List.getElem?_set_ne (by omega)]
    exact hc i c hi
  · by_cases h2 : i = ce.length
    · subst h2
      rw [List.getElem?_append_right (Nat.le_refl _), Nat.sub_self] at hi
      obtain rfl : c0 = c := Option.some.inj hi
      subst hl
      rw [List.getElem?_set_self hn, hx]
    · rw [List.getElem?_eq_none (by rw [List.length_append, List.length_singleton]; omega)] at hi
      cases hi
theorem zc187 {k a b : Nat} (hl : 50 ≤ h.1.length) (hp : zPo M F ce lo) (hc : ce.length < 1400) (hk : k < 128) (ha : a < 32768) (hb : b < 32768)
    (q : ∀ M' F', zPo M' F' (ce ++ [(k, a, b)]) lo → zSm [10, 30, 31, 32] M M' → zSm [27] F F' → Q (.inl (some (.int (nI ce.length)))) (zov h M')) : zG xs d (187, 0, lv_args 0 [zo (some 10), .int (nI k), .int (nI a), .int (nI b)], []) (zov h M) Q := by
  obtain ⟨a1, a2, a3, a4, a5, a6, W, H, B, U, L, b1, b2, b3, b4, b5, b6, b7, b8, b9, b10, b11, b12⟩ := hp
  apply zm_187
  refine zM_gr hl a1 (a2 (30, 30) (by decide)) (zM_gi hl a1 a3 ?_)
  rw [znar_b k hk, znar_h ha, znar_h hb]
  refine zM_sty hl b1 (by omega) (by omega) ?_
  refine zM_gr hl (by rw [zub_n (by decide)]; exact a1) (a2 (31, 31) (by decide)) (zM_gi hl (by rw [zub_n (by decide)]; exact a1) a3 ?_)
  refine zM_sth (L := H) hl (by rw [zub_n (by decide)]; exact b2) (by omega) (by omega) ?_
  refine zM_gr hl (by rw [zub_n (by decide), zub_n (by decide)]; exact a1) (a2 (32, 32) (by decide)) (zM_gi hl (by rw [zub_n (by decide), zub_n (by decide)]; exact a1) a3 ?_)
  refine zM_sth (L := B) hl (by rw [zub_n (by decide), zub_n (by decide)]; exact b3) (by omega) (by omega) ?_
  refine zM_gi hl (by rw [zub_n (by decide), zub_n (by decide), zub_n (by decide)]; exact a1) a3 (zM_pf hl (by rw [zub_n (by decide), zub_n (by decide), zub_n (by decide)]; exact a1) ?_)
  have sF : zSm [27] F (zub F 27 (.int (nI ce.length + 1))) := zSm_ub zSm_refl (by decide)
  refine q _ (zub F 27 (.int (nI ce.length + 1))) ⟨zub_s, zRf_sm a2 sF (by decide), ?_, ?_, ?_, a6, W.set ce.length (nI k), H.set ce.length (nI a), B.set ce.length (nI b), U, L, ?_, ?_, ?_, ?_, ?_, ?_, ?_, ?_, b9, b10, ?_, b12⟩ ?_ sF
  · rw [zub_s, nI_1, List.length_append, List.length_singleton]
  · rw [zub_n (by decide)]; exact a4
  · rw [List.length_append, List.length_singleton]; omega
  · rw [zub_n (by decide), zub_n (by decide), zub_n (by decide), zub_s]
  · rw [zub_n (by decide), zub_n (by decide), zub_s]
  · rw [zub_n (by decide), zub_s]
  · rw [zub_n (by decide), zub_n (by decide), zub_n (by decide), zub_n (by decide)]; exact b4
  · rw [zub_n (by decide), zub_n (by decide), zub_n (by decide), zub_n (by decide)]; exact b5
  · rw [List.length_set]; exact b6
  · rw [List.length_set]; exact b7
  · rw [List.length_set]; exact b8
  · intro i c hi
    exact ⟨zgetset (f := fun c : Nat × Nat × Nat => nI c.1) (by omega) rfl rfl (fun i c hi => (b11 i c hi).1) i c hi, zgetset (f := fun c : Nat × Nat × Nat => nI c.2.1) (by omega) rfl rfl (fun i c hi => (b11 i c hi).2.1) i c hi, zgetset (f := fun c : Nat × Nat × Nat => nI c.2.2) (by omega) rfl rfl (fun i c hi => (b11 i c hi).2.2) i c hi⟩
  · exact zSm_ub (zSm_ub (zSm_ub (zSm_ub zSm_refl (by decide)) (by decide)) (by decide)) (by decide)
theorem zc190 {k u v b : Nat} (hl : 50 ≤ h.1.length) (hp : zPo M F ce lo) (hc : ce.length < 1400) (hlo : lo.length < 600) (hk : k < 128) (hb : b < 32768)
    (q : ∀ M' F', zPo M' F' (ce ++ [(k, lo.length, b)]) (lo ++ [(u, v)]) → zSm [10, 30, 31, 32, 33, 34] M M' → zSm [27, 28] F F' → Q (.inl (some (.int (nI ce.length)))) (zov h M')) : zG xs (d + 1) (190, 0, lv_args 0 [zo (some 10), .int (nI k), .long (lN u), .long (lN v), .int (nI b)], []) (zov h M) Q := by
  obtain ⟨a1, a2, a3, a4, a5, a6, W, H, B, U, L, b1, b2, b3, b4, b5, b6, b7, b8, b9, b10, b11, b12⟩ := hp
  apply zm_190
  refine zM_gr hl a1 (a2 (33, 33) (by decide)) (zM_gi hl a1 a4 ?_)
  refine zM_stl hl b4 (by omega) (by omega) ?_
  refine zM_gr hl (by rw [zub_n (by decide)]; exact a1) (a2 (34, 34) (by decide)) (zM_gi hl (by rw [zub_n (by decide)]; exact a1) a4 ?_)
  refine zM_stl (L := L) hl (by rw [zub_n (by decide)]; exact b5) (by omega) (by omega) ?_
  refine zM_gi hl (by rw [zub_n (by decide), zub_n (by decide)]; exact a1) a4 (zM_pf hl (by rw [zub_n (by decide), zub_n (by decide)]; exact a1) ?_)
  have sF : zSm [28] F (zub F 28 (.int (nI lo.length + 1))) := zSm_ub zSm_refl (by decide)
  have sM := zSm_ub (k := 10) (e := zMo (zub F 28 (.int (nI lo.length + 1)))) (zSm_ub (k := 34) (e := zAl (L.set lo.length (lN v))) (zSm_ub (S := [10, 33, 34]) (k := 33) (e := zAl (U.set lo.length (lN u))) (zSm_refl (A := M)) (by decide)) (by decide)) (by decide)
  have hp' : zPo (zub (zub (zub M 33 (zAl (U.set lo.length (lN u)))) 34 (zAl (L.set lo.length (lN v)))) 10 (zMo (zub F 28 (.int (nI lo.length + 1))))) (zub F 28 (.int (nI lo.length + 1))) ce (lo ++ [(u, v)]) := by
    refine ⟨zub_s, zRf_sm a2 sF (by decide), ?_, ?_, a5, ?_, W, H, B, U.set lo.length (lN u), L.set lo.length (lN v), ?_, ?_, ?_, ?_, ?_, b6, b7, b8, ?_, ?_, b11, ?_⟩
    · rw [zub_n (by decide)]; exact a3
    · rw [zub_s, nI_1, List.length_append, List.length_singleton]
    · rw [List.length_append, List.length_singleton]; omega
    · rw [zub_n (by decide), zub_n (by decide), zub_n (by decide)]; exact b1
    · rw [zub_n (by decide), zub_n (by decide), zub_n (by decide)]; exact b2
    · rw [zub_n (by decide), zub_n (by decide), zub_n (by decide)]; exact b3
    · rw [zub_n (by decide), zub_n (by decide), zub_s]
    · rw [zub_n (by decide), zub_s]
    · rw [List.length_set]; exact b9
    · rw [List.length_set]; exact b10
    · intro i c hi
      exact ⟨zgetset (f := fun c : Nat × Nat => lN c.1) (by omega) rfl rfl (fun i c hi => (b12 i c hi).1) i c hi, zgetset (f := fun c : Nat × Nat => lN c.2) (by omega) rfl rfl (fun i c hi => (b12 i c hi).2) i c hi⟩
  refine zM_gi hl zub_s (x := nI (lo.length + 1)) (by rw [zub_s, nI_1]) ?_
  rw [nI_pred]
  refine zM_cv hl zub_s (zc187 hl hp' hc hk (by omega) hb ?_)
  intro M' F' p1 p2 p3
  exact q M' F' p1 (zSm_trans sM p2 (by decide) (by decide)) (zSm_trans sF p3 (by decide) (by decide))
/-- cell i is a number -/
def zNm (ce : List (Nat × Nat × Nat)) (lo : List (Nat × Nat)) (i : Nat) (s : Bool) (n : Nat) : Prop := ∃ j, ce[i]? = some (3, j, s.toNat) ∧ lo[j]? = some (n / 1152921504606846976, n % 1152921504606846976)
theorem zc189 {s : Bool} {n : Nat} (hl : 50 ≤ h.1.length) (hp : zPo M F ce lo) (hc : ce.length < 1400) (hlo : lo.length < 600) (hn : n < 2 ^ 122)
    (q : ∀ M' F' ce' lo', zPo M' F' (ce ++ ce') (lo ++ lo') → ce'.length = 1 → lo'.length = 1 → zNm (ce ++ ce') (lo ++ lo') ce.length (s && n != 0) n → zSm [10, 30, 31, 32, 33, 34] M M' → zSm [27, 28] F F' → Q (.inl (some (.int (nI ce.length)))) (zov h M')) : zG xs (d + 2) (189, 0, lv_args 0 [zo (some 10), .long (lN (n / 1152921504606846976)), .long (lN (n % 1152921504606846976)), .int (zB s)], []) (zov h M) Q := by
  apply zm_189
  have main : ∀ t : Bool, (s && n != 0) = t → zw_189_26 xs (d + 2) Q (nI t.toNat) (lN (n % 1152921504606846976)) (lN (n / 1152921504606846976)) 3 (some 10) (zov h M) := by
    intro t ht
    refine zM_cv hl hp.1 (zc190 (k := 3) (d := d) hl hp hc hlo (by decide) (by cases t <;> decide) ?_)
    intro M' F' p1 p2 p3
    refine q M' F' _ _ p1 rfl rfl ⟨lo.length, ?_, ?_⟩ p2 p3
    · rw [List.getElem?_append_right (Nat.le_refl _), Nat.sub_self, ht]; rfl
    · rw [List.getElem?_append_right (Nat.le_refl _), Nat.sub_self]; rfl
  refine ⟨fun h1 => ?_, fun h1 => ⟨fun h2 => ⟨fun h3 => ?_, fun h3 => ?_⟩, fun h2 => ?_⟩⟩
  · exact main false (by rw [zB_0] at h1; rw [h1]; rfl)
  · rw [zL0 (by omega)] at h2 h3
    exact main false (by rw [show n = 0 by omega]; simp)
  · rw [zL0 (by omega)] at h3
    refine main true ?_
    have : s = true := by cases s; exact absurd rfl h1; rfl
    rw [this]
    have : n ≠ 0 := by omega
    simpa using this
  · rw [zL0 (by omega)] at h2
    refine main true ?_
    have : s = true := by cases s; exact absurd rfl h1; rfl
    rw [this]
    have : n ≠ 0 := by omega
    simpa using this
end POOL
/-! the reference's arithmetic: the sum stands in fields 65 and 66 -/
def zAc (F : Nat → Value) (v : Nat) : Prop := F 65 = .long (lN (v / 1152921504606846976)) ∧ F 66 = .long (lN (v % 1152921504606846976))
theorem zAc_sm {F F' : Nat → Value} {T : List Nat} {v : Nat} (h : zAc F v) (hs : zSm T F F') (ht : (T.contains 65 || T.contains 66) = false) : zAc F' v := by
  simp only [Bool.or_eq_false_iff, List.contains_eq_mem, decide_eq_false_iff_not] at ht
  exact ⟨by rw [hs 65 ht.1]; exact h.1, by rw [hs 66 ht.2]; exact h.2⟩
theorem zcmp_amt {n m : Nat} (hn : n < 2 ^ 122) (hm : m < 2 ^ 122) : (lN (n / 1152921504606846976) = lN (m / 1152921504606846976) ↔ n / 1152921504606846976 = m / 1152921504606846976) ∧ (lN (n / 1152921504606846976) < lN (m / 1152921504606846976) ↔ n / 1152921504606846976 < m / 1152921504606846976) ∧ (lN (n % 1152921504606846976) < lN (m % 1152921504606846976) ↔ n % 1152921504606846976 < m % 1152921504606846976) :=
  ⟨pk_lEQ (by omega) (by omega), pk_lLT (by omega) (by omega), pk_lLT (by omega) (by omega)⟩
section ARITH
variable {xs : List Value} {d : Nat} {h : zH} {M : Nat → zE} {F : Nat → Value} {Q : zO → zH → Prop} {ce : List (Nat × Nat × Nat)} {lo : List (Nat × Nat)} {s t : Bool} {n m i j v : Nat}
theorem zc193 {h : zH} (hn : n < 2 ^ 122) (hm : m < 2 ^ 122) (q : Q (.inl (some (.int (if n < m then -1 else if m < n then 1 else 0)))) h) : zG xs d (193, 0, lv_args 0 [.long (lN (n / 1152921504606846976)), .long (lN (n % 1152921504606846976)), .long (lN (m / 1152921504606846976)), .long (lN (m % 1152921504606846976))], []) h Q := by
  apply zm_193
  obtain ⟨e1, e2, e3⟩ := zcmp_amt hn hm
  obtain ⟨_, _, e4⟩ := zcmp_amt hm hn
  refine ⟨fun z1 => ⟨fun z2 => ?_, fun z2 => ⟨fun z3 => ?_, fun z3 => ?_⟩⟩, fun z1 => ⟨fun z2 => ?_, fun z2 => ?_⟩⟩
  · rw [e1] at z1; rw [e3] at z2; rw [if_pos (by omega)] at q; exact q
  · rw [e1] at z1; rw [e3] at z2; rw [e4] at z3; rw [if_neg (by omega), if_pos (by omega)] at q; exact q
  · rw [e1] at z1; rw [e3] at z2; rw [e4] at z3; rw [if_neg (by omega), if_neg (by omega)] at q; exact q
  · rw [e1] at z1; rw [e2] at z2; rw [if_pos (by omega)] at q; exact q
  · rw [e1] at z1; rw [e2] at z2; rw [if_neg (by omega), if_pos (by omega)] at q; exact q
/-- reading a number's halves -/
theorem zM_nh {K : Int64 → Prop} (hl : 50 ≤ h.1.length) (hp : zPo M F ce lo) (hi : zNm ce lo i s n) (k : K (lN (n / 1152921504606846976))) : zGR (some 10) 12 33 (zov h M) fun x1 => zGR (some 10) 12 31 (zov h M) fun x3 => zSA x3 (nI i) (zov h M) fun x5 => zLA x1 x5 (zov h M) K := by
  obtain ⟨a1, a2, a3, a4, a5, a6, W, H, B, U, L, b1, b2, b3, b4, b5, b6, b7, b8, b9, b10, b11, b12⟩ := hp
  obtain ⟨j, c1, c2⟩ := hi
  have g1 : W[i]? = some (nI 3) ∧ H[i]? = some (nI j) ∧ B[i]? = some (nI s.toNat) := b11 i _ c1
  have g2 : U[j]? = some (lN (n / 1152921504606846976)) ∧ L[j]? = some (lN (n % 1152921504606846976)) := b12 j _ c2
  have hi := (List.getElem?_eq_some_iff.mp c1).1
  have hj := (List.getElem?_eq_some_iff.mp c2).1
  exact zM_gr hl a1 (a2 (33, 33) (by decide)) (zM_gr hl a1 (a2 (31, 31) (by decide)) (zM_sa hl b2 g1.2.1 (zM_la hl b4 g2.1 k)))
theorem zM_nl {K : Int64 → Prop} (hl : 50 ≤ h.1.length) (hp : zPo M F ce lo) (hi : zNm ce lo i s n) (k : K (lN (n % 1152921504606846976))) : zGR (some 10) 12 34 (zov h M) fun x1 => zGR (some 10) 12 31 (zov h M) fun x3 => zSA x3 (nI i) (zov h M) fun x5 => zLA x1 x5 (zov h M) K := by
  obtain ⟨a1, a2, a3, a4, a5, a6, W, H, B, U, L, b1, b2, b3, b4, b5, b6, b7, b8, b9, b10, b11, b12⟩ := hp
  obtain ⟨j, c1, c2⟩ := hi
  have g1 : W[i]? = some (nI 3) ∧ H[i]? = some (nI j) ∧ B[i]? = some (nI s.toNat) := b11 i _ c1
  have g2 : U[j]? = some (lN (n / 1152921504606846976)) ∧ L[j]? = some (lN (n % 1152921504606846976)) := b12 j _ c2
  have hi := (List.getElem?_eq_some_iff.mp c1).1
  have hj := (List.getElem?_eq_some_iff.mp c2).1
  exact zM_gr hl a1 (a2 (34, 34) (by decide)) (zM_gr hl a1 (a2 (31, 31) (by decide)) (zM_sa hl b2 g1.2.1 (zM_la hl b5 g2.2 k)))
theorem zM_body {c : Nat × Nat × Nat} {K : Int32 → Prop} (hl : 50 ≤ h.1.length) (hp : zPo M F ce lo) (hi : ce[i]? = some c) (k : K (nI c.2.2)) : zGR (some 10) 12 32 (zov h M) fun x1 => zSA x1 (nI i) (zov h M) K := by
  obtain ⟨a1, a2, a3, a4, a5, a6, W, H, B, U, L, b1, b2, b3, b4, b5, b6, b7, b8, b9, b10, b11, b12⟩ := hp
  have hi2 := (List.getElem?_eq_some_iff.mp hi).1
  exact zM_gr hl a1 (a2 (32, 32) (by decide)) (zM_sa hl b3 (b11 i c hi).2.2 k)
theorem zM_head {c : Nat × Nat × Nat} {K : Int32 → Prop} (hl : 50 ≤ h.1.length) (hp : zPo M F ce lo) (hi : ce[i]? = some c) (k : K (nI c.2.1)) : zGR (some 10) 12 31 (zov h M) fun x1 => zSA x1 (nI i) (zov h M) K := by
  obtain ⟨a1, a2, a3, a4, a5, a6, W, H, B, U, L, b1, b2, b3, b4, b5, b6, b7, b8, b9, b10, b11, b12⟩ := hp
  have hi2 := (List.getElem?_eq_some_iff.mp hi).1
  exact zM_gr hl a1 (a2 (31, 31) (by decide)) (zM_sa hl b2 (b11 i c hi).2.1 k)
theorem zM_what {c : Nat × Nat × Nat} {K : Int32 → Prop} (hl : 50 ≤ h.1.length) (hp : zPo M F ce lo) (hi : ce[i]? = some c) (k : K (nI c.1)) : zGR (some 10) 12 30 (zov h M) fun x1 => zBA x1 (nI i) (zov h M) K := by
  obtain ⟨a1, a2, a3, a4, a5, a6, W, H, B, U, L, b1, b2, b3, b4, b5, b6, b7, b8, b9, b10, b11, b12⟩ := hp
  have hi2 := (List.getElem?_eq_some_iff.mp hi).1
  exact zM_gr hl a1 (a2 (30, 30) (by decide)) (zM_ba hl b1 (b11 i c hi).1 k)
def zSg (s : Bool) : Int32 := if s then -1 else 1
theorem zSg_eq {s t : Bool} : zSg s = zSg t ↔ s = t := by cases s <;> cases t <;> decide
theorem zc192 (hl : 50 ≤ h.1.length) (hp : zPo M F ce lo) (hi : zNm ce lo i s n) (q : Q (.inl (some (.int (zSg s)))) (zov h M)) : zG xs d (192, 0, lv_args 0 [zo (some 10), .int (nI i)], []) (zov h M) Q := by
  obtain ⟨j, c1, c2⟩ := hi
  refine zm_192 (zM_body hl hp c1 ?_)
  cases s
  · exact ⟨fun z => absurd z (show ¬ nI 0 = 1 by decide), fun _ => q⟩
  · exact ⟨fun _ => q, fun z => absurd rfl z⟩
theorem zc219 (hl : 50 ≤ h.1.length) (hp : zPo M F ce lo) (hi : zNm ce lo i s n) (q : ∀ M' F', zPo M' F' ce lo → zSm [10] M M' → zSm [65, 66] F F' → zAc F' n → Q (.inl none) (zov h M')) : zG xs d (219, 0, lv_args 0 [zo (some 10), .int (nI i)], []) (zov h M) Q := by
  apply zm_219
  refine zM_nh hl hp hi (zM_pf hl hp.1 ?_)
  have f1 : zSm [65, 66] F (zub F 65 (.long (lN (n / 1152921504606846976)))) := zSm_ub zSm_refl (by decide)
  have m1 : zSm [10] M (zub M 10 (zMo (zub F 65 (.long (lN (n / 1152921504606846976)))))) := zSm_ub zSm_refl (by decide)
  have p1 := zPo_sm hp zub_s m1 f1 (by decide) (by decide)
  refine zM_nl hl p1 hi (zM_pf hl zub_s ?_)
  have f2 : zSm [65, 66] F (zub (zub F 65 (.long (lN (n / 1152921504606846976)))) 66 (.long (lN (n % 1152921504606846976)))) := zSm_ub f1 (by decide)
  have m2 := zSm_ub (k := 10) (e := zMo (zub (zub F 65 (.long (lN (n / 1152921504606846976)))) 66 (.long (lN (n % 1152921504606846976))))) m1 (by decide)
  exact q _ _ (zPo_sm hp zub_s m2 f2 (by decide) (by decide)) m2 f2 ⟨by rw [zub_n (by decide), zub_s], zub_s⟩
/-- three changes of fields of the reference's object -/
theorem zM3 {F : Nat → Value} {a b c : Nat} {u v w : Value} : zSm [10] M (zub (zub (zub M 10 (zMo (zub F a u))) 10 (zMo (zub (zub F a u) b v))) 10 (zMo (zub (zub (zub F a u) b v) c w))) := zSm_ub (zSm_ub (zSm_ub zSm_refl (by decide)) (by decide)) (by decide)
theorem zc220 (hl : 50 ≤ h.1.length) (h10 : M 10 = zMo F) (hv : zAc F v) (hv2 : v < 2 ^ 121) (hn : n < 2 ^ 121) (q : ∀ M' F', M' 10 = zMo F' → zSm [10] M M' → zSm [65, 66] F F' → zAc F' (v + n) → Q (.inl none) (zov h M')) : zG xs d (220, 0, lv_args 0 [zo (some 10), .long (lN (n / 1152921504606846976)), .long (lN (n % 1152921504606846976))], []) (zov h M) Q := by
  apply zm_220
  refine zM_gl hl h10 hv.2 (zM_pf hl h10 ?_)
  refine zM_gl hl zub_s (x := lN (v / 1152921504606846976)) (by rw [zub_n (by decide)]; exact hv.1) (zM_gl hl zub_s zub_s (zM_pf hl zub_s ?_))
  rw [lN_add, pf_shr (d := 60) rfl (by omega), lN_add, lN_add]
  refine zM_gl hl zub_s (x := lN (v % 1152921504606846976 + n % 1152921504606846976)) (by rw [zub_n (by decide), zub_s]) (zM_pf hl zub_s ?_)
  rw [show (1152921504606846975 : Int64) = lN (2 ^ 60 - 1) by decide, wb_mask (by omega) (by decide)]
  refine q _ _ zub_s zM3 (zSm_ub (zSm_ub (zSm_ub zSm_refl (by decide)) (by decide)) (by decide)) ⟨?_, ?_⟩
  · rw [zub_n (by decide), zub_s]; congr 2; omega
  · rw [zub_s]; congr 2; omega
theorem zc221 (hl : 50 ≤ h.1.length) (h10 : M 10 = zMo F) (hv : zAc F v) (hv2 : v < 2 ^ 122) (hn : n ≤ v) (q : ∀ M' F', M' 10 = zMo F' → zSm [10] M M' → zSm [65, 66] F F' → zAc F' (v - n) → Q (.inl none) (zov h M')) : zG xs d (221, 0, lv_args 0 [zo (some 10), .long (lN (n / 1152921504606846976)), .long (lN (n % 1152921504606846976))], []) (zov h M) Q := by
  apply zm_221
  refine zM_gl hl h10 hv.2 (zM_pf hl h10 ?_)
  refine zM_gl hl zub_s (x := lN (v / 1152921504606846976)) (by rw [zub_n (by decide)]; exact hv.1) (zM_gl hl zub_s zub_s ?_)
  obtain ⟨q1, q2⟩ := zl_sub (a := v % 1152921504606846976) (b := n % 1152921504606846976) (by omega) (by omega)
  have hlt : lN (v % 1152921504606846976) - lN (n % 1152921504606846976) < 0 ↔ v % 1152921504606846976 < n % 1152921504606846976 := by
    by_cases hc : n % 1152921504606846976 ≤ v % 1152921504606846976
    · rw [lN_sub hc]
      have := pk_lLT (a := v % 1152921504606846976 - n % 1152921504606846976) (b := 0) (by omega) (by decide)
      rw [show (0 : Int64) = lN 0 from rfl, this]; omega
    · have hneg : (lN (v % 1152921504606846976) - lN (n % 1152921504606846976)).toInt = ((v % 1152921504606846976 : Nat) : Int) - (n % 1152921504606846976 : Nat) := by
        rw [Int64.toInt_sub, pf_lI (by omega), pf_lI (by omega)]
        exact Int.bmod_eq_of_le (by omega) (by omega)
      rw [Int64.lt_iff_toInt_lt, hneg, Int64.toInt_zero]; omega
  have fin : ∀ bw : Nat, (v % 1152921504606846976 < n % 1152921504606846976 ↔ bw = 1) → bw ≤ 1 → zw_221_30 xs d Q (some 10) (lN bw) (lN (n / 1152921504606846976)) (lN (v / 1152921504606846976)) (some 10) (zov h (zub M 10 (zMo (zub F 66 (.long (lN (v % 1152921504606846976) - lN (n % 1152921504606846976))))))) := by
    intro bw hb hb1
    refine zM_pf hl zub_s (zM_gl hl zub_s (x := lN (v % 1152921504606846976) - lN (n % 1152921504606846976)) (by rw [zub_n (by decide), zub_s]) (zM_pf hl zub_s ?_))
    rw [q2, lN_add, lN_sub (a := v / 1152921504606846976) (b := n / 1152921504606846976 + bw) (by omega)]
    refine q _ _ zub_s zM3 (zSm_ub (zSm_ub (zSm_ub zSm_refl (by decide)) (by decide)) (by decide)) ⟨?_, ?_⟩
    · rw [zub_n (by decide), zub_s]; congr 2; omega
    · rw [zub_s]; congr 2; omega
  refine ⟨fun z => ?_, fun z => ?_⟩
  · rw [hlt] at z; exact fin 1 (by omega) (by decide)
  · rw [hlt] at z; exact fin 0 (by omega) (by decide)
theorem zc222 {w : Nat} (hl : 50 ≤ h.1.length) (hp : zPo M F ce lo) (hc : ce.length < 1400) (hlo : lo.length < 600) (hv : zAc F v) (hv2 : v < 2 ^ 122) (hw : F 58 = .int (nI w)) (hw2 : 1 ≤ w ∧ w ≤ 120)
    (q0 : 2 ^ w ≤ v → Q (.inl (some (.int (-2)))) (zov h M))
    (q1 : v < 2 ^ w → ∀ M' F' ce' lo', zPo M' F' (ce ++ ce') (lo ++ lo') → ce'.length = 1 → lo'.length = 1 → zNm (ce ++ ce') (lo ++ lo') ce.length (s && v != 0) v → zSm [10, 30, 31, 32, 33, 34] M M' → zSm [27, 28] F F' → Q (.inl (some (.int (nI ce.length)))) (zov h M')) : zG xs (d + 3) (222, 0, lv_args 0 [zo (some 10), .int (zB s)], []) (zov h M) Q := by
  apply zm_222
  have h10 := hp.1
  have yes : v < 2 ^ w → zw_222_63 xs (d + 3) Q (some 10) (zB s) (zov h M) := by
    intro hlt
    refine ⟨fun z => absurd z (by decide), fun _ => zM_gl hl h10 hv.1 (zM_gl hl h10 hv.2 (zM_cv hl h10 (zc189 (d := d) hl hp hc hlo hv2 (q1 hlt))))⟩
  have no : ¬ v < 2 ^ w → zw_222_67 xs (d + 3) Q (some 10) (zB s) (zov h M) := fun hlt => ⟨fun _ => q0 (by omega), fun z => absurd rfl z⟩
  have p60 : (2 : Nat) ^ 60 = 1152921504606846976 := by decide
  have hhalf : (1152921504606846975 : Int64) < lN (v / 1152921504606846976) ↔ 1152921504606846975 < v / 1152921504606846976 := pk_lLT (a := 1152921504606846975) (by decide) (by omega)
  have hpw : 2 ^ w ≤ 2 ^ 120 := Nat.pow_le_pow_right (by decide) hw2.2
  refine zM_gl hl h10 hv.1 ⟨fun z => ?_, fun z => ?_⟩
  · rw [hhalf] at z; exact no (by omega)
  · rw [hhalf] at z
    refine zM_gi hl h10 hw ⟨fun z2 => ?_, fun z2 => ?_⟩
    · have hw60 : 60 < w := (nI_ltI (a := 60) (by decide) (by omega)).mp z2
      refine zM_gl hl h10 hv.1 (zM_gi hl h10 hw ?_)
      rw [show nI w - 60 = nI (w - 60) from pk_sub (a := w) (b := 60) (by omega), pf_shr (zsmod (w - 60) (by omega)) (by omega), zL0 (by have := Nat.div_le_self (v / 1152921504606846976) (2 ^ (w - 60)); omega)]
      have hp2 : 2 ^ w = 2 ^ (w - 60) * 1152921504606846976 := by rw [← p60, ← Nat.pow_add]; congr 1; omega
      have hdiv : v / 1152921504606846976 / 2 ^ (w - 60) = 0 ↔ v < 2 ^ w := by
        rw [Nat.div_eq_zero_iff, hp2]
        have hpos : 0 < 2 ^ (w - 60) := Nat.two_pow_pos _
        rw [Nat.div_lt_iff_lt_mul (by decide)]
        omega
      exact ⟨fun z3 => yes (hdiv.mp z3), fun z3 => no (fun z4 => z3 (hdiv.mpr z4))⟩
    · have hw60 : w ≤ 60 := by
        have := mt (nI_ltI (a := 60) (b := w) (by decide) (by omega)).mpr z2
        omega
      have hpl : 2 ^ w ≤ 2 ^ 60 := Nat.pow_le_pow_right (by decide) hw60
      refine zM_gl hl h10 hv.1 ⟨fun z3 => ?_, fun z3 => ?_⟩
      · rw [zL0 (by omega)] at z3
        refine zM_gl hl h10 hv.2 (zM_gi hl h10 hw ?_)
        rw [pf_shr (zsmod w (by omega)) (by omega), zL0 (by have := Nat.div_le_self (v % 1152921504606846976) (2 ^ w); omega)]
        have hdiv : v % 1152921504606846976 / 2 ^ w = 0 ↔ v < 2 ^ w := by
          rw [Nat.div_eq_zero_iff]
          have hpos : 0 < 2 ^ w := Nat.two_pow_pos _
          omega
        exact ⟨fun z4 => yes (hdiv.mp z4), fun z4 => no (fun z5 => z4 (hdiv.mpr z5))⟩
      · rw [zL0 (by omega)] at z3
        exact no (by omega)
end ARITH
section ARITH2
variable {xs : List Value} {d : Nat} {h : zH} {M : Nat → zE} {F : Nat → Value} {Q : zO → zH → Prop} {ce : List (Nat × Nat × Nat)} {lo : List (Nat × Nat)} {s t : Bool} {n m i j v w : Nat}
theorem zKI_v {K : Int32 → zH → Prop} {E : Nat → zH → Prop} {x : Int32} {h : zH} (k : K x h) : zKI K E (.inl (some (.int x))) h := k
theorem zSg_mul {t g : Bool} : zSg t * (if g then -1 else 1) = zSg (t != g) := by cases t <;> cases g <;> decide
theorem zSg_neg {s : Bool} : zSg s < 0 ↔ s = true := by cases s <;> decide
/-- a sum (g: a difference); what does not fit in w bits: -2 -/
theorem zc218 {g : Bool} (hl : 50 ≤ h.1.length) (hp : zPo M F ce lo) (hc : ce.length < 1400) (hlo : lo.length < 600) (hw : F 58 = .int (nI w)) (hw2 : 1 ≤ w ∧ w ≤ 120) (hi : zNm ce lo i s n) (hj : zNm ce lo j t m) (hn : n < 2 ^ 120) (hm : m < 2 ^ 120)
    (q0 : 2 ^ w ≤ (zsum s n (t != g) m).2 → ∀ M' F', zPo M' F' ce lo → zSm [10] M M' → zSm [65, 66] F F' → Q (.inl (some (.int (-2)))) (zov h M'))
    (q1 : (zsum s n (t != g) m).2 < 2 ^ w → ∀ M' F' ce' lo', zPo M' F' (ce ++ ce') (lo ++ lo') → ce'.length = 1 → lo'.length = 1 → zNm (ce ++ ce') (lo ++ lo') ce.length (zsum s n (t != g) m).1 (zsum s n (t != g) m).2 → zSm [10, 30, 31, 32, 33, 34] M M' → zSm [27, 28, 65, 66] F F' → Q (.inl (some (.int (nI ce.length)))) (zov h M')) : zG xs (d + 4) (218, 0, lv_args 0 [zo (some 10), .int (nI i), .int (nI j), .int (if g then -1 else 1)], []) (zov h M) Q := by
  apply zm_218
  refine zM_nh hl hp hi (zM_nl hl hp hi (zM_nh hl hp hj (zM_nl hl hp hj ⟨d + 3, rfl, zc193 (by omega) (by omega) ?_⟩)))
  -- the amount and the sign that come out, once it is known which is the less
  have fin : ∀ less : Bool, (less = true ↔ n < m) → ∀ M1 F1, zPo M1 F1 ce lo → zSm [10] M M1 → zSm [65, 66] F F1 → zAc F1 (zsum s n (t != g) m).2 → zw_218_161 xs (d + 4) Q (some 10) (nI i) (nI j) (if g then -1 else 1) (zB less) (zov h M1) := by
    intro less hless M1 F1 p1 p2 p3 p4
    have made : ∀ u : Bool, (u && (zsum s n (t != g) m).2 != 0) = (zsum s n (t != g) m).1 → zw_218_182 xs (d + 4) Q (zSg u) (some 10) (zov h M1) := by
      intro u hu
      have go : ∀ u', u' = u → zw_218_190 xs (d + 4) Q (zB u') (some 10) (zov h M1) := by
        intro u' hu'
        subst hu'
        have hb : (zsum s n (t != g) m).2 < 2 ^ 122 := by unfold zsum; split <;> (try split) <;> dsimp only <;> omega
        refine zM_cv hl p1.1 (zc222 (s := u') (d := d) hl p1 hc hlo p4 hb (by rw [p3 58 (by decide)]; exact hw) hw2 (fun z => q0 z M1 F1 p1 p2 p3) ?_)
        intro z M' F' ce' lo' r1 r2 r3 r4 r5 r6
        rw [hu] at r4
        exact q1 z M' F' ce' lo' r1 r2 r3 r4 (zSm_trans p2 r5 (by decide) (by decide)) (zSm_trans p3 r6 (by decide) (by decide))
      refine ⟨fun z => go true ?_, fun z => go false ?_⟩
      · exact (zSg_neg.mp z).symm
      · cases u
        · rfl
        · exact absurd (by decide) z
    refine ⟨fun z => ?_, fun z => ?_⟩
    · rw [zB_0] at z
      refine zM_cv hl p1.1 (zc192 hl p1 hi (made s ?_))
      have hnm : ¬ n < m := fun q => by rw [hless.mpr q] at z; cases z
      unfold zsum
      by_cases e : s = (t != g)
      · rw [if_pos e]
      · rw [if_neg e, if_neg hnm]
    · have z1 : less = true := by cases less; exact absurd rfl z; rfl
      have hnm := hless.mp z1
      refine zM_cv hl p1.1 (zc192 hl p1 hj (zKI_v ?_))
      rw [zSg_mul]
      refine made _ ?_
      unfold zsum
      by_cases e : s = (t != g)
      · rw [if_pos e, e]
      · rw [if_neg e, if_pos hnm]
  have go : ∀ less : Bool, (less = true ↔ n < m) → zw_218_55 xs (d + 4) Q (some 10) (nI i) (nI j) (if g then -1 else 1) (zB less) (zov h M) := by
    intro less hless
    -- big: the greater, sml: the other
    have step : ∀ big sml : Nat, ∀ sb ss : Bool, ∀ nb ns : Nat, zNm ce lo big sb nb → zNm ce lo sml ss ns → ns ≤ nb → nb < 2 ^ 120 → (nb + ns = n + m) → (nb - ns = if n < m then m - n else n - m) → zw_218_79 xs (d + 4) Q (some 10) (nI i) (nI j) (if g then -1 else 1) (zB less) (nI big) (nI sml) (zov h M) := by
      intro big sml sb ss nb ns w1 w2 w3 w4 w5 w6
      refine zM_cv hl hp.1 (zc219 hl hp w1 ?_)
      intro M1 F1 p1 p2 p3 p4
      refine zM_cv hl p1.1 (zc192 hl p1 hi (zM_cv hl p1.1 (zc192 hl p1 hj (zKI_v ?_))))
      rw [zSg_mul]
      refine ⟨fun z => ?_, fun z => ?_⟩
      · rw [zSg_eq] at z
        refine zM_nh hl p1 w2 (zM_nl hl p1 w2 (zM_cv hl p1.1 (zc220 hl p1.1 p4 (by omega) (by omega) ?_)))
        intro M2 F2 r1 r2 r3 r4
        refine fin less hless M2 F2 (zPo_sm p1 r1 r2 r3 (by decide) (by decide)) (zSm_t p2 r2) (zSm_t p3 r3) ?_
        rw [show (zsum s n (t != g) m).2 = nb + ns by unfold zsum; rw [if_pos z]; dsimp only; omega]
        exact r4
      · rw [zSg_eq] at z
        refine zM_nh hl p1 w2 (zM_nl hl p1 w2 (zM_cv hl p1.1 (zc221 hl p1.1 p4 (by omega) w3 ?_)))
        intro M2 F2 r1 r2 r3 r4
        refine fin less hless M2 F2 (zPo_sm p1 r1 r2 r3 (by decide) (by decide)) (zSm_t p2 r2) (zSm_t p3 r3) ?_
        rw [show (zsum s n (t != g) m).2 = nb - ns by unfold zsum; rw [if_neg z, w6]; split <;> rfl]
        exact r4
    refine ⟨fun z => ?_, fun z => ?_⟩
    · have z0 := z
      rw [zB_0] at z
      have hnm : ¬ n < m := fun q => by rw [hless.mpr q] at z; cases z
      refine ⟨fun _ => step i j s t n m hi hj (by omega) hn rfl (by rw [if_neg hnm]), fun z2 => absurd z0 z2⟩
    · have z1 : less = true := by cases less; exact absurd rfl z; rfl
      have hnm := hless.mp z1
      exact ⟨fun z2 => absurd z2 z, fun _ => step j i t s m n hj hi (by omega) hm (by omega) (by rw [if_pos hnm])⟩
  by_cases hnm : n < m
  · rw [if_pos hnm]
    exact ⟨fun _ => go true (by simpa using hnm), fun z => absurd (by decide) z⟩
  · rw [if_neg hnm]
    refine ⟨fun z => absurd z ?_, fun _ => go false (by simpa using hnm)⟩
    split <;> decide
theorem zbit_at {n k : Nat} : n / 2 ^ k % 2 = if k < 60 then n % 1152921504606846976 / 2 ^ k % 2 else n / 1152921504606846976 / 2 ^ (k - 60) % 2 := by
  split
  · rename_i hk
    have p1 : (1152921504606846976 : Nat) = 2 ^ (60 - k) * 2 ^ k := by rw [← Nat.pow_add, show 60 - k + k = 60 by omega]
    have e9 : n / 2 ^ k = n % 1152921504606846976 / 2 ^ k + n / 1152921504606846976 * 2 ^ (60 - k) := by
      have p2 : n = n % 1152921504606846976 + n / 1152921504606846976 * 2 ^ (60 - k) * 2 ^ k := by rw [Nat.mul_assoc, ← p1]; omega
      rw [p2, Nat.add_mul_div_right _ _ (Nat.two_pow_pos k)]
      congr 1
      · rw [← p2]
      · rw [← p2]
    rw [e9, show 60 - k = (59 - k) + 1 by omega, Nat.pow_succ, ← Nat.mul_assoc, Nat.add_mul_mod_self_right]
  · rename_i hk
    rw [show (2 : Nat) ^ k = 1152921504606846976 * 2 ^ (k - 60) by rw [show (1152921504606846976 : Nat) = 2 ^ 60 by decide, ← Nat.pow_add]; congr 1; omega, ← Nat.div_div_eq_div_mul]
theorem zc224 {k : Nat} (hl : 50 ≤ h.1.length) (hp : zPo M F ce lo) (hi : zNm ce lo i s n) (hn : n < 2 ^ 120) (hk : k < 120) (q : Q (.inl (some (.int (zB (n / 2 ^ k % 2 == 1))))) (zov h M)) : zG xs d (224, 0, lv_args 0 [zo (some 10), .int (nI i), .int (nI k)], []) (zov h M) Q := by
  apply zm_224
  have fin : ∀ bt, bt = n / 2 ^ k % 2 → ∀ x : Int64, x &&& 1 = lN bt → zw_224_38 xs d Q x (zov h M) := by
    intro bt hb x hx
    have hb2 : bt < 2 := by rw [hb]; exact Nat.mod_lt _ (by decide)
    rw [← hb] at q
    have h01 : bt = 0 ∨ bt = 1 := by omega
    refine ⟨fun z => ?_, fun z => ?_⟩
    · rw [hx] at z
      have : bt = 1 := (pk_lEQ (b := 1) (by omega) (by decide)).mp z
      subst this
      exact ⟨Or.inr rfl, q⟩
    · rw [hx] at z
      have : bt ≠ 1 := fun e => z (by rw [e]; rfl)
      have : bt = 0 := by omega
      subst this
      exact ⟨Or.inl rfl, q⟩
  have hz := zbit_at (n := n) (k := k)
  refine ⟨fun z => ?_, fun z => ?_⟩
  · have h60 : k < 60 := (nI_ltI (b := 60) (by omega) (by decide)).mp z
    rw [if_pos h60] at hz
    exact zM_nl hl hp hi (fin _ rfl _ (by rw [zshr_bit (zsmod k (by omega)) (by omega), hz]))
  · have h60 : ¬ k < 60 := fun q => z ((nI_ltI (b := 60) (by omega) (by decide)).mpr q)
    rw [if_neg h60] at hz
    exact zM_nh hl hp hi (fin _ rfl _ (by rw [show nI k - 60 = nI (k - 60) from pk_sub (a := k) (b := 60) (by omega), zshr_bit (zsmod (k - 60) (by omega)) (by omega), hz]))
theorem zc223 (hl : 50 ≤ h.1.length) (hp : zPo M F ce lo) (hc : ce.length < 1400) (hlo : lo.length < 600) (hw : F 58 = .int (nI w)) (hw2 : 1 ≤ w ∧ w ≤ 120) (hi : zNm ce lo i s n) (hj : zNm ce lo j t m) (hn : n < 2 ^ 120) (hm : m < 2 ^ 120)
    (q0 : 2 ^ w ≤ n * m → ∀ M' F', zPo M' F' ce lo → zSm [10] M M' → zSm [65, 66] F F' → Q (.inl (some (.int (-2)))) (zov h M'))
    (q1 : n * m < 2 ^ w → ∀ M' F' ce' lo', zPo M' F' (ce ++ ce') (lo ++ lo') → ce'.length = 1 → lo'.length = 1 → zNm (ce ++ ce') (lo ++ lo') ce.length ((s != t) && n * m != 0) (n * m) → zSm [10, 30, 31, 32, 33, 34] M M' → zSm [27, 28, 65, 66] F F' → Q (.inl (some (.int (nI ce.length)))) (zov h M')) : zG xs (d + 4) (223, 0, lv_args 0 [zo (some 10), .int (nI i), .int (nI j)], []) (zov h M) Q := by
  have hpw : 2 ^ w ≤ 2 ^ 120 := Nat.pow_le_pow_right (by decide) hw2.2
  -- the end
  have fin : ∀ J v, (v = n * m ∨ (2 ^ 120 ≤ v ∧ v ≤ n * m)) → v < 2 ^ 122 → ∀ M1 F1, zPo M1 F1 ce lo → zSm [10] M M1 → zSm [65, 66] F F1 → zAc F1 v → zw_223_81 xs (d + 4) Q J (some 10) (nI i) (nI j) (zov h M1) := by
    intro J v hv hv2 M1 F1 p1 p2 p3 p4
    have go : ∀ u : Bool, (s != t) = u → zw_223_100 xs (d + 4) Q J (zB u) (some 10) (zov h M1) := by
      intro u hu
      refine zM_cv hl p1.1 (zc222 (s := u) (d := d) hl p1 hc hlo p4 hv2 (by rw [p3 58 (by decide)]; exact hw) hw2 (fun z => q0 (by omega) M1 F1 p1 p2 p3) ?_)
      intro z M' F' ce' lo' r1 r2 r3 r4 r5 r6
      have hv : v = n * m := by omega
      subst hv
      rw [← hu] at r4
      exact q1 z M' F' ce' lo' r1 r2 r3 r4 (zSm_trans p2 r5 (by decide) (by decide)) (zSm_trans p3 r6 (by decide) (by decide))
    refine zM_cv hl p1.1 (zc192 hl p1 hi (zM_cv hl p1.1 (zc192 hl p1 hj ⟨fun z => ?_, fun z => ?_⟩)))
    · rw [zSg_eq] at z; exact go false (by rw [z]; simp)
    · rw [zSg_eq] at z; exact go true (by simpa using z)
  refine zm_223 (fun k l0 l1 l2 l3 h1 => ∃ M1 F1 v, k ≤ 120 ∧ l0 = some 10 ∧ l1 = nI i ∧ l2 = nI j ∧ l3 = nI k - 1 ∧ h1 = zov h M1 ∧ zPo M1 F1 ce lo ∧ zSm [10] M M1 ∧ zSm [65, 66] F F1 ∧ zAc F1 v ∧ v = n * (m / 2 ^ k) ∧ v < 2 ^ 122) ?_ ?_
  · rintro k l0 l1 l2 l3 h1 ⟨M1, F1, v, hk, rfl, rfl, rfl, rfl, rfl, p1, p2, p3, p4, hv, hv2⟩
    have hle : v ≤ n * m := by rw [hv]; exact Nat.mul_le_mul_left _ (Nat.div_le_self _ _)
    cases k with
    | zero =>
      refine ⟨fun _ => fin _ v (Or.inl (by rw [hv, Nat.pow_zero, Nat.div_one])) hv2 M1 F1 p1 p2 p3 p4, fun z => absurd (by decide) z⟩
    | succ k =>
      rw [nI_pred]
      refine ⟨fun z => absurd z (nI_pos (by omega)), fun _ => ?_⟩
      have hhalf : (1152921504606846975 : Int64) < lN (v / 1152921504606846976) ↔ 1152921504606846975 < v / 1152921504606846976 := pk_lLT (a := 1152921504606846975) (by decide) (by omega)
      refine zM_gl hl p1.1 p4.1 ⟨fun z => ?_, fun z => ?_⟩
      · rw [hhalf] at z
        exact fin _ v (Or.inr ⟨by omega, hle⟩) hv2 M1 F1 p1 p2 p3 p4
      · rw [hhalf] at z
        have hm1 : m / 2 ^ k = 2 * (m / 2 ^ (k + 1)) + m / 2 ^ k % 2 := by
          rw [Nat.pow_succ, ← Nat.div_div_eq_div_mul]; omega
        refine zM_gl hl p1.1 p4.1 (zM_gl hl p1.1 p4.2 (zM_cv hl p1.1 (zc220 hl p1.1 p4 (by omega) (by omega) ?_)))
        intro M2 F2 r1 r2 r3 r4
        have P2 := zPo_sm p1 r1 r2 r3 (by decide) (by decide)
        refine zM_cv hl r1 (zc224 (k := k) hl P2 hj hm (by omega) ⟨fun z2 => ?_, fun z2 => ?_⟩)
        · rw [zB_0] at z2
          intro x hx
          have hb : m / 2 ^ k % 2 = 0 := by
            have : m / 2 ^ k % 2 < 2 := Nat.mod_lt _ (by decide)
            have : m / 2 ^ k % 2 ≠ 1 := by simpa using z2
            omega
          refine ⟨k, by omega, M2, F2, v + v, by omega, rfl, rfl, rfl, by rw [hx, Int32.sub_eq_add_neg], rfl, P2, zSm_t p2 r2, zSm_t p3 r3, r4, ?_, by omega⟩
          rw [hm1, hb, Nat.add_zero, hv, Nat.mul_left_comm]; omega
        · have z3 : (m / 2 ^ k % 2 == 1) = true := by cases hz : (m / 2 ^ k % 2 == 1); rw [hz] at z2; exact absurd rfl z2; rfl
          have hb : m / 2 ^ k % 2 = 1 := by simpa using z3
          refine zM_nh hl P2 hi (zM_nl hl P2 hi (zM_cv hl r1 (zc220 hl r1 r4 (by omega) (by omega) ?_)))
          intro M3 F3 u1 u2 u3 u4
          intro x hx
          refine ⟨k, by omega, M3, F3, v + v + n, by omega, rfl, rfl, rfl, by rw [hx, Int32.sub_eq_add_neg], rfl, zPo_sm P2 u1 u2 u3 (by decide) (by decide), zSm_t (zSm_t p2 r2) u2, zSm_t (zSm_t p3 r3) u3, u4, ?_, by omega⟩
          rw [hm1, hb, hv, Nat.mul_add, Nat.mul_one, Nat.mul_left_comm]; omega
  · refine zM_pf hl hp.1 (zM_pf hl zub_s ?_)
    have sF : zSm [65, 66] F (zub (zub F 65 (.long 0)) 66 (.long 0)) := zSm_ub (zSm_ub zSm_refl (by decide)) (by decide)
    have sM : zSm [10] M (zub (zub M 10 (zMo (zub F 65 (.long 0)))) 10 (zMo (zub (zub F 65 (.long 0)) 66 (.long 0)))) := zSm_ub (zSm_ub zSm_refl (by decide)) (by decide)
    refine ⟨120, _, _, 0, by decide, rfl, rfl, rfl, rfl, rfl, zPo_sm hp zub_s sM sF (by decide) (by decide), sM, sF, ⟨by rw [zub_n (by decide), zub_s]; rfl, by rw [zub_s]; rfl⟩, ?_, by decide⟩
    rw [Nat.div_eq_of_lt hm, Nat.mul_zero]
end ARITH2
section QUOT
variable {xs : List Value} {d : Nat} {h : zH} {M : Nat → zE} {F : Nat → Value} {Q : zO → zH → Prop} {ce : List (Nat × Nat × Nat)} {lo : List (Nat × Nat)} {s t : Bool} {n m i j v w : Nat}
theorem zNm_app {ce' : List (Nat × Nat × Nat)} {lo' : List (Nat × Nat)} (h : zNm ce lo i s n) : zNm (ce ++ ce') (lo ++ lo') i s n := by
  obtain ⟨j, c1, c2⟩ := h
  refine ⟨j, ?_, ?_⟩
  · rw [List.getElem?_append_left (List.getElem?_eq_some_iff.mp c1).1]; exact c1
  · rw [List.getElem?_append_left (List.getElem?_eq_some_iff.mp c2).1]; exact c2
/-- one more bit of the quotient -/
theorem zqbit {q k : Nat} (hk : k < 120) (hq : q * 2 ^ (k + 1) < 2 ^ 120) :
    (¬ k < 60 → lN (q * 2 ^ (k + 1) / 1152921504606846976) ||| ((1 : Int64) <<< ((nI (k - 60)).toInt64 &&& 63)) = lN ((2 * q + 1) * 2 ^ k / 1152921504606846976) ∧ q * 2 ^ (k + 1) % 1152921504606846976 = (2 * q + 1) * 2 ^ k % 1152921504606846976) ∧
    (k < 60 → lN (q * 2 ^ (k + 1) % 1152921504606846976) ||| ((1 : Int64) <<< ((nI k).toInt64 &&& 63)) = lN ((2 * q + 1) * 2 ^ k % 1152921504606846976) ∧ q * 2 ^ (k + 1) / 1152921504606846976 = (2 * q + 1) * 2 ^ k / 1152921504606846976) := by
  have one : ∀ e, e < 64 → (1 : Int64) <<< ((nI e).toInt64 &&& 63) = lN (2 ^ e) := fun e he => (wb_shl 1 he).trans (by rw [Nat.one_mul])
  have e2 : (2 * q + 1) * 2 ^ k = q * 2 ^ (k + 1) + 2 ^ k := by rw [Nat.add_mul, Nat.one_mul, Nat.pow_succ, Nat.mul_comm 2 q, Nat.mul_assoc, Nat.mul_comm 2]
  refine ⟨fun h60 => ?_, fun h60 => ?_⟩
  · rw [one _ (by omega)]
    have pk : 2 ^ (k + 1) = 2 ^ (k - 60 + 1) * 1152921504606846976 := by rw [show (1152921504606846976 : Nat) = 2 ^ 60 by decide, ← Nat.pow_add]; congr 1; omega
    have pk0 : 2 ^ k = 2 ^ (k - 60) * 1152921504606846976 := by rw [show (1152921504606846976 : Nat) = 2 ^ 60 by decide, ← Nat.pow_add]; congr 1; omega
    have d1 : q * 2 ^ (k + 1) / 1152921504606846976 = q * 2 ^ (k - 60 + 1) := by rw [pk, ← Nat.mul_assoc, Nat.mul_div_cancel _ (by decide)]
    have hsm : q * 2 ^ (k - 60 + 1) < 2 ^ 60 := by rw [pk, ← Nat.mul_assoc] at hq; omega
    have hpw : 2 ^ (k - 60) ≤ 2 ^ 59 := Nat.pow_le_pow_right (by decide) (by omega)
    refine ⟨?_, ?_⟩
    · rw [d1, g_or (k := k - 60 + 1) (p := 2 ^ (k - 60 + 1)) rfl (by rw [Nat.pow_succ]; have := Nat.two_pow_pos (k - 60); omega) (by omega)]
      congr 1
      rw [e2, pk, pk0, ← Nat.mul_assoc, ← Nat.add_mul, Nat.mul_div_cancel _ (by decide)]
    · rw [e2, pk, pk0, ← Nat.mul_assoc, ← Nat.add_mul, Nat.mul_mod_left, Nat.mul_mod_left]
  · rw [one _ (by omega)]
    have pk : (1152921504606846976 : Nat) = 2 ^ (59 - k) * 2 ^ (k + 1) := by rw [← Nat.pow_add, show 59 - k + (k + 1) = 60 by omega]
    have hpk : 2 ^ k < 2 ^ (k + 1) := by rw [Nat.pow_succ]; have := Nat.two_pow_pos k; omega
    have hpk2 : 2 ^ (k + 1) ≤ 2 ^ 60 := Nat.pow_le_pow_right (by decide) (by omega)
    have m1 : q * 2 ^ (k + 1) % 1152921504606846976 = q % 2 ^ (59 - k) * 2 ^ (k + 1) := by rw [pk, Nat.mul_mod_mul_right]
    have hsm : q % 2 ^ (59 - k) * 2 ^ (k + 1) + 2 ^ (k + 1) ≤ 1152921504606846976 := by
      have : q % 2 ^ (59 - k) + 1 ≤ 2 ^ (59 - k) := Nat.mod_lt _ (Nat.two_pow_pos _)
      have := Nat.mul_le_mul_right (2 ^ (k + 1)) this
      rw [Nat.add_mul, Nat.one_mul, ← pk] at this
      exact this
    have e3 : (2 * q + 1) * 2 ^ k = q % 2 ^ (59 - k) * 2 ^ (k + 1) + 2 ^ k + 1152921504606846976 * (q * 2 ^ (k + 1) / 1152921504606846976) := by
      have := Nat.mod_add_div (q * 2 ^ (k + 1)) 1152921504606846976
      rw [m1] at this
      rw [e2]; omega
    have hlt : q % 2 ^ (59 - k) * 2 ^ (k + 1) + 2 ^ k < 1152921504606846976 := by omega
    refine ⟨?_, ?_⟩
    · rw [m1, g_or (k := k + 1) (p := 2 ^ (k + 1)) rfl hpk (Nat.lt_trans hlt (by decide))]
      congr 1
      rw [e3, Nat.add_mul_mod_self_left, Nat.mod_eq_of_lt hlt]
    · rw [e3, Nat.add_mul_div_left _ _ (by decide), Nat.div_eq_of_lt hlt, Nat.zero_add]
theorem zc225z (hl : 50 ≤ h.1.length) (hp : zPo M F ce lo) (hc : ce.length < 1400) (hj : zNm ce lo j t 0)
    (q : ∀ M' F', zPo M' F' (ce ++ [(6, 0, 0)]) lo → zSm [10, 30, 31, 32] M M' → zSm [27] F F' → Q (.inl (some (.int (nI ce.length)))) (zov h M')) : zG xs (d + 1) (225, 0, lv_args 0 [zo (some 10), .int (nI i), .int (nI j)], []) (zov h M) Q := by
  refine zm_225 (fun _ _ _ _ _ _ _ _ _ _ => False) (fun _ _ _ _ _ _ _ _ _ _ z => z.elim) ?_
  refine zM_nh hl hp hj (zM_nl hl hp hj ⟨fun _ => ⟨fun _ => ?_, fun z => absurd rfl z⟩, fun z => absurd rfl z⟩)
  exact zM_cv hl hp.1 (zc187 (k := 6) (a := 0) (b := 0) hl hp hc (by decide) (by decide) (by decide) q)
theorem zc225 (hl : 50 ≤ h.1.length) (hp : zPo M F ce lo) (hc : ce.length + 4 ≤ 1400) (hlo : lo.length + 2 ≤ 600) (hw : F 58 = .int (nI w)) (hw2 : 1 ≤ w ∧ w ≤ 120) (hi : zNm ce lo i s n) (hj : zNm ce lo j t m) (hn : n < 2 ^ 120) (hm : m < 2 ^ 120) (hm0 : 0 < m)
    (q0 : 2 ^ w ≤ (zquo s n t m).1.2 ∨ 2 ^ w ≤ (zquo s n t m).2 → ∀ M' F' ce' lo', zPo M' F' (ce ++ ce') (lo ++ lo') → ce'.length ≤ 1 → lo'.length ≤ 1 → zSm [10, 30, 31, 32, 33, 34] M M' → zSm [27, 28, 65, 66] F F' → Q (.inl (some (.int (-2)))) (zov h M'))
    (q1 : (zquo s n t m).1.2 < 2 ^ w → (zquo s n t m).2 < 2 ^ w → ∀ M' F' ce' lo', zPo M' F' (ce ++ ce') (lo ++ lo') → ce'.length = 4 → lo'.length = 2 → zNm (ce ++ ce') (lo ++ lo') ce.length false (zquo s n t m).2 → zNm (ce ++ ce') (lo ++ lo') (ce.length + 1) (zquo s n t m).1.1 (zquo s n t m).1.2 → (ce ++ ce')[ce.length + 2]? = some (5, ce.length + 1, ce.length) → (ce ++ ce')[ce.length + 3]? = some (7, ce.length + 2, 0) → zSm [10, 30, 31, 32, 33, 34] M M' → zSm [27, 28, 65, 66] F F' → Q (.inl (some (.int (nI (ce.length + 3))))) (zov h M')) : zG xs (d + 4) (225, 0, lv_args 0 [zo (some 10), .int (nI i), .int (nI j)], []) (zov h M) Q := by
  have hqn : n / m ≤ n := Nat.div_le_self _ _
  have hrm : n % m < m := Nat.mod_lt _ hm0
  have hsn : s = true → n ≠ 0 ∨ True := fun _ => Or.inr trivial
  -- from made r on
  have fin : ∀ tu : Bool, ∀ J, (tu = true ↔ s = true ∧ n % m ≠ 0) → ∀ M1 F1, zPo M1 F1 ce lo → zSm [10] M M1 → zSm [65, 66] F F1 → zAc F1 (zquo s n t m).2 → zw_225_260 xs (d + 4) Q J (some 10) (nI i) (nI j) (lN (n / m / 1152921504606846976)) (lN (n / m % 1152921504606846976)) (zB tu) (zov h M1) := by
    intro tu J htu M1 F1 p1 p2 p3 p4
    have hr2 : (zquo s n t m).2 < 2 ^ 120 := by unfold zquo; split <;> dsimp only <;> omega
    have hq2 : (zquo s n t m).1.2 = n / m + tu.toNat := by
      unfold zquo
      by_cases c : s = true ∧ n % m ≠ 0
      · rw [if_pos c, htu.mpr c]; rfl
      · have : tu = false := by cases tu; rfl; exact absurd (htu.mp rfl) c
        rw [if_neg c, this]; rfl
    have htn : tu.toNat ≤ 1 := by cases tu <;> decide
    -- made q, then the cells
    have last : ∀ rr : Int32, ∀ M2 F2 ce2 lo2, zPo M2 F2 (ce ++ ce2) (lo ++ lo2) → ce2.length ≤ 1 → lo2.length ≤ 1 → zSm [10, 30, 31, 32, 33, 34] M M2 → zSm [27, 28, 65, 66] F F2 → zAc F2 (zquo s n t m).1.2 → ((rr = -2 ∧ ce2.length = 0 ∧ lo2.length = 0 ∧ 2 ^ w ≤ (zquo s n t m).2) ∨ (rr = nI ce.length ∧ ce2.length = 1 ∧ lo2.length = 1 ∧ (zquo s n t m).2 < 2 ^ w ∧ zNm (ce ++ ce2) (lo ++ lo2) ce.length false (zquo s n t m).2)) → zw_225_290 xs (d + 4) Q J (some 10) (nI i) (nI j) rr (zov h M2) := by
      intro rr M2 F2 ce2 lo2 y1 y2 y3 y4 y5 y6 y7
      have hce : (ce ++ ce2).length = ce.length + ce2.length := List.length_append
      have hlo2 : (lo ++ lo2).length = lo.length + lo2.length := List.length_append
      have go : ∀ u : Bool, (s != t) = u → zw_225_309 xs (d + 4) Q J (some 10) rr (zB u) (some 10) (zov h M2) := by
        intro u hu
        have hsq : (u && (zquo s n t m).1.2 != 0) = (zquo s n t m).1.1 := by
          unfold zquo
          split
          · rw [hu]; simp
          · rw [hu]
        refine zM_cv hl y1.1 (zc222 (s := u) (d := d) hl y1 (by omega) (by omega) y6 (by omega) (by rw [y5 58 (by decide)]; exact hw) hw2 ?_ ?_)
        · intro hov
          rcases y7 with ⟨rfl, z8, z9, hrov⟩ | ⟨rfl, z1, z2, z3, z4⟩
          · exact ⟨fun _ => q0 (Or.inl hov) M2 F2 ce2 lo2 y1 y2 y3 y4 y5, fun z => absurd (by decide) z⟩
          · exact ⟨fun z => absurd z (nI_pos (by omega)), fun _ => ⟨fun _ => q0 (Or.inl hov) M2 F2 ce2 lo2 y1 y2 y3 y4 y5, fun z => absurd (by decide) z⟩⟩
        · intro hok M3 F3 ce3 lo3 u1 u2 u3 u4 u5 u6
          rw [hsq] at u4
          have hce3 : (ce ++ ce2 ++ ce3).length = ce.length + ce2.length + 1 := by rw [List.length_append, hce, u2]
          rcases y7 with ⟨rfl, z8, z9, hrov⟩ | ⟨rfl, z1, z2, z3, z4⟩
          · refine ⟨fun _ => ?_, fun z => absurd (by decide) z⟩
            rw [List.append_assoc, List.append_assoc] at u1
            exact q0 (Or.inr hrov) M3 F3 _ _ u1 (by rw [List.length_append, z8, u2]; decide) (by rw [List.length_append, z9, u3]; decide) (zSm_t y4 u5) (zSm_trans y5 u6 (by decide) (by decide))
          · have h1 : ce ++ ce2 ++ ce3 = ce ++ (ce2 ++ ce3) := List.append_assoc ..
            have h2 : lo ++ lo2 ++ lo3 = lo ++ (lo2 ++ lo3) := List.append_assoc ..
            rw [h1, h2] at u1 u4
            have hl3 : (ce ++ (ce2 ++ ce3)).length = ce.length + 2 := by rw [← h1]; omega
            rw [hce, z1] at u4
            refine ⟨fun z => absurd z (nI_pos (by omega)), fun _ => ⟨fun z => absurd z (nI_pos (by omega)), fun _ => ?_⟩⟩
            rw [hce, z1]
            refine zM_cv hl u1.1 (zc187 (k := 5) (a := ce.length + 1) (b := ce.length) hl u1 (by omega) (by decide) (by omega) (by omega) ?_)
            intro M4 F4 v1 v2 v3
            rw [hl3]
            refine zM_cv hl v1.1 (zc187 (k := 7) (a := ce.length + 2) (b := 0) hl v1 (by rw [List.length_append, hl3]; simp; omega) (by decide) (by omega) (by decide) ?_)
            intro M5 F5 v4 v5 v6
            have h3 : ce ++ (ce2 ++ ce3) ++ [(5, ce.length + 1, ce.length)] ++ [(7, ce.length + 2, 0)] = ce ++ (ce2 ++ ce3 ++ [(5, ce.length + 1, ce.length)] ++ [(7, ce.length + 2, 0)]) := by simp only [List.append_assoc]
            have hl4 : (ce ++ (ce2 ++ ce3) ++ [((5 : Nat), ce.length + 1, ce.length)]).length = ce.length + 3 := by rw [List.length_append, hl3]; rfl
            rw [hl4]
            have e5 : (ce ++ (ce2 ++ ce3) ++ [(5, ce.length + 1, ce.length)] ++ [(7, ce.length + 2, 0)])[ce.length + 2]? = some (5, ce.length + 1, ce.length) := by
              rw [List.getElem?_append_left (by rw [List.length_append, hl3]; simp), List.getElem?_append_right (by omega), hl3, Nat.sub_self]; rfl
            have e7 : (ce ++ (ce2 ++ ce3) ++ [(5, ce.length + 1, ce.length)] ++ [(7, ce.length + 2, 0)])[ce.length + 3]? = some (7, ce.length + 2, 0) := by
              rw [List.getElem?_append_right (by rw [hl4]; omega), hl4, Nat.sub_self]; rfl
            have n1 : zNm (ce ++ (ce2 ++ ce3) ++ [(5, ce.length + 1, ce.length)] ++ [(7, ce.length + 2, 0)]) (lo ++ (lo2 ++ lo3)) ce.length false (zquo s n t m).2 := by
              have q1 := zNm_app (ce' := ce3 ++ [(5, ce.length + 1, ce.length)] ++ [(7, ce.length + 2, 0)]) (lo' := lo3) z4
              rw [h2, show ce ++ ce2 ++ (ce3 ++ [(5, ce.length + 1, ce.length)] ++ [(7, ce.length + 2, 0)]) = ce ++ (ce2 ++ ce3) ++ [(5, ce.length + 1, ce.length)] ++ [(7, ce.length + 2, 0)] by simp only [List.append_assoc]] at q1
              exact q1
            have n2 : zNm (ce ++ (ce2 ++ ce3) ++ [(5, ce.length + 1, ce.length)] ++ [(7, ce.length + 2, 0)]) (lo ++ (lo2 ++ lo3)) (ce.length + 1) (zquo s n t m).1.1 (zquo s n t m).1.2 := by
              have q1 := zNm_app (ce' := [(5, ce.length + 1, ce.length)] ++ [(7, ce.length + 2, 0)]) (lo' := []) u4
              rw [List.append_nil, ← List.append_assoc] at q1
              exact q1
            rw [h3] at v4 e5 e7 n1 n2
            refine q1 hok z3 M5 F5 _ _ v4 ?_ ?_ n1 n2 e5 e7 ?_ ?_
            · rw [List.length_append, List.length_append, List.length_append, z1, u2]; rfl
            · rw [List.length_append, z2, u3]
            · exact zSm_trans (zSm_trans (zSm_t y4 u5) v2 (U := [10, 30, 31, 32, 33, 34]) (by decide) (by decide)) v5 (by decide) (by decide)
            · exact zSm_trans (zSm_trans (zSm_trans y5 u6 (U := [27, 28, 65, 66]) (by decide) (by decide)) v3 (U := [27, 28, 65, 66]) (by decide) (by decide)) v6 (by decide) (by decide)
      refine zM_cv hl y1.1 (zc192 hl y1 (zNm_app hi) (zM_cv hl y1.1 (zc192 hl y1 (zNm_app hj) ⟨fun z => ?_, fun z => ?_⟩)))
      · rw [zSg_eq] at z; exact go false (by rw [z]; simp)
      · rw [zSg_eq] at z; exact go true (by simpa using z)
    refine zM_cv hl p1.1 (zc222 (s := false) (d := d) hl p1 (by omega) (by omega) p4 (by omega) (by rw [p3 58 (by decide)]; exact hw) hw2 ?_ ?_)
    · intro hov
      refine zKI_v ?_
      have f1 := zSm_ub (k := 66) (e := Value.long (lN (n / m % 1152921504606846976))) (zSm_ub (k := 65) (e := Value.long (lN (n / m / 1152921504606846976))) p3 (by decide)) (by decide)
      have m1 := zSm_ub (k := 10) (e := zMo (zub (zub F1 65 (Value.long (lN (n / m / 1152921504606846976)))) 66 (Value.long (lN (n / m % 1152921504606846976))))) (zSm_ub (k := 10) (e := zMo (zub F1 65 (Value.long (lN (n / m / 1152921504606846976))))) p2 (by decide)) (by decide)
      have P1 := zPo_sm hp zub_s m1 f1 (by decide) (by decide)
      have A1 : zAc (zub (zub F1 65 (Value.long (lN (n / m / 1152921504606846976)))) 66 (Value.long (lN (n / m % 1152921504606846976)))) (n / m) := ⟨by rw [zub_n (by decide), zub_s], zub_s⟩
      refine zM_pf hl p1.1 (zM_pf hl zub_s ⟨fun z => ?_, fun z => ?_⟩)
      · rw [zB_0] at z
        rw [z] at hq2
        refine last (-2) _ _ [] [] (by rw [List.append_nil, List.append_nil]; exact P1) (by decide) (by decide) (zSm_mono m1 (by decide)) (zSm_mono f1 (by decide)) (by rw [hq2]; exact A1) (Or.inl ⟨rfl, rfl, rfl, hov⟩)
      · have z1 : tu = true := by cases tu; exact absurd rfl z; rfl
        rw [z1] at hq2
        refine zM_cv hl zub_s (zc220 (n := 1) hl zub_s A1 (by omega) (by decide) ?_)
        intro M2 F2 r1 r2 r3 r4
        refine last (-2) M2 F2 [] [] (by rw [List.append_nil, List.append_nil]; exact zPo_sm P1 r1 r2 r3 (by decide) (by decide)) (by decide) (by decide) (zSm_mono (zSm_t m1 r2) (by decide)) (zSm_mono (zSm_t f1 r3) (by decide)) (by rw [hq2]; exact r4) (Or.inl ⟨rfl, rfl, rfl, hov⟩)
    · intro hok M2 F2 ce2 lo2 u1 u2 u3 u4 u5 u6
      refine zKI_v ?_
      have f1 := zSm_ub (k := 66) (e := Value.long (lN (n / m % 1152921504606846976))) (zSm_ub (k := 65) (e := Value.long (lN (n / m / 1152921504606846976))) (zSm_trans p3 u6 (U := [27, 28, 65, 66]) (by decide) (by decide)) (by decide)) (by decide)
      have f2 : zSm [65, 66] F2 (zub (zub F2 65 (Value.long (lN (n / m / 1152921504606846976)))) 66 (Value.long (lN (n / m % 1152921504606846976)))) := zSm_ub (zSm_ub zSm_refl (by decide)) (by decide)
      have m2 : zSm [10] M2 (zub (zub M2 10 (zMo (zub F2 65 (Value.long (lN (n / m / 1152921504606846976)))))) 10 (zMo (zub (zub F2 65 (Value.long (lN (n / m / 1152921504606846976)))) 66 (Value.long (lN (n / m % 1152921504606846976)))))) := zSm_ub (zSm_ub zSm_refl (by decide)) (by decide)
      have m1 := zSm_trans (zSm_trans p2 u5 (U := [10, 30, 31, 32, 33, 34]) (by decide) (by decide)) m2 (U := [10, 30, 31, 32, 33, 34]) (by decide) (by decide)
      have P1 := zPo_sm u1 zub_s m2 f2 (by decide) (by decide)
      have A1 : zAc (zub (zub F2 65 (Value.long (lN (n / m / 1152921504606846976)))) 66 (Value.long (lN (n / m % 1152921504606846976)))) (n / m) := ⟨by rw [zub_n (by decide), zub_s], zub_s⟩
      rw [show (false && (zquo s n t m).2 != 0) = false from rfl] at u4
      refine zM_pf hl u1.1 (zM_pf hl zub_s ⟨fun z => ?_, fun z => ?_⟩)
      · rw [zB_0] at z
        rw [z] at hq2
        refine last (nI ce.length) _ _ ce2 lo2 P1 (by omega) (by omega) m1 f1 (by rw [hq2]; exact A1) (Or.inr ⟨rfl, u2, u3, hok, u4⟩)
      · have z1 : tu = true := by cases tu; exact absurd rfl z; rfl
        rw [z1] at hq2
        refine zM_cv hl zub_s (zc220 (n := 1) hl zub_s A1 (by omega) (by decide) ?_)
        intro M3 F3 r1 r2 r3 r4
        refine last (nI ce.length) M3 F3 ce2 lo2 (zPo_sm P1 r1 r2 r3 (by decide) (by decide)) (by omega) (by omega) (zSm_trans m1 r2 (by decide) (by decide)) (zSm_trans f1 r3 (by decide) (by decide)) (by rw [hq2]; exact r4) (Or.inr ⟨rfl, u2, u3, hok, u4⟩)
  have hor0 : ∀ x : Int64, x ||| (0 : Int64) = x := fun x => Int64.or_zero
  have hhi := hi
  obtain ⟨jj, ci, _⟩ := hhi
  refine zm_225 (fun k l0 l1 l2 l3 l5 l7 l9 l11 h1 => ∃ M1 F1 q r, k ≤ 120 ∧ l0 = some 10 ∧ l1 = nI i ∧ l2 = nI j ∧ l3 = lN (m / 1152921504606846976) ∧ l5 = lN (m % 1152921504606846976) ∧ l7 = lN (q * 2 ^ k / 1152921504606846976) ∧ l9 = lN (q * 2 ^ k % 1152921504606846976) ∧ l11 = nI k - 1 ∧ h1 = zov h M1 ∧ zPo M1 F1 ce lo ∧ zSm [10] M M1 ∧ zSm [65, 66] F F1 ∧ zAc F1 r ∧ n / 2 ^ k = q * m + r ∧ r < m) ?_ ?_
  · rintro k l0 l1 l2 l3 l5 l7 l9 l11 h1 ⟨M1, F1, q, r, hk, rfl, rfl, rfl, rfl, rfl, rfl, rfl, rfl, rfl, p1, p2, p3, p4, hq, hr⟩
    have hqk : q * 2 ^ k ≤ n := by
      have h1 : q ≤ n / 2 ^ k := by have := Nat.le_mul_of_pos_right q hm0; omega
      exact Nat.le_trans (Nat.mul_le_mul_right _ h1) (Nat.div_mul_le_self _ _)
    cases k with
    | zero =>
      refine ⟨fun _ => ?_, fun z => absurd (by decide) z⟩
      rw [Nat.pow_zero, Nat.div_one] at hq
      rw [Nat.pow_zero, Nat.mul_one]
      have eq : q = n / m := by
        rw [hq]
        refine (Nat.div_eq_of_lt_le ?_ ?_).symm
        · omega
        · rw [Nat.add_mul, Nat.one_mul]; omega
      have er : r = n % m := by
        have := Nat.div_add_mod n m
        rw [← eq, Nat.mul_comm] at this
        omega
      subst eq er
      have no : ∀ J, ¬ (s = true ∧ n % m ≠ 0) → zw_225_227 xs (d + 4) Q J (some 10) (nI i) (nI j) (lN (n / m / 1152921504606846976)) (lN (n / m % 1152921504606846976)) (zov h M1) := by
        intro J hc
        refine zM_gl hl p1.1 p4.1 (zM_gl hl p1.1 p4.2 ⟨fun _ => ?_, fun z => absurd rfl z⟩)
        refine fin false J (by simpa using hc) M1 F1 p1 p2 p3 ?_
        unfold zquo
        rw [if_neg hc]
        exact p4
      have yes : ∀ J, (s = true ∧ n % m ≠ 0) → zw_225_223 xs (d + 4) Q J (some 10) (nI i) (nI j) (lN (n / m / 1152921504606846976)) (lN (n / m % 1152921504606846976)) (zov h M1) := by
        intro J hc
        refine zM_gl hl p1.1 p4.1 (zM_gl hl p1.1 p4.2 ⟨fun z => absurd z (by decide), fun _ => ?_⟩)
        refine zM_cv hl p1.1 (zc219 hl p1 hj ?_)
        intro M2 F2 r1 r2 r3 r4
        refine zM_cv hl r1.1 (zc221 hl r1.1 r4 (by omega) (by omega) ?_)
        intro M3 F3 u1 u2 u3 u4
        refine fin true J (by simpa using hc) M3 F3 (zPo_sm r1 u1 u2 u3 (by decide) (by decide)) (zSm_t (zSm_t p2 r2) u2) (zSm_t (zSm_t p3 r3) u3) ?_
        unfold zquo
        rw [if_pos hc]
        exact u4
      refine zM_body hl p1 ci ⟨fun z => zM_gl hl p1.1 p4.1 ⟨fun z2 => zM_gl hl p1.1 p4.2 ⟨fun z3 => no _ ?_, fun z3 => yes _ ?_⟩, fun z2 => yes _ ?_⟩, fun z => no _ ?_⟩
      · rw [zL0 (by omega)] at z2 z3
        rintro ⟨_, c⟩
        omega
      · rw [zL0 (by omega)] at z3
        refine ⟨?_, by omega⟩
        cases s
        · exact absurd z (show ¬ nI 0 = 1 by decide)
        · rfl
      · rw [zL0 (by omega)] at z2
        refine ⟨?_, by omega⟩
        cases s
        · exact absurd z (show ¬ nI 0 = 1 by decide)
        · rfl
      · rintro ⟨c, _⟩
        subst c
        exact z rfl
    | succ k =>
      rw [nI_pred]
      refine ⟨fun z => absurd z (nI_pos (by omega)), fun _ => ?_⟩
      have hst := zdiv_step hm0 hq hr
      obtain ⟨bt, ebt⟩ : ∃ bt, bt = n / 2 ^ k % 2 := ⟨_, rfl⟩
      rw [← ebt] at hst
      have hbt : bt < 2 := by rw [ebt]; exact Nat.mod_lt _ (by decide)
      obtain ⟨zq1, zq2⟩ := zqbit (q := q) (k := k) (by omega) (by omega)
      have cmp : ∀ M2 F2, zPo M2 F2 ce lo → zSm [10] M M2 → zSm [65, 66] F F2 → zAc F2 (2 * r + bt) → zw_225_100 xs (d + 4) Q (fun l0 l1 l2 l3 l5 l7 l9 l11 h1 => ∃ n1, n1 < k + 1 ∧ ∃ M1 F1 q r, n1 ≤ 120 ∧ l0 = some 10 ∧ l1 = nI i ∧ l2 = nI j ∧ l3 = lN (m / 1152921504606846976) ∧ l5 = lN (m % 1152921504606846976) ∧ l7 = lN (q * 2 ^ n1 / 1152921504606846976) ∧ l9 = lN (q * 2 ^ n1 % 1152921504606846976) ∧ l11 = nI n1 - 1 ∧ h1 = zov h M1 ∧ zPo M1 F1 ce lo ∧ zSm [10] M M1 ∧ zSm [65, 66] F F1 ∧ zAc F1 r ∧ n / 2 ^ n1 = q * m + r ∧ r < m) (some 10) (nI i) (nI j) (lN (m / 1152921504606846976)) (lN (m % 1152921504606846976)) (lN (q * 2 ^ (k + 1) / 1152921504606846976)) (lN (q * 2 ^ (k + 1) % 1152921504606846976)) (nI k) (zov h M2) := by
        intro M2 F2 r1 r2 r3 r4
        refine zM_gl hl r1.1 r4.1 (zM_gl hl r1.1 r4.2 ⟨d + 3, rfl, zc193 (by omega) (by omega) (zKI_v ?_)⟩)
        by_cases hle : m ≤ 2 * r + bt
        · rw [if_neg (by omega)]
          rw [if_pos hle, if_pos hle] at hst
          refine ⟨fun z => absurd z (by split <;> decide), fun _ => ⟨fun z => absurd z (by decide), fun _ => ?_⟩⟩
          refine zM_cv hl r1.1 (zc221 hl r1.1 r4 (by omega) hle ?_)
          intro M3 F3 u1 u2 u3 u4
          refine ⟨fun z => absurd z (by decide), fun _ => ⟨fun z => ?_, fun z => ?_⟩⟩
          · have h60 : ¬ k < 60 := by
              have := (nI_ltI (a := 59) (b := k) (by decide) (by omega)).mp z
              omega
            obtain ⟨zz1, zz2⟩ := zq1 h60
            intro x hx
            rw [show nI k - 60 = nI (k - 60) from pk_sub (a := k) (b := 60) (by omega), zz1] at hx
            refine ⟨fun z => absurd z (by decide), fun _ => ⟨fun z2 => absurd ((nI_ltI (b := 60) (by omega) (by decide)).mp z2) h60, fun _ => ?_⟩⟩
            intro y hy
            rw [hor0, zz2] at hy
            intro v hv
            exact ⟨k, by omega, M3, F3, 2 * q + 1, 2 * r + bt - m, by omega, rfl, rfl, rfl, rfl, rfl, hx, hy, by rw [hv, Int32.sub_eq_add_neg], rfl, zPo_sm r1 u1 u2 u3 (by decide) (by decide), zSm_t r2 u2, zSm_t r3 u3, u4, hst.1, hst.2⟩
          · have h60 : k < 60 := by
              have := mt (nI_ltI (a := 59) (b := k) (by decide) (by omega)).mpr z
              omega
            obtain ⟨zz1, zz2⟩ := zq2 h60
            intro x hx
            rw [hor0, zz2] at hx
            refine ⟨fun z => absurd z (by decide), fun _ => ⟨fun _ => ?_, fun z2 => absurd ((nI_ltI (b := 60) (by omega) (by decide)).mpr h60) z2⟩⟩
            intro y hy
            rw [zz1] at hy
            intro v hv
            exact ⟨k, by omega, M3, F3, 2 * q + 1, 2 * r + bt - m, by omega, rfl, rfl, rfl, rfl, rfl, hx, hy, by rw [hv, Int32.sub_eq_add_neg], rfl, zPo_sm r1 u1 u2 u3 (by decide) (by decide), zSm_t r2 u2, zSm_t r3 u3, u4, hst.1, hst.2⟩
        · rw [if_pos (by omega)]
          rw [if_neg hle, if_neg hle, Nat.add_zero, Nat.sub_zero] at hst
          have e2 : q * 2 ^ (k + 1) = 2 * q * 2 ^ k := by rw [Nat.pow_succ, Nat.mul_comm 2 q, Nat.mul_assoc, Nat.mul_comm 2]
          refine ⟨fun _ => ⟨fun _ => ⟨fun _ => ?_, fun z => absurd rfl z⟩, fun z => absurd rfl z⟩, fun z => absurd (by decide) z⟩
          intro x hx
          rw [hor0, e2] at hx
          refine ⟨fun _ => ?_, fun z => absurd rfl z⟩
          intro y hy
          rw [hor0, e2] at hy
          intro v hv
          exact ⟨k, by omega, M2, F2, 2 * q, 2 * r + bt, by omega, rfl, rfl, rfl, rfl, rfl, hx, hy, by rw [hv, Int32.sub_eq_add_neg], rfl, r1, r2, r3, r4, hst.1, hst.2⟩
      refine zM_gl hl p1.1 p4.1 (zM_gl hl p1.1 p4.2 (zM_cv hl p1.1 (zc220 hl p1.1 p4 (by omega) (by omega) ?_)))
      intro M2 F2 r1 r2 r3 r4
      have P2 := zPo_sm p1 r1 r2 r3 (by decide) (by decide)
      refine zM_cv hl r1 (zc224 (k := k) hl P2 hi hn (by omega) ⟨fun z2 => ?_, fun z2 => ?_⟩)
      · rw [zB_0, ← ebt] at z2
        have hb : bt = 0 := by
          have : bt ≠ 1 := by simpa using z2
          omega
        refine cmp M2 F2 P2 (zSm_t p2 r2) (zSm_t p3 r3) ?_
        rw [hb, show 2 * r + 0 = r + r by omega]; exact r4
      · rw [← ebt] at z2
        have z3 : (bt == 1) = true := by cases hz : (bt == 1); rw [hz] at z2; exact absurd rfl z2; rfl
        have hb : bt = 1 := by simpa using z3
        refine zM_cv hl r1 (zc220 (n := 1) hl r1 r4 (by omega) (by decide) ?_)
        intro M3 F3 u1 u2 u3 u4
        refine cmp M3 F3 (zPo_sm P2 u1 u2 u3 (by decide) (by decide)) (zSm_t (zSm_t p2 r2) u2) (zSm_t (zSm_t p3 r3) u3) ?_
        rw [hb, show 2 * r + 1 = r + r + 1 by omega]; exact u4
  · have start : ∀ J : zP → Int32 → Int32 → Int64 → Int64 → Int64 → Int64 → Int32 → zH → Prop, (∀ M1 F1, zPo M1 F1 ce lo → zSm [10] M M1 → zSm [65, 66] F F1 → zAc F1 0 → J (some 10) (nI i) (nI j) (lN (m / 1152921504606846976)) (lN (m % 1152921504606846976)) 0 0 119 (zov h M1)) → zw_225_47 xs (d + 4) Q J (some 10) (nI i) (nI j) (lN (m / 1152921504606846976)) (lN (m % 1152921504606846976)) (zov h M) := by
      intro J hJ
      refine zM_pf hl hp.1 (zM_pf hl zub_s ?_)
      have sF : zSm [65, 66] F (zub (zub F 65 (.long 0)) 66 (.long 0)) := zSm_ub (zSm_ub zSm_refl (by decide)) (by decide)
      have sM : zSm [10] M (zub (zub M 10 (zMo (zub F 65 (.long 0)))) 10 (zMo (zub (zub F 65 (.long 0)) 66 (.long 0)))) := zSm_ub (zSm_ub zSm_refl (by decide)) (by decide)
      exact hJ _ _ (zPo_sm hp zub_s sM sF (by decide) (by decide)) sM sF ⟨by rw [zub_n (by decide), zub_s]; rfl, by rw [zub_s]; rfl⟩
    have inv : ∀ M1 F1, zPo M1 F1 ce lo → zSm [10] M M1 → zSm [65, 66] F F1 → zAc F1 0 → ∃ n1, ∃ M2 F2 q r, n1 ≤ 120 ∧ (some 10 : zP) = some 10 ∧ nI i = nI i ∧ nI j = nI j ∧ lN (m / 1152921504606846976) = lN (m / 1152921504606846976) ∧ lN (m % 1152921504606846976) = lN (m % 1152921504606846976) ∧ (0 : Int64) = lN (q * 2 ^ n1 / 1152921504606846976) ∧ (0 : Int64) = lN (q * 2 ^ n1 % 1152921504606846976) ∧ (119 : Int32) = nI n1 - 1 ∧ zov h M1 = zov h M2 ∧ zPo M2 F2 ce lo ∧ zSm [10] M M2 ∧ zSm [65, 66] F F2 ∧ zAc F2 r ∧ n / 2 ^ n1 = q * m + r ∧ r < m := by
      intro M1 F1 p1 p2 p3 p4
      refine ⟨120, M1, F1, 0, 0, by decide, rfl, rfl, rfl, rfl, rfl, by rw [Nat.zero_mul]; rfl, by rw [Nat.zero_mul]; rfl, by decide, rfl, p1, p2, p3, p4, ?_, hm0⟩
      rw [Nat.div_eq_of_lt hn]; omega
    refine zM_nh hl hp hj (zM_nl hl hp hj ⟨fun z => ⟨fun z2 => ?_, fun z2 => start _ inv⟩, fun z => start _ inv⟩)
    rw [zL0 (by omega)] at z z2
    omega
end QUOT
