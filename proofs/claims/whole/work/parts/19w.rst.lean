/-! the reference's stack -/
def zSt (M : Nat → zE) (F : Nat → Value) (P : Int32 → Term → Prop) (st : List Term) (held most : Nat) : Prop := F 49 = .int (nI st.length) ∧ F 50 = .int (nI held) ∧ F 51 = .int (nI most) ∧ st.length ≤ 16 ∧ ∃ Sk, M 48 = zAi Sk ∧ Sk.length = 16 ∧ ∀ k T, st[k]? = some T → ∃ x, Sk[st.length - 1 - k]? = some x ∧ P x T
def zTi (Ts : List Term) (x : Int32) (T : Term) : Prop := ∃ j : Nat, j < 220 ∧ Ts[j]? = some T ∧ x = nI j
set_option maxRecDepth 100000 in
theorem zkip_b : ∀ c : Nat, c < 77 → c < 30 ∨ c = 34 ∨ c = 41 ∨ c = 44 ∨ c = 47 ∨ c = 51 ∨ c = 58 ∨ c = 33 ∨ c = 40 ∨ c = 42 ∨ c = 43 ∨ c = 45 ∨ c = 49 ∨ c = 50 ∨ c = 59 ∨ zkip c = 0 := by decide
theorem zkip_0 (c : Nat) (h1 : c < 77) (h2 : 30 ≤ c) (n34 : c ≠ 34) (n41 : c ≠ 41) (n44 : c ≠ 44) (n47 : c ≠ 47) (n51 : c ≠ 51) (n58 : c ≠ 58) (n33 : c ≠ 33) (n40 : c ≠ 40) (n42 : c ≠ 42) (n43 : c ≠ 43) (n45 : c ≠ 45) (n49 : c ≠ 49) (n50 : c ≠ 50) (n59 : c ≠ 59) : zkip c = 0 := by have := zkip_b c h1; omega
def zkbk (c : Nat) : Bool := c == 33 || c == 41 || c == 44 || c == 47 || c == 49 || c == 50 || c == 58 || c == 59
def zktk (c : Nat) : Nat := if c = 31 ∨ c = 34 ∨ c = 35 ∨ c = 40 ∨ c = 45 ∨ c = 51 then 0 else if c = 53 then 3 else if c = 32 ∨ c = 36 ∨ c = 46 ∨ c = 52 ∨ (53 < c ∧ c < 57) ∨ (59 < c ∧ c < 64) ∨ c = 68 ∨ c = 75 then 2 else 1
section RST
variable {xs : List Value} {d : Nat} {h : zH} {M M' : Nat → zE} {F F' : Nat → Value} {Q : zO → zH → Prop} {Ts : List Term} {T : Term} {P P' : Int32 → Term → Prop} {st : List Term} {held most k c : Nat} {x : Int32}
theorem zSt_sm {S S' : List Nat} (hs : zSt M F P st held most) (hM : zSm S M M') (hF : zSm S' F F') (h1 : S.contains 48 = false) (h2 : ([49, 50, 51].all fun q => !(S'.contains q)) = true) : zSt M' F' P st held most := by
  obtain ⟨a1, a2, a3, a4, Sk, a5, a6, a7⟩ := hs
  have hm : ∀ (S : List Nat) k, S.contains k = false → k ∉ S := fun S k hk z => by rw [List.contains_iff_mem.mpr z] at hk; cases hk
  simp only [List.all_cons, List.all_nil, Bool.and_true, Bool.and_eq_true, Bool.not_eq_true'] at h2
  exact ⟨(hF 49 (hm _ _ h2.1)).trans a1, (hF 50 (hm _ _ h2.2.1)).trans a2, (hF 51 (hm _ _ h2.2.2)).trans a3, a4, Sk, (hM 48 (hm _ _ h1)).trans a5, a6, a7⟩
theorem zSt_P (hs : zSt M F P st held most) (H : ∀ x T, P x T → P' x T) : zSt M F P' st held most := by
  obtain ⟨a1, a2, a3, a4, Sk, a5, a6, a7⟩ := hs
  refine ⟨a1, a2, a3, a4, Sk, a5, a6, fun k T hk => ?_⟩
  obtain ⟨x, b1, b2⟩ := a7 k T hk
  exact ⟨x, b1, H x T b2⟩
theorem zTi_app {S : List Term} : ∀ x T, zTi Ts x T → zTi (Ts ++ S) x T := by
  rintro x T ⟨j, h1, h2, h3⟩
  exact ⟨j, h1, zget_app h2, h3⟩
theorem zSt_drop {n : Nat} (hs : zSt M F P st held most) (hn : n ≤ st.length) (hM : M' 48 = M 48) (h49 : F' 49 = .int (nI (st.length - n))) (h50 : F' 50 = F 50) (h51 : F' 51 = F 51) : zSt M' F' P (st.drop n) held most := by
  obtain ⟨a1, a2, a3, a4, Sk, a5, a6, a7⟩ := hs
  refine ⟨by rw [List.length_drop]; exact h49, h50.trans a2, h51.trans a3, by rw [List.length_drop]; omega, Sk, hM.trans a5, a6, fun k T hk => ?_⟩
  rw [List.getElem?_drop] at hk
  obtain ⟨x, b1, b2⟩ := a7 (n + k) T hk
  refine ⟨x, ?_, b2⟩
  rw [List.length_drop, show st.length - n - 1 - k = st.length - 1 - (n + k) by omega]
  exact b1
theorem zc168 (hl : 50 ≤ h.1.length) (h10 : M 10 = zMo F) (hR : zRf F) (hs : zSt M F P st held most) (hx : P x T) (hlen : st.length < 16) (hh : held ≤ 100) (hm : most ≤ 100)
    (q : ∀ M' F', M' 10 = zMo F' → zSm [10, 48] M M' → zSm [49, 51] F F' → zSt M' F' P (T :: st) held (max most (st.length + 1 + held)) → Q (.inl none) (zov h M')) : zG xs d (168, 0, lv_args 0 [zo (some 10), .int x], []) (zov h M) Q := by
  obtain ⟨a1, a2, a3, a4, Sk, a5, a6, a7⟩ := hs
  refine zm_168 (zM_gr hl h10 (hR (48, 48) (by decide)) (zM_gi hl h10 a1 (zM_pf hl h10 ?_)))
  rw [nI_1]
  refine zM_st' (L := Sk) hl (by rw [zub_n (by decide)]; exact a5) (by omega) (by omega) ?_
  have fin : ∀ (m : Nat), m = max most (st.length + 1 + held) → Q (.inl none) (zov h (zub (zub (zub M 10 (zMo (zub F 49 (.int (nI (st.length + 1)))))) 48 (zAi (Sk.set st.length x))) 10 (zMo (zub (zub F 49 (.int (nI (st.length + 1)))) 51 (.int (nI m)))))) := by
    intro m hmx
    refine q _ (zub (zub F 49 (.int (nI (st.length + 1)))) 51 (.int (nI m))) zub_s (zSm_ub (zSm_ub (zSm_ub zSm_refl (by decide)) (by decide)) (by decide)) (zSm_ub (zSm_ub zSm_refl (by decide)) (by decide)) ?_
    refine ⟨by rw [zub_n (by decide), zub_s, List.length_cons], by rw [zub_n (by decide), zub_n (by decide)]; exact a2, by rw [zub_s, hmx], by rw [List.length_cons]; omega, Sk.set st.length x, by rw [zub_n (by decide), zub_s], by rw [List.length_set]; exact a6, fun k U hk => ?_⟩
    rw [List.length_cons]
    cases k with
    | zero =>
      cases hk
      exact ⟨x, by rw [show st.length + 1 - 1 - 0 = st.length by omega]; exact zset_eq (by omega), hx⟩
    | succ k =>
      rw [List.getElem?_cons_succ] at hk
      have hkl := (List.getElem?_eq_some_iff.mp hk).1
      obtain ⟨y, b1, b2⟩ := a7 k U hk
      refine ⟨y, ?_, b2⟩
      rw [show st.length + 1 - 1 - (k + 1) = st.length - 1 - k by omega, zset_ne (by omega)]
      exact b1
  have h10' : ∀ {e : zE}, zub (zub M 10 (zMo (zub F 49 (.int (nI (st.length + 1)))))) 48 e 10 = zMo (zub F 49 (.int (nI (st.length + 1)))) := fun {e} => by rw [zub_n (by decide), zub_s]
  refine zM_gi hl h10' zub_s (zM_gi hl h10' (by rw [zub_n (by decide)]; exact a2) (zM_gi hl h10' (by rw [zub_n (by decide)]; exact a3) ?_))
  rw [nI_add]
  refine pk_lt most (st.length + 1 + held) (fun hlt => ?_) (fun hge => ?_)
  · refine zM_gi hl h10' zub_s (zM_gi hl h10' (by rw [zub_n (by decide)]; exact a2) ?_)
    rw [nI_add]
    exact zM_pf hl h10' (fin (st.length + 1 + held) (by omega))
  · exact zM_gi hl h10' (by rw [zub_n (by decide)]; exact a3) (zM_pf hl h10' (fin most (by omega)))
theorem zc173 (hl : 50 ≤ h.1.length) (h10 : M 10 = zMo F) (hR : zRf F) (hs : zSt M F P st held most) (hk : k < 100) (q1 : ∀ U y, st[k]? = some U → P y U → Q (.inl (some (.int y))) (zov h M)) (q0 : st.length ≤ k → Q (.inl (some (.int (-1)))) (zov h M)) : zG xs d (173, 0, lv_args 0 [zo (some 10), .int (nI k)], []) (zov h M) Q := by
  obtain ⟨a1, a2, a3, a4, Sk, a5, a6, a7⟩ := hs
  refine zm_173 (zM_gi hl h10 a1 (pk_lt k st.length (fun hlt => ?_) (fun hge => q0 hge)))
  obtain ⟨y, b1, b2⟩ := a7 k st[k] (List.getElem?_eq_getElem hlt)
  refine zM_gr hl h10 (hR (48, 48) (by decide)) (zM_gi hl h10 a1 ?_)
  rw [show nI st.length - (1 : Int32) = nI (st.length - 1) from pk_sub (b := 1) (by omega), pk_sub (by omega)]
  exact zM_ia' hl a5 b1 (q1 _ y (List.getElem?_eq_getElem hlt) b2)
theorem zc172 (hl : 50 ≤ h.1.length) (h10 : M 10 = zMo F) (hR : zRf F) (ht : zTbl M F Ts) (hs : zSt M F (zTi Ts) st held most) (hk : k < 100) (hc : c < 100) (q : Q (.inl (some (.int (zB (zkhs st k c))))) (zov h M)) : zG xs (d + 1) (172, 0, lv_args 0 [zo (some 10), .int (nI k), .int (nI c)], []) (zov h M) Q := by
  have a1 := hs.1
  have a4 := hs.2.2.2.1
  unfold zkhs at q
  refine zm_172 (zM_gi hl h10 a1 (pk_lt k st.length (fun hlt => ?_) (fun hge => ?_)))
  · refine zM_gr hl h10 (hR (22, 25) (by decide)) (zM_cv hl h10 (zc173 hl h10 hR hs hk (fun U y hU hy => zKI_v ?_) (fun z => absurd z (by omega))))
    obtain ⟨j, j1, j2, rfl⟩ := hy
    obtain ⟨_, _, _, t4, Ki, On, Tw, De, Si, b1, b2, b3, b4, b5, cc1, cc2, cc3, cc4, cc5, rows⟩ := ht
    have h10' := zTok_c (t4 j U j2).1
    have hz : zkat st k = U := by rw [zkat_lt hlt]; exact (List.getElem?_eq_some_iff.mp hU).2
    rw [hz, decide_eq_true hlt, Bool.true_and] at q
    refine zM_ia' hl b1 (rows j U j2).1 (pk_eq (ztc U) c (fun e => ?_) (fun e => ?_))
    · rw [e, beq_self_eq_true] at q; exact ⟨Or.inr rfl, q⟩
    · rw [beq_false_of_ne e] at q; exact ⟨Or.inl rfl, q⟩
  · rw [decide_eq_false (by omega)] at q
    exact ⟨Or.inl rfl, q⟩
theorem zkm_hs : zkm (zkat st k) = (zkhs st k 9 || zkhs st k 10) := by
  unfold zkm zkhs
  by_cases hk : k < st.length
  · rw [decide_eq_true hk, Bool.true_and, Bool.true_and]
  · have : zkat st k = .arg 0 := by unfold zkat; rw [List.getD_eq_getElem?_getD, List.getElem?_eq_none (by omega)]; rfl
    rw [this, decide_eq_false hk]; rfl
theorem zkn_hs : zkn (zkat st k) = (zkhs st k 2 || zkhs st k 3) := by
  unfold zkn zkhs
  by_cases hk : k < st.length
  · rw [decide_eq_true hk, Bool.true_and, Bool.true_and]
  · have : zkat st k = .arg 0 := by unfold zkat; rw [List.getD_eq_getElem?_getD, List.getElem?_eq_none (by omega)]; rfl
    rw [this, decide_eq_false hk]; rfl
theorem zc177 (hl : 50 ≤ h.1.length) (h10 : M 10 = zMo F) (hR : zRf F) (ht : zTbl M F Ts) (hs : zSt M F (zTi Ts) st held most) (hk : k < 100) (q : Q (.inl (some (.int (zB (zkm (zkat st k)))))) (zov h M)) : zG xs (d + 2) (177, 0, lv_args 0 [zo (some 10), .int (nI k)], []) (zov h M) Q := by
  rw [zkm_hs] at q
  refine zm_177 (zM_cv hl h10 (zc172 (c := 9) (d := d) hl h10 hR ht hs hk (by decide) (zKI_v ⟨fun z => ?_, fun z => ?_⟩)))
  · rw [zB_0.mp z, Bool.false_or] at q
    refine zM_cv hl h10 (zc172 (c := 10) (d := d) hl h10 hR ht hs hk (by decide) (zKI_v ⟨fun z => ?_, fun z => ?_⟩))
    · rw [zB_0.mp z] at q; exact ⟨Or.inl rfl, q⟩
    · rw [zBt z] at q; exact ⟨Or.inr rfl, q⟩
  · rw [zBt z, Bool.true_or] at q; exact ⟨Or.inr rfl, q⟩
theorem zc178 (hl : 50 ≤ h.1.length) (h10 : M 10 = zMo F) (hR : zRf F) (ht : zTbl M F Ts) (hs : zSt M F (zTi Ts) st held most) (hk : k < 100) (q : Q (.inl (some (.int (zB (zkn (zkat st k)))))) (zov h M)) : zG xs (d + 2) (178, 0, lv_args 0 [zo (some 10), .int (nI k)], []) (zov h M) Q := by
  rw [zkn_hs] at q
  refine zm_178 (zM_cv hl h10 (zc172 (c := 2) (d := d) hl h10 hR ht hs hk (by decide) (zKI_v ⟨fun z => ?_, fun z => ?_⟩)))
  · rw [zB_0.mp z, Bool.false_or] at q
    refine zM_cv hl h10 (zc172 (c := 3) (d := d) hl h10 hR ht hs hk (by decide) (zKI_v ⟨fun z => ?_, fun z => ?_⟩))
    · rw [zB_0.mp z] at q; exact ⟨Or.inl rfl, q⟩
    · rw [zBt z] at q; exact ⟨Or.inr rfl, q⟩
  · rw [zBt z, Bool.true_or] at q; exact ⟨Or.inr rfl, q⟩
/-- the parts of instructions, blocks, what they take -/
theorem zc175 (hc : c < 256) (q : Q (.inl (some (.int (if 30 ≤ c ∧ c ≤ 76 then nI (zkip c) else -1)))) h) : zG xs d (175, 0, lv_args 0 [.int (nI c)], []) h Q := by
  have lf : ∀ k m : Nat, c = k → (if 30 ≤ k ∧ k ≤ 76 then nI (zkip k) else -1) = nI m → Q (.inl (some (.int (nI m)))) h := fun k m z e => by rw [z, e] at q; exact q
  have l34 : c = 34 → zw_175_36 xs d Q h := fun z => lf 34 2 z rfl
  have l41 : c = 41 → zw_175_36 xs d Q h := fun z => lf 41 2 z rfl
  have l44 : c = 44 → zw_175_36 xs d Q h := fun z => lf 44 2 z rfl
  have l47 : c = 47 → zw_175_36 xs d Q h := fun z => lf 47 2 z rfl
  have l51 : c = 51 → zw_175_36 xs d Q h := fun z => lf 51 2 z rfl
  have l58 : c = 58 → zw_175_36 xs d Q h := fun z => lf 58 2 z rfl
  have l33 : c = 33 → zw_175_86 xs d Q (nI c) h := fun z => ⟨fun w => absurd w (by decide), fun _ => lf 33 1 z rfl⟩
  have l40 : c = 40 → zw_175_86 xs d Q (nI c) h := fun z => ⟨fun w => absurd w (by decide), fun _ => lf 40 1 z rfl⟩
  have l42 : c = 42 → zw_175_86 xs d Q (nI c) h := fun z => ⟨fun w => absurd w (by decide), fun _ => lf 42 1 z rfl⟩
  have l43 : c = 43 → zw_175_86 xs d Q (nI c) h := fun z => ⟨fun w => absurd w (by decide), fun _ => lf 43 1 z rfl⟩
  have l45 : c = 45 → zw_175_86 xs d Q (nI c) h := fun z => ⟨fun w => absurd w (by decide), fun _ => lf 45 1 z rfl⟩
  have l49 : c = 49 → zw_175_86 xs d Q (nI c) h := fun z => ⟨fun w => absurd w (by decide), fun _ => lf 49 1 z rfl⟩
  have l50 : c = 50 → zw_175_86 xs d Q (nI c) h := fun z => ⟨fun w => absurd w (by decide), fun _ => lf 50 1 z rfl⟩
  have l59 : c = 59 → zw_175_86 xs d Q (nI c) h := fun z => ⟨fun w => absurd w (by decide), fun _ => lf 59 1 z rfl⟩
  refine zm_175 (pk_eq c 34 (fun z => l34 z) (fun n34 => pk_eq c 41 (fun z => l41 z) (fun n41 => pk_eq c 44 (fun z => l44 z) (fun n44 => pk_eq c 47 (fun z => l47 z) (fun n47 => pk_eq c 51 (fun z => l51 z) (fun n51 => pk_eq c 58 (fun z => l58 z) (fun n58 => pk_eq c 33 (fun z => l33 z) (fun n33 => pk_eq c 40 (fun z => l40 z) (fun n40 => pk_eq c 42 (fun z => l42 z) (fun n42 => pk_eq c 43 (fun z => l43 z) (fun n43 => pk_eq c 45 (fun z => l45 z) (fun n45 => pk_eq c 49 (fun z => l49 z) (fun n49 => pk_eq c 50 (fun z => l50 z) (fun n50 => pk_eq c 59 (fun z => l59 z) (fun n59 => ?_)))))))))))))))
  refine ⟨fun _ => pk_lt c 30 (fun lt => ?_) (fun ge => pk_lt 76 c (fun lt => ?_) (fun le => ?_)), fun w => absurd rfl w⟩
  · rw [if_neg (by omega)] at q; exact q
  · rw [if_neg (by omega)] at q; exact q
  · rw [if_pos ⟨ge, le⟩, zkip_0 c (by omega) ge n34 n41 n44 n47 n51 n58 n33 n40 n42 n43 n45 n49 n50 n59] at q; exact q
theorem zc179 (hc : c < 256) (q : Q (.inl (some (.int (zB (zkbk c))))) h) : zG xs d (179, 0, lv_args 0 [.int (nI c)], []) h Q := by
  have ye : ∀ k, c = k → zkbk k = true → zw_179_48 xs d Q h := fun k z e => by rw [z, e] at q; exact ⟨Or.inr rfl, q⟩
  refine zm_179 (pk_eq c 33 (fun z => ye 33 z rfl) (fun n33 => pk_eq c 41 (fun z => ye 41 z rfl) (fun n41 => pk_eq c 44 (fun z => ye 44 z rfl) (fun n44 => pk_eq c 47 (fun z => ye 47 z rfl) (fun n47 => pk_eq c 49 (fun z => ye 49 z rfl) (fun n49 => pk_eq c 50 (fun z => ye 50 z rfl) (fun n50 => pk_eq c 58 (fun z => ye 58 z rfl) (fun n58 => pk_eq c 59 (fun z => ye 59 z rfl) (fun n59 => ?_)))))))))
  have : zkbk c = false := by unfold zkbk; rw [beq_false_of_ne n33, beq_false_of_ne n41, beq_false_of_ne n44, beq_false_of_ne n47, beq_false_of_ne n49, beq_false_of_ne n50, beq_false_of_ne n58, beq_false_of_ne n59]; rfl
  rw [this] at q
  exact ⟨Or.inl rfl, q⟩
theorem zc194 (hc : c < 256) (q : Q (.inl (some (.int (nI (zktk c))))) h) : zG xs d (194, 0, lv_args 0 [.int (nI c)], []) h Q := by
  have le : ∀ m : Nat, zktk c = m → Q (.inl (some (.int (nI m)))) h := fun m e => by rw [e] at q; exact q
  have tw : c ≠ 53 → zktk c = 2 → zw_194_98 xs d Q (nI c) h := fun n e => pk_eq c 53 (fun z => absurd z n) (fun _ => ⟨fun w => absurd w (by decide), fun _ => le 2 e⟩)
  have on : (¬ (53 < c ∧ c < 57)) → (¬ (59 < c ∧ c < 64)) → c ≠ 31 → c ≠ 34 → c ≠ 35 → c ≠ 40 → c ≠ 45 → c ≠ 51 → c ≠ 32 → c ≠ 36 → c ≠ 46 → c ≠ 52 → c ≠ 68 → c ≠ 75 → zw_194_103 xs d Q (nI c) 0 h := fun a b n1 n2 n3 n4 n5 n6 n7 n8 n9 n10 n11 n12 => pk_eq c 53 (fun z => le 3 (by rw [z]; rfl)) (fun n53 => ⟨fun _ => le 1 (by unfold zktk; rw [if_neg (by omega), if_neg n53, if_neg (by omega)]), fun w => absurd rfl w⟩)
  have c74 : (c ≠ 31 ∧ c ≠ 34 ∧ c ≠ 35 ∧ c ≠ 40 ∧ c ≠ 45 ∧ c ≠ 51 ∧ c ≠ 32 ∧ c ≠ 36 ∧ c ≠ 46 ∧ c ≠ 52 ∧ ¬ (53 < c ∧ c < 57)) → zw_194_74 xs d Q (nI c) h := by
    rintro ⟨n1, n2, n3, n4, n5, n6, n7, n8, n9, n10, n11⟩
    have c86 : ¬ (59 < c ∧ c < 64) → zw_194_86 xs d Q (nI c) h := fun b => pk_eq c 68 (fun z => tw (by omega) (by rw [z]; rfl)) (fun n68 => pk_eq c 75 (fun z => tw (by omega) (by rw [z]; rfl)) (fun n75 => on n11 b n1 n2 n3 n4 n5 n6 n7 n8 n9 n10 n68 n75))
    refine pk_lt 59 c (fun a => pk_lt c 64 (fun b => tw (by omega) ?_) (fun b => c86 (by omega))) (fun a => c86 (by omega))
    unfold zktk
    rw [if_neg (by omega), if_neg (by omega), if_pos (by omega)]
  refine zm_194 (pk_eq c 31 (fun z => le 0 (by rw [z]; rfl)) (fun n31 => pk_eq c 34 (fun z => le 0 (by rw [z]; rfl)) (fun n34 => pk_eq c 35 (fun z => le 0 (by rw [z]; rfl)) (fun n35 => pk_eq c 40 (fun z => le 0 (by rw [z]; rfl)) (fun n40 => pk_eq c 45 (fun z => le 0 (by rw [z]; rfl)) (fun n45 => pk_eq c 51 (fun z => le 0 (by rw [z]; rfl)) (fun n51 => pk_eq c 32 (fun z => tw (by omega) (by rw [z]; rfl)) (fun n32 => pk_eq c 36 (fun z => tw (by omega) (by rw [z]; rfl)) (fun n36 => pk_eq c 46 (fun z => tw (by omega) (by rw [z]; rfl)) (fun n46 => pk_eq c 52 (fun z => tw (by omega) (by rw [z]; rfl)) (fun n52 => pk_lt 53 c (fun a => pk_lt c 57 (fun b => tw (by omega) ?_) (fun b => c74 ?_)) (fun a => c74 ?_))))))))))))
  · unfold zktk
    rw [if_neg (by omega), if_neg (by omega), if_pos (by omega)]
  · exact ⟨n31, n34, n35, n40, n45, n51, n32, n36, n46, n52, by omega⟩
  · exact ⟨n31, n34, n35, n40, n45, n51, n32, n36, n46, n52, by omega⟩
end RST
/-! the reference's check: what instructions want -/
/-- what top answers -/
def zTop (Ts : List Term) (st : List Term) (k : Nat) (x : Int32) : Prop := (∃ U, st[k]? = some U ∧ zTi Ts x U) ∨ (st.length ≤ k ∧ x = -1)
section RCK
variable {xs : List Value} {d : Nat} {h : zH} {M M' : Nat → zE} {F F' : Nat → Value} {Q : zO → zH → Prop} {Ts : List Term} {T U : Term} {st : List Term} {held most k c : Nat} {x y : Int32} {K : Int32 → Prop} {KI : Int32 → zH → Prop} {E : Nat → zH → Prop}
theorem zTi_eq (hn : zND Ts) (h1 : zTi Ts x T) (h2 : zTi Ts y U) : x = y ↔ T = U := by
  obtain ⟨j, a1, a2, rfl⟩ := h1
  obtain ⟨k, b1, b2, rfl⟩ := h2
  rw [nI_eq (by omega) (by omega)]
  constructor
  · rintro rfl; rw [a2] at b2; exact Option.some.inj b2
  · rintro rfl; exact hn _ _ _ a2 b2
theorem zTop_at (hz : zTop Ts st k x) (hk : k < st.length) : zTi Ts x (zkat st k) := by
  rcases hz with ⟨U, h1, h2⟩ | ⟨h1, _⟩
  · have : zkat st k = U := by rw [zkat_lt hk]; exact (List.getElem?_eq_some_iff.mp h1).2
    rw [this]; exact h2
  · omega
theorem ztop (k : Nat) (hl : 50 ≤ h.1.length) (h10 : M 10 = zMo F) (hR : zRf F) (hs : zSt M F (zTi Ts) st held most) (hk : k < 100) (q : ∀ y, zTop Ts st k y → KI y (zov h M)) : zCV xs (d + 1) 173 12 (some 10) [.int (nI k)] (zov h M) (zKI KI E) :=
  zM_cv hl h10 (zc173 hl h10 hR hs hk (fun U y h1 h2 => zKI_v (q y (Or.inl ⟨U, h1, h2⟩))) (fun z => zKI_v (q _ (Or.inr ⟨z, rfl⟩))))
theorem zis (k c : Nat) (hl : 50 ≤ h.1.length) (h10 : M 10 = zMo F) (hR : zRf F) (ht : zTbl M F Ts) (hs : zSt M F (zTi Ts) st held most) (hk : k < 100) (hc : c < 100) (q : KI (zB (zkhs st k c)) (zov h M)) : zCV xs (d + 2) 172 12 (some 10) [.int (nI k), .int (nI c)] (zov h M) (zKI KI E) := zM_cv hl h10 (zc172 hl h10 hR ht hs hk hc (zKI_v q))
/-- the tables, at a type's number -/
theorem zTi_kind (hl : 50 ≤ h.1.length) (h10 : M 10 = zMo F) (hR : zRf F) (ht : zTbl M F Ts) (hi : zTi Ts x T) (k : ztc T ≤ 10 → K (nI (ztc T))) : zGR (some 10) 12 22 (zov h M) fun z => zIA xs z x (zov h M) K := by
  obtain ⟨j, a1, a2, rfl⟩ := hi
  exact zM_kind hl h10 hR ht a2 a1 k
theorem zTi_one (hl : 50 ≤ h.1.length) (h10 : M 10 = zMo F) (hR : zRf F) (ht : zTbl M F Ts) (hi : zTi Ts x T) (hc : 5 ≤ ztc T) (k : ∀ y, zTi Ts y (zt1 T) → K y) : zGR (some 10) 12 23 (zov h M) fun z => zIA xs z x (zov h M) K := by
  obtain ⟨j, a1, a2, rfl⟩ := hi
  exact zM_one hl h10 hR ht a2 a1 hc (fun y y1 y2 => k _ ⟨y, y1, y2, rfl⟩)
theorem zTi_two (hl : 50 ≤ h.1.length) (h10 : M 10 = zMo F) (hR : zRf F) (ht : zTbl M F Ts) (hi : zTi Ts x T) (hc : ztc T = 5 ∨ ztc T = 7 ∨ ztc T = 9 ∨ ztc T = 10) (k : ∀ y, zTi Ts y (zt2 T) → K y) : zGR (some 10) 12 24 (zov h M) fun z => zIA xs z x (zov h M) K := by
  obtain ⟨j, a1, a2, rfl⟩ := hi
  exact zM_two hl h10 hR ht a2 a1 hc (fun y y1 y2 => k _ ⟨y, y1, y2, rfl⟩)
theorem zTi_sim (hl : 50 ≤ h.1.length) (h10 : M 10 = zMo F) (hR : zRf F) (ht : zTbl M F Ts) (hi : zTi Ts x T) (k : K (zB (ztsim T))) : zGR (some 10) 12 26 (zov h M) fun z => zBA z x (zov h M) K := by
  obtain ⟨j, a1, a2, rfl⟩ := hi
  obtain ⟨_, _, _, a4, Ki, On, Tw, De, Si, b1, b2, b3, b4, b5, cc1, cc2, cc3, cc4, cc5, rows⟩ := ht
  exact zM_gr hl h10 (hR (26, 29) (by decide)) (zM_bo hl b5 (rows j T a2).2.2.2.2 k)
theorem zkhs_c (hz : zkhs st k c = true) : k < st.length ∧ ztc (zkat st k) = c := by unfold zkhs at hz; simp at hz; exact hz
theorem zkm_c (hz : zkm (zkat st k) = true) : k < st.length ∧ (ztc (zkat st k) = 9 ∨ ztc (zkat st k) = 10) := by
  rw [zkm_hs] at hz
  rcases Bool.or_eq_true _ _ |>.mp hz with w | w
  · exact ⟨(zkhs_c w).1, Or.inl (zkhs_c w).2⟩
  · exact ⟨(zkhs_c w).1, Or.inr (zkhs_c w).2⟩
theorem zc176 (hl : 50 ≤ h.1.length) (h10 : M 10 = zMo F) (hR : zRf F) (ht : zTbl M F Ts) (hs : zSt M F (zTi Ts) st held most) (hh : held ≤ 100) (hc3 : 30 ≤ c) (hc7 : c ≤ 76) (hc : c < 256) (g : Q (.inl (some (.int (zB (zkrd c st held))))) (zov h M)) : zG xs (d + 3) (176, 0, lv_args 0 [zo (some 10), .int (nI c)], []) (zov h M) Q := by
  have hl16 := hs.2.2.2.1
  have hND := ht.2.2.1
  have one23 : ∀ {K : Int32 → Prop} {w : Int32} {U : Term}, zTi Ts w U → 5 ≤ ztc U → ∃ v, (K v → zIA xs (some 26) w (zov h M) K) ∧ zTi Ts v (zt1 U) := by
    rintro K w U ⟨j, a1, a2, rfl⟩ hc
    obtain ⟨_, _, _, t4, Ki, On, Tw, De, Si, b1, b2, b3, b4, b5, cc1, cc2, cc3, cc4, cc5, rows⟩ := ht
    obtain ⟨z, z1, z2⟩ := (rows j U a2).2.1
    rw [zq1_some (t4 j U a2).1 hc] at z2
    obtain ⟨y, y1, y2, rfl⟩ := z2
    exact ⟨nI y, fun k => zM_ia' hl b2 z1 k, y, y1, y2, rfl⟩
  have two24 : ∀ {K : Int32 → Prop} {w : Int32} {U : Term}, zTi Ts w U → (ztc U = 5 ∨ ztc U = 7 ∨ ztc U = 9 ∨ ztc U = 10) → ∃ v, (K v → zIA xs (some 27) w (zov h M) K) ∧ zTi Ts v (zt2 U) := by
    rintro K w U ⟨j, a1, a2, rfl⟩ hc
    obtain ⟨_, _, _, t4, Ki, On, Tw, De, Si, b1, b2, b3, b4, b5, cc1, cc2, cc3, cc4, cc5, rows⟩ := ht
    obtain ⟨z, z1, z2⟩ := (rows j U a2).2.2.1
    rw [zq2_some (t4 j U a2).1 hc] at z2
    obtain ⟨y, y1, y2, rfl⟩ := z2
    exact ⟨nI y, fun k => zM_ia' hl b3 z1 k, y, y1, y2, rfl⟩
  refine zm_176 (ztop 0 (d := d + 2) hl h10 hR hs (by decide) (fun x tx => ztop 1 (d := d + 2) hl h10 hR hs (by decide) (fun y ty => ?_)))
  refine ⟨fun z => ?_, fun z => ?_, fun z => ?_, fun z => ?_, fun z => ?_, fun z => ?_, fun z => ?_, fun z => ?_, fun z => ?_, fun z => ?_, fun z => ?_, fun z => ?_, fun z => ?_, fun z => ?_, fun z => ?_, fun z => ?_, fun z => ?_, fun z => ?_, fun z => ?_, fun z => ?_, fun z => ?_⟩
  · rcases z with z | z
    · obtain rfl : c = 32 := zcc hc (by decide) z
      have hz : zkrd 32 st held = decide (2 ≤ st.length) := rfl
      rw [hz] at g
      refine zM_gi hl h10 hs.1 (pk_lt 1 st.length (fun q => ?_) (fun q => ?_))
      · rw [decide_eq_true (by omega)] at g; exact ⟨Or.inr rfl, g⟩
      · rw [decide_eq_false (by omega)] at g; exact ⟨Or.inl rfl, g⟩
    · obtain rfl : c = 36 := zcc hc (by decide) z
      have hz : zkrd 36 st held = decide (2 ≤ st.length) := rfl
      rw [hz] at g
      refine zM_gi hl h10 hs.1 (pk_lt 1 st.length (fun q => ?_) (fun q => ?_))
      · rw [decide_eq_true (by omega)] at g; exact ⟨Or.inr rfl, g⟩
      · rw [decide_eq_false (by omega)] at g; exact ⟨Or.inl rfl, g⟩
  · rcases z with z | z | z | z | z
    · obtain rfl : c = 34 := zcc hc (by decide) z
      exact ⟨Or.inr rfl, g⟩
    · obtain rfl : c = 35 := zcc hc (by decide) z
      exact ⟨Or.inr rfl, g⟩
    · obtain rfl : c = 40 := zcc hc (by decide) z
      exact ⟨Or.inr rfl, g⟩
    · obtain rfl : c = 45 := zcc hc (by decide) z
      exact ⟨Or.inr rfl, g⟩
    · obtain rfl : c = 51 := zcc hc (by decide) z
      exact ⟨Or.inr rfl, g⟩
  · rcases z with z | z
    · obtain rfl : c = 37 := zcc hc (by decide) z
      exact zis 0 5 (d := d + 1) hl h10 hR ht hs (by decide) (by decide) ⟨zB_01 _, g⟩
    · obtain rfl : c = 38 := zcc hc (by decide) z
      exact zis 0 5 (d := d + 1) hl h10 hR ht hs (by decide) (by decide) ⟨zB_01 _, g⟩
  · obtain rfl : c = 41 := zcc hc (by decide) z
    exact zis 0 6 (d := d + 1) hl h10 hR ht hs (by decide) (by decide) ⟨zB_01 _, g⟩
  · obtain rfl : c = 44 := zcc hc (by decide) z
    exact zis 0 7 (d := d + 1) hl h10 hR ht hs (by decide) (by decide) ⟨zB_01 _, g⟩
  · obtain rfl : c = 46 := zcc hc (by decide) z
    have hz : zkrd 46 st held = (zkhs st 1 8 && zt1 (zkat st 1) == zkat st 0) := rfl
    rw [hz] at g
    refine zis 1 8 (d := d + 1) hl h10 hR ht hs (by decide) (by decide) ⟨fun z => ?_, fun z => ?_⟩
    · rw [zB_0.mp z] at g; exact ⟨Or.inl rfl, g⟩
    · rw [zBt z, Bool.true_and] at g
      obtain ⟨l1, l2⟩ := zkhs_c (zBt z)
      refine zTi_one hl h10 hR ht (zTop_at ty l1) (by omega) (fun w hw => ⟨fun e => ?_, fun e => ?_⟩)
      · rw [(zTi_eq hND hw (zTop_at tx (by omega))).mp e, beq_self_eq_true] at g; exact ⟨Or.inr rfl, g⟩
      · rw [beq_false_of_ne (fun q => e ((zTi_eq hND hw (zTop_at tx (by omega))).mpr q))] at g; exact ⟨Or.inl rfl, g⟩
  · obtain rfl : c = 47 := zcc hc (by decide) z
    have hz : zkrd 47 st held = (zkhs st 0 8 && decide (st.length + held < 12)) := rfl
    rw [hz] at g
    refine zis 0 8 (d := d + 1) hl h10 hR ht hs (by decide) (by decide) ⟨fun z => ?_, fun z => zM_gi hl h10 hs.1 (zM_gi hl h10 hs.2.1 ?_)⟩
    · rw [zB_0.mp z] at g; exact ⟨Or.inl rfl, g⟩
    · rw [zBt z, Bool.true_and] at g
      rw [nI_add]
      refine pk_lt (st.length + held) 12 (fun q => ?_) (fun q => ?_)
      · rw [decide_eq_true q] at g; exact ⟨Or.inr rfl, g⟩
      · rw [decide_eq_false (by omega)] at g; exact ⟨Or.inl rfl, g⟩
  · obtain rfl : c = 48 := zcc hc (by decide) z
    have hz : zkrd 48 st held = (zkhs st 0 8 || zkhs st 0 9 || zkhs st 0 4) := rfl
    rw [hz] at g
    refine zis 0 8 (d := d + 1) hl h10 hR ht hs (by decide) (by decide) ⟨fun z => ?_, fun z => ?_⟩
    · rw [zB_0.mp z, Bool.false_or] at g
      refine zis 0 9 (d := d + 1) hl h10 hR ht hs (by decide) (by decide) ⟨fun z => ?_, fun z => ?_⟩
      · rw [zB_0.mp z, Bool.false_or] at g
        refine zis 0 4 (d := d + 1) hl h10 hR ht hs (by decide) (by decide) ⟨fun z => ?_, fun z => ?_⟩
        · rw [zB_0.mp z] at g; exact ⟨Or.inl rfl, g⟩
        · rw [zBt z] at g; exact ⟨Or.inr rfl, g⟩
      · rw [zBt z, Bool.true_or] at g; exact ⟨Or.inr rfl, g⟩
    · rw [zBt z, Bool.true_or, Bool.true_or] at g; exact ⟨Or.inr rfl, g⟩
  · obtain rfl : c = 49 := zcc hc (by decide) z
    have hz : zkrd 49 st held = (zkhs st 0 8 || zkhs st 0 9) := rfl
    rw [hz] at g
    refine zis 0 8 (d := d + 1) hl h10 hR ht hs (by decide) (by decide) ⟨fun z => ?_, fun z => ?_⟩
    · rw [zB_0.mp z, Bool.false_or] at g
      refine zis 0 9 (d := d + 1) hl h10 hR ht hs (by decide) (by decide) ⟨fun z => ?_, fun z => ?_⟩
      · rw [zB_0.mp z] at g; exact ⟨Or.inl rfl, g⟩
      · rw [zBt z] at g; exact ⟨Or.inr rfl, g⟩
    · rw [zBt z, Bool.true_or] at g; exact ⟨Or.inr rfl, g⟩
  · obtain rfl : c = 50 := zcc hc (by decide) z
    exact zis 0 8 (d := d + 1) hl h10 hR ht hs (by decide) (by decide) ⟨zB_01 _, g⟩
  · rcases z with z | z
    · obtain rfl : c = 52 := zcc hc (by decide) z
      have hz : zkrd 52 st held = (zkm (zkat st 1) && zt1 (zkat st 1) == zkat st 0) := rfl
      rw [hz] at g
      refine zM_cv hl h10 (zc177 (k := 1) (d := d) hl h10 hR ht hs (by decide) (zKI_v ⟨fun z => ?_, fun z => ?_⟩))
      · rw [zB_0.mp z] at g; exact ⟨Or.inl rfl, g⟩
      · rw [zBt z, Bool.true_and] at g
        obtain ⟨l1, l2⟩ := zkm_c (zBt z)
        refine zTi_one hl h10 hR ht (zTop_at ty l1) (by omega) (fun w hw => ⟨fun e => ?_, fun e => ?_⟩)
        · rw [(zTi_eq hND hw (zTop_at tx (by omega))).mp e, beq_self_eq_true] at g; exact ⟨Or.inr rfl, g⟩
        · rw [beq_false_of_ne (fun q => e ((zTi_eq hND hw (zTop_at tx (by omega))).mpr q))] at g; exact ⟨Or.inl rfl, g⟩
    · obtain rfl : c = 54 := zcc hc (by decide) z
      have hz : zkrd 54 st held = (zkm (zkat st 1) && zt1 (zkat st 1) == zkat st 0) := rfl
      rw [hz] at g
      refine zM_cv hl h10 (zc177 (k := 1) (d := d) hl h10 hR ht hs (by decide) (zKI_v ⟨fun z => ?_, fun z => ?_⟩))
      · rw [zB_0.mp z] at g; exact ⟨Or.inl rfl, g⟩
      · rw [zBt z, Bool.true_and] at g
        obtain ⟨l1, l2⟩ := zkm_c (zBt z)
        refine zTi_one hl h10 hR ht (zTop_at ty l1) (by omega) (fun w hw => ⟨fun e => ?_, fun e => ?_⟩)
        · rw [(zTi_eq hND hw (zTop_at tx (by omega))).mp e, beq_self_eq_true] at g; exact ⟨Or.inr rfl, g⟩
        · rw [beq_false_of_ne (fun q => e ((zTi_eq hND hw (zTop_at tx (by omega))).mpr q))] at g; exact ⟨Or.inl rfl, g⟩
  · obtain rfl : c = 53 := zcc hc (by decide) z
    have hz : zkrd 53 st held = (zkm (zkat st 2) && zt1 (zkat st 2) == zkat st 0 && zkhs st 1 6 && zt2 (zkat st 2) == zt1 (zkat st 1)) := rfl
    rw [hz] at g
    refine zM_cv hl h10 (zc177 (k := 2) (d := d) hl h10 hR ht hs (by decide) (zKI_v ⟨fun z => ?_, fun z => zM_gr hl h10 (hR (23, 26) (by decide)) (ztop 2 (d := d + 2) hl h10 hR hs (by decide) (fun w tw => ?_))⟩))
    · rw [zB_0.mp z] at g; exact ⟨Or.inl rfl, g⟩
    rw [zBt z, Bool.true_and] at g
    obtain ⟨l1, l2⟩ := zkm_c (zBt z)
    have hw := zTop_at tw l1
    have hx0 := zTop_at tx (show 0 < st.length by omega)
    have hy0 := zTop_at ty (show 1 < st.length by omega)
    obtain ⟨v, hv1, hv2⟩ := one23 hw (by omega)
    refine hv1 ⟨fun e => ?_, fun e => ?_⟩
    · rw [(zTi_eq hND hv2 hx0).mp e, beq_self_eq_true, Bool.true_and] at g
      refine zTi_kind hl h10 hR ht hy0 (fun _ => pk_eq (ztc (zkat st 1)) 6 (fun e6 => ?_) (fun e6 => ?_))
      · have h6 : zkhs st 1 6 = true := by unfold zkhs; rw [decide_eq_true (show 1 < st.length by omega), e6]; rfl
        rw [h6, Bool.true_and] at g
        refine zTi_one hl h10 hR ht hy0 (by omega) (fun u hu => zM_gr hl h10 (hR (24, 27) (by decide)) (ztop 2 (d := d + 2) hl h10 hR hs (by decide) (fun w2 tw2 => ?_)))
        obtain ⟨v3, hv3, hv4⟩ := two24 (zTop_at tw2 l1) (by omega)
        refine hv3 ⟨fun e => ?_, fun e => ?_⟩
        · rw [(zTi_eq hND hu hv4).mp e, beq_self_eq_true] at g; exact ⟨Or.inr rfl, g⟩
        · rw [beq_false_of_ne (fun q => e ((zTi_eq hND hu hv4).mpr q.symm))] at g; exact ⟨Or.inl rfl, g⟩
      · have h6 : zkhs st 1 6 = false := by unfold zkhs; rw [beq_false_of_ne e6, Bool.and_false]
        rw [h6] at g; exact ⟨Or.inl rfl, g⟩
    · rw [beq_false_of_ne (fun q => e ((zTi_eq hND hv2 hx0).mpr q))] at g; exact ⟨Or.inl rfl, g⟩
  · rcases z with z | z
    · obtain rfl : c = 55 := zcc hc (by decide) z
      have hz : zkrd 55 st held = (zkhs st 0 1 && zkhs st 1 1) := rfl
      rw [hz] at g
      refine zis 0 1 (d := d + 1) hl h10 hR ht hs (by decide) (by decide) ⟨fun z => ?_, fun z => zis 1 1 (d := d + 1) hl h10 hR ht hs (by decide) (by decide) ⟨fun z2 => ?_, fun z2 => ?_⟩⟩
      · rw [zB_0.mp z] at g; exact ⟨Or.inl rfl, g⟩
      · rw [zBt z, zB_0.mp z2] at g; exact ⟨Or.inl rfl, g⟩
      · rw [zBt z, zBt z2] at g; exact ⟨Or.inr rfl, g⟩
    · obtain rfl : c = 56 := zcc hc (by decide) z
      have hz : zkrd 56 st held = (zkhs st 0 1 && zkhs st 1 1) := rfl
      rw [hz] at g
      refine zis 0 1 (d := d + 1) hl h10 hR ht hs (by decide) (by decide) ⟨fun z => ?_, fun z => zis 1 1 (d := d + 1) hl h10 hR ht hs (by decide) (by decide) ⟨fun z2 => ?_, fun z2 => ?_⟩⟩
      · rw [zB_0.mp z] at g; exact ⟨Or.inl rfl, g⟩
      · rw [zBt z, zB_0.mp z2] at g; exact ⟨Or.inl rfl, g⟩
      · rw [zBt z, zBt z2] at g; exact ⟨Or.inr rfl, g⟩
  · rcases z with z | z | z
    · obtain rfl : c = 57 := zcc hc (by decide) z
      exact zis 0 1 (d := d + 1) hl h10 hR ht hs (by decide) (by decide) ⟨zB_01 _, g⟩
    · obtain rfl : c = 58 := zcc hc (by decide) z
      exact zis 0 1 (d := d + 1) hl h10 hR ht hs (by decide) (by decide) ⟨zB_01 _, g⟩
    · obtain rfl : c = 59 := zcc hc (by decide) z
      exact zis 0 1 (d := d + 1) hl h10 hR ht hs (by decide) (by decide) ⟨zB_01 _, g⟩
  · rcases z with z | z | z | z
    · obtain rfl : c = 60 := zcc hc (by decide) z
      have hz : zkrd 60 st held = (zkn (zkat st 0) && zkn (zkat st 1)) := rfl
      rw [hz] at g
      refine zM_cv hl h10 (zc178 (k := 0) (d := d) hl h10 hR ht hs (by decide) (zKI_v ⟨fun z => ?_, fun z => zM_cv hl h10 (zc178 (k := 1) (d := d) hl h10 hR ht hs (by decide) (zKI_v ⟨fun z2 => ?_, fun z2 => ?_⟩))⟩))
      · rw [zB_0.mp z] at g; exact ⟨Or.inl rfl, g⟩
      · rw [zBt z, zB_0.mp z2] at g; exact ⟨Or.inl rfl, g⟩
      · rw [zBt z, zBt z2] at g; exact ⟨Or.inr rfl, g⟩
    · obtain rfl : c = 61 := zcc hc (by decide) z
      have hz : zkrd 61 st held = (zkn (zkat st 0) && zkn (zkat st 1)) := rfl
      rw [hz] at g
      refine zM_cv hl h10 (zc178 (k := 0) (d := d) hl h10 hR ht hs (by decide) (zKI_v ⟨fun z => ?_, fun z => zM_cv hl h10 (zc178 (k := 1) (d := d) hl h10 hR ht hs (by decide) (zKI_v ⟨fun z2 => ?_, fun z2 => ?_⟩))⟩))
      · rw [zB_0.mp z] at g; exact ⟨Or.inl rfl, g⟩
      · rw [zBt z, zB_0.mp z2] at g; exact ⟨Or.inl rfl, g⟩
      · rw [zBt z, zBt z2] at g; exact ⟨Or.inr rfl, g⟩
    · obtain rfl : c = 62 := zcc hc (by decide) z
      have hz : zkrd 62 st held = (zkn (zkat st 0) && zkn (zkat st 1)) := rfl
      rw [hz] at g
      refine zM_cv hl h10 (zc178 (k := 0) (d := d) hl h10 hR ht hs (by decide) (zKI_v ⟨fun z => ?_, fun z => zM_cv hl h10 (zc178 (k := 1) (d := d) hl h10 hR ht hs (by decide) (zKI_v ⟨fun z2 => ?_, fun z2 => ?_⟩))⟩))
      · rw [zB_0.mp z] at g; exact ⟨Or.inl rfl, g⟩
      · rw [zBt z, zB_0.mp z2] at g; exact ⟨Or.inl rfl, g⟩
      · rw [zBt z, zBt z2] at g; exact ⟨Or.inr rfl, g⟩
    · obtain rfl : c = 63 := zcc hc (by decide) z
      have hz : zkrd 63 st held = (zkn (zkat st 0) && zkn (zkat st 1)) := rfl
      rw [hz] at g
      refine zM_cv hl h10 (zc178 (k := 0) (d := d) hl h10 hR ht hs (by decide) (zKI_v ⟨fun z => ?_, fun z => zM_cv hl h10 (zc178 (k := 1) (d := d) hl h10 hR ht hs (by decide) (zKI_v ⟨fun z2 => ?_, fun z2 => ?_⟩))⟩))
      · rw [zB_0.mp z] at g; exact ⟨Or.inl rfl, g⟩
      · rw [zBt z, zB_0.mp z2] at g; exact ⟨Or.inl rfl, g⟩
      · rw [zBt z, zBt z2] at g; exact ⟨Or.inr rfl, g⟩
  · obtain rfl : c = 64 := zcc hc (by decide) z
    exact zM_cv hl h10 (zc178 (k := 0) (d := d) hl h10 hR ht hs (by decide) (zKI_v ⟨zB_01 _, g⟩))
  · obtain rfl : c = 67 := zcc hc (by decide) z
    exact zis 0 3 (d := d + 1) hl h10 hR ht hs (by decide) (by decide) ⟨zB_01 _, g⟩
  · obtain rfl : c = 68 := zcc hc (by decide) z
    have hz : zkrd 68 st held = (ztsim (zkat st 0) && zkat st 0 == zkat st 1) := rfl
    rw [hz] at g
    have a0 : ∀ i, st.length ≤ i → zkat st i = .arg 0 := fun i hi => by unfold zkat; rw [List.getD_eq_getElem?_getD, List.getElem?_eq_none hi]; rfl
    refine zM_gi hl h10 hs.1 (pk_lt 1 st.length (fun q => ⟨fun e => ?_, fun e => ?_⟩) (fun q => ?_))
    · have e2 := (zTi_eq hND (zTop_at tx (by omega)) (zTop_at ty q)).mp e
      rw [← e2, beq_self_eq_true, Bool.and_true] at g
      refine zTi_sim hl h10 hR ht (zTop_at tx (by omega)) ⟨fun z => ?_, fun z => ?_⟩
      · rw [zB_0.mp z] at g; exact ⟨Or.inl rfl, g⟩
      · rw [zBt z] at g; exact ⟨Or.inr rfl, g⟩
    · rw [beq_false_of_ne (fun w => e ((zTi_eq hND (zTop_at tx (by omega)) (zTop_at ty q)).mpr w)), Bool.and_false] at g; exact ⟨Or.inl rfl, g⟩
    · have : (ztsim (zkat st 0) && zkat st 0 == zkat st 1) = false := by
        rw [a0 1 q]
        by_cases hq : zkat st 0 = .arg 0
        · rw [hq]; rfl
        · rw [beq_false_of_ne hq, Bool.and_false]
      rw [this] at g; exact ⟨Or.inl rfl, g⟩
  · obtain rfl : c = 75 := zcc hc (by decide) z
    have hz : zkrd 75 st held = (zkhs st 0 4 && zkhs st 1 4) := rfl
    rw [hz] at g
    refine zis 0 4 (d := d + 1) hl h10 hR ht hs (by decide) (by decide) ⟨fun z => ?_, fun z => zis 1 4 (d := d + 1) hl h10 hR ht hs (by decide) (by decide) ⟨fun z2 => ?_, fun z2 => ?_⟩⟩
    · rw [zB_0.mp z] at g; exact ⟨Or.inl rfl, g⟩
    · rw [zBt z, zB_0.mp z2] at g; exact ⟨Or.inl rfl, g⟩
    · rw [zBt z, zBt z2] at g; exact ⟨Or.inr rfl, g⟩
  · obtain rfl : c = 76 := zcc hc (by decide) z
    have hz : zkrd 76 st held = (ztsim (zkat st 0) || zkhs st 0 0) := rfl
    rw [hz, Bool.or_comm] at g
    refine zis 0 0 (d := d + 1) hl h10 hR ht hs (by decide) (by decide) ⟨fun z => zM_gi hl h10 hs.1 (pk_lt 0 st.length (fun q => ?_) (fun q => ?_)), fun z => ?_⟩
    · rw [zB_0.mp z, Bool.false_or] at g
      refine zTi_sim hl h10 hR ht (zTop_at tx q) ⟨fun z => ?_, fun z => ?_⟩
      · rw [zB_0.mp z] at g; exact ⟨Or.inl rfl, g⟩
      · rw [zBt z] at g; exact ⟨Or.inr rfl, g⟩
    · have : zkat st 0 = .arg 0 := by unfold zkat; rw [List.getD_eq_getElem?_getD, List.getElem?_eq_none q]; rfl
      rw [zB_0.mp z, this] at g; exact ⟨Or.inl rfl, g⟩
    · rw [zBt z, Bool.true_or] at g; exact ⟨Or.inr rfl, g⟩
  · have n32 : c ≠ 32 := zcx (k := 32) (fun w => z.1 (Or.inl w))
    have n36 : c ≠ 36 := zcx (k := 36) (fun w => z.1 (Or.inr (w)))
    have n34 : c ≠ 34 := zcx (k := 34) (fun w => z.2.1 (Or.inl w))
    have n35 : c ≠ 35 := zcx (k := 35) (fun w => z.2.1 (Or.inr (Or.inl w)))
    have n40 : c ≠ 40 := zcx (k := 40) (fun w => z.2.1 (Or.inr (Or.inr (Or.inl w))))
    have n45 : c ≠ 45 := zcx (k := 45) (fun w => z.2.1 (Or.inr (Or.inr (Or.inr (Or.inl w)))))
    have n51 : c ≠ 51 := zcx (k := 51) (fun w => z.2.1 (Or.inr (Or.inr (Or.inr (Or.inr (w))))))
    have n37 : c ≠ 37 := zcx (k := 37) (fun w => z.2.2.1 (Or.inl w))
    have n38 : c ≠ 38 := zcx (k := 38) (fun w => z.2.2.1 (Or.inr (w)))
    have n41 : c ≠ 41 := zcx (k := 41) z.2.2.2.1
    have n44 : c ≠ 44 := zcx (k := 44) z.2.2.2.2.1
    have n46 : c ≠ 46 := zcx (k := 46) z.2.2.2.2.2.1
    have n47 : c ≠ 47 := zcx (k := 47) z.2.2.2.2.2.2.1
    have n48 : c ≠ 48 := zcx (k := 48) z.2.2.2.2.2.2.2.1
    have n49 : c ≠ 49 := zcx (k := 49) z.2.2.2.2.2.2.2.2.1
    have n50 : c ≠ 50 := zcx (k := 50) z.2.2.2.2.2.2.2.2.2.1
    have n52 : c ≠ 52 := zcx (k := 52) (fun w => z.2.2.2.2.2.2.2.2.2.2.1 (Or.inl w))
    have n54 : c ≠ 54 := zcx (k := 54) (fun w => z.2.2.2.2.2.2.2.2.2.2.1 (Or.inr (w)))
    have n53 : c ≠ 53 := zcx (k := 53) z.2.2.2.2.2.2.2.2.2.2.2.1
    have n55 : c ≠ 55 := zcx (k := 55) (fun w => z.2.2.2.2.2.2.2.2.2.2.2.2.1 (Or.inl w))
    have n56 : c ≠ 56 := zcx (k := 56) (fun w => z.2.2.2.2.2.2.2.2.2.2.2.2.1 (Or.inr (w)))
    have n57 : c ≠ 57 := zcx (k := 57) (fun w => z.2.2.2.2.2.2.2.2.2.2.2.2.2.1 (Or.inl w))
    have n58 : c ≠ 58 := zcx (k := 58) (fun w => z.2.2.2.2.2.2.2.2.2.2.2.2.2.1 (Or.inr (Or.inl w)))
    have n59 : c ≠ 59 := zcx (k := 59) (fun w => z.2.2.2.2.2.2.2.2.2.2.2.2.2.1 (Or.inr (Or.inr (w))))
    have n60 : c ≠ 60 := zcx (k := 60) (fun w => z.2.2.2.2.2.2.2.2.2.2.2.2.2.2.1 (Or.inl w))
    have n61 : c ≠ 61 := zcx (k := 61) (fun w => z.2.2.2.2.2.2.2.2.2.2.2.2.2.2.1 (Or.inr (Or.inl w)))
    have n62 : c ≠ 62 := zcx (k := 62) (fun w => z.2.2.2.2.2.2.2.2.2.2.2.2.2.2.1 (Or.inr (Or.inr (Or.inl w))))
    have n63 : c ≠ 63 := zcx (k := 63) (fun w => z.2.2.2.2.2.2.2.2.2.2.2.2.2.2.1 (Or.inr (Or.inr (Or.inr (w)))))
    have n64 : c ≠ 64 := zcx (k := 64) z.2.2.2.2.2.2.2.2.2.2.2.2.2.2.2.1
    have n67 : c ≠ 67 := zcx (k := 67) z.2.2.2.2.2.2.2.2.2.2.2.2.2.2.2.2.1
    have n68 : c ≠ 68 := zcx (k := 68) z.2.2.2.2.2.2.2.2.2.2.2.2.2.2.2.2.2.1
    have n75 : c ≠ 75 := zcx (k := 75) z.2.2.2.2.2.2.2.2.2.2.2.2.2.2.2.2.2.2.1
    have n76 : c ≠ 76 := zcx (k := 76) z.2.2.2.2.2.2.2.2.2.2.2.2.2.2.2.2.2.2.2
    refine pk_lt 64 c (fun q => ?_) (fun q => ?_)
    · have hz : zkrd c st held = zkhs st 0 2 := by
        unfold zkrd
        rw [if_neg (by omega), if_neg (by omega), if_neg (by omega), if_neg (by omega), if_neg (by omega), if_neg (by omega), if_neg (by omega), if_neg (by omega), if_neg (by omega), if_neg (by omega), if_neg (by omega), if_neg (by omega), if_neg (by omega), if_neg (by omega), if_neg (by omega), if_neg (by omega), if_neg (by omega), if_neg (by omega), if_neg (by omega), if_neg (by omega), if_neg (by omega)]
      rw [hz] at g
      exact zis 0 2 (d := d + 1) hl h10 hR ht hs (by decide) (by decide) ⟨zB_01 _, g⟩
    · have hz : zkrd c st held = decide (1 ≤ st.length) := by
        unfold zkrd
        rw [if_neg (by omega), if_pos (by omega)]
      rw [hz] at g
      refine zM_gi hl h10 hs.1 (pk_lt 0 st.length (fun q => ?_) (fun q => ?_))
      · rw [decide_eq_true (by omega)] at g; exact ⟨Or.inr rfl, g⟩
      · rw [decide_eq_false (by omega)] at g; exact ⟨Or.inl rfl, g⟩
end RCK
/-! the reference's check: what it keeps -/
def zcS : List Nat := [10, 19, 20, 25, 26, 27, 28, 29, 30, 31, 32, 33, 34, 35, 36, 38, 39, 40, 41, 44, 45, 46, 47, 48]
def zcT : List Nat := [5, 21, 27, 28, 49, 50, 51, 52]
/-- the arrays that a value's reading writes on -/
def zSc4 (M : Nat → zE) : Prop := ∃ To Cl A B, M 19 = zAi To ∧ To.length = 100 ∧ M 20 = zAi Cl ∧ Cl.length = 100 ∧ M 35 = zAi A ∧ M 36 = zAi B ∧ A.length = 60 ∧ B.length = 60
/-- the frames' arrays -/
def zfrl : List (Nat × Nat) := [(38, 12), (39, 12), (40, 12), (41, 12), (44, 144), (45, 12), (46, 144), (47, 12)]
def zFsh (M : Nat → zE) : Prop := ∀ q ∈ zfrl, ∃ L : List Int32, M q.1 = zAi L ∧ L.length = q.2
def zKS (M0 M : Nat → zE) (F0 F : Nat → Value) (Ts st : List Term) (held most ins : Nat) (ce : List (Nat × Nat × Nat)) (lo : List (Nat × Nat)) : Prop := zPo M F ce lo ∧ zSm zcS M0 M ∧ zSm zcT F0 F ∧ zTbl M F Ts ∧ zSt M F (zTi Ts) st held most ∧ F 52 = .int (nI ins) ∧ zSc4 M ∧ zFsh M
/-- types that many instructions make -/
def zStd : List Term := [.arg 0, .arg 1, .arg 2, .arg 3, .div (.arg 6) (.arg 3), .add (.div (.arg 5) (.arg 2)) (.arg 3), .add (.div (.arg 5) (.arg 3)) (.arg 3), .div (.arg 6) (.add (.div (.arg 5) (.arg 2)) (.arg 3)), .div (.arg 6) (.add (.div (.arg 5) (.arg 3)) (.arg 3))]
def zns (Ts : List Term) : Nat := (Ts.filter fun T => !(zStd.contains T)).length
theorem zND_tl {T : Term} {Ts : List Term} (h : zND (T :: Ts)) : zND Ts ∧ T ∉ Ts := by
  refine ⟨fun i j U h1 h2 => ?_, fun hm => ?_⟩
  · have := h (i + 1) (j + 1) U (by rw [List.getElem?_cons_succ]; exact h1) (by rw [List.getElem?_cons_succ]; exact h2)
    omega
  · obtain ⟨i, hi⟩ := List.getElem?_of_mem hm
    have := h 0 (i + 1) T rfl (by rw [List.getElem?_cons_succ]; exact hi)
    omega
theorem zflt {S : List Term} {p q : Term → Bool} : ∀ (l : List Term), (∀ x, p x = true → q x = true ∨ x ∈ S) → (l.filter p).length ≤ (l.filter q).length + (l.filter fun x => S.contains x).length
  | [], _ => Nat.le_refl _
  | x :: l, h => by
    have ih := zflt (S := S) (p := p) (q := q) l h
    rw [List.filter_cons, List.filter_cons, List.filter_cons]
    cases hp : p x with
    | false =>
      simp only [Bool.false_eq_true, if_false]
      split <;> split <;> (try simp only [List.length_cons]) <;> omega
    | true =>
      simp only [if_true, List.length_cons]
      rcases h x hp with hq | hq
      · rw [hq]; simp only [if_true, List.length_cons]; split <;> (try simp only [List.length_cons]) <;> omega
      · rw [List.contains_iff_mem.mpr hq]; simp only [if_true, List.length_cons]; split <;> (try simp only [List.length_cons]) <;> omega
theorem zone1 (s : Term) : ∀ (l : List Term), zND l → (l.filter fun x => [s].contains x).length ≤ 1
  | [], _ => Nat.zero_le _
  | x :: l, h => by
    obtain ⟨h1, h2⟩ := zND_tl h
    rw [List.filter_cons]
    by_cases hx : x = s
    · subst hx
      have : (l.filter fun y => [x].contains y) = [] := List.filter_eq_nil_iff.mpr (fun y hy hc => by
        simp at hc
        subst hc
        exact h2 hy)
      rw [this]
      split <;> simp
    · have ih := zone1 s l h1
      rw [if_neg (by simp; exact hx)]
      exact ih
theorem zstdc : ∀ (S l : List Term), zND l → (l.filter fun x => S.contains x).length ≤ S.length
  | [], l, _ => by
    have : (l.filter fun x => ([] : List Term).contains x) = [] := List.filter_eq_nil_iff.mpr (fun y hy hc => by simp at hc)
    rw [this]; exact Nat.le_refl _
  | s :: S, l, h => by
    have a := zflt (S := [s]) (p := fun x => (s :: S).contains x) (q := fun x => S.contains x) l (fun x hx => by
      simp at hx
      rcases hx with q | q
      · exact Or.inr (by simp [q])
      · exact Or.inl (by simp [q]))
    have b := zstdc S l h
    have c := zone1 s l h
    rw [List.length_cons]
    omega
theorem zns_len {Ts : List Term} (h : zND Ts) : Ts.length ≤ zns Ts + 9 := by
  have a := zflt (S := zStd) (p := fun _ => true) (q := fun T => !(zStd.contains T)) Ts (fun x _ => by
    cases hx : zStd.contains x with
    | true => exact Or.inr (List.contains_iff_mem.mp hx)
    | false => exact Or.inl rfl)
  rw [List.filter_eq_self.mpr (fun _ _ => rfl)] at a
  have b := zstdc zStd Ts h
  have : zStd.length = 9 := rfl
  unfold zns
  omega
theorem zns_app {Ts S : List Term} : zns (Ts ++ S) ≤ zns Ts + S.length := by
  unfold zns
  rw [List.filter_append, List.length_append]
  have := List.length_filter_le (fun T => !(zStd.contains T)) S
  omega
theorem zns_one {Ts : List Term} {T : Term} (h : T ∈ zStd) : zns (Ts ++ [T]) = zns Ts := by
  unfold zns
  rw [List.filter_append]
  have : ([T].filter fun T => !(zStd.contains T)) = [] := List.filter_eq_nil_iff.mpr (fun y hy hc => by
    simp at hy
    subst hy
    rw [List.contains_iff_mem.mpr h] at hc
    cases hc)
  rw [this, List.append_nil]
section RKS
variable {xs : List Value} {d : Nat} {h : zH} {M0 M M' : Nat → zE} {F0 F F' : Nat → Value} {Q : zO → zH → Prop} {Ts Ts' : List Term} {T U : Term} {N : List zNt} {fr : Nat} {st : List Term} {held most ins c : Nat} {ce ce' : List (Nat × Nat × Nat)} {lo lo' : List (Nat × Nat)} {x y : Int32} {KI : Int32 → zH → Prop} {E : Nat → zH → Prop}
/-- what stays while the check goes on -/
def zKC (M0 : Nat → zE) (F0 : Nat → Value) (N : List zNt) (fr : Nat) : Prop := zNr M0 F0 N fr ∧ zNx M0 N ∧ zGd N ∧ F0 6 = .int (nI fr) ∧ fr ≤ 8660
theorem zKS_c (hk : zKS M0 M F0 F Ts st held most ins ce lo) (hc : zKC M0 F0 N fr) : M 10 = zMo F ∧ zRf F ∧ zNr M F N fr ∧ zNx M N ∧ F 6 = .int (nI fr) := ⟨hk.1.1, hk.1.2.1, zNr_sm hc.1 hk.2.1 (hk.2.2.1 8 (by decide)) (by decide), zNx_sm hc.2.1 hk.2.1 (by decide), (hk.2.2.1 6 (by decide)).trans hc.2.2.2.1⟩
theorem zFsh_sm {S : List Nat} (hf : zFsh M) (hM : zSm S M M') (hS : (S.all fun q => !([38, 39, 40, 41, 44, 45, 46, 47, 48].contains q)) = true) : zFsh M' := fun q hq => by
  obtain ⟨L, h1, h2⟩ := hf q hq
  refine ⟨L, (hM q.1 (fun z => ?_)).trans h1, h2⟩
  have := List.all_eq_true.mp hS q.1 z
  have all : ∀ q ∈ zfrl, ([38, 39, 40, 41, 44, 45, 46, 47, 48] : List Nat).contains q.1 = true := by decide
  rw [all q hq] at this
  cases this
theorem zKS_up {S T : List Nat} (hk : zKS M0 M F0 F Ts st held most ins ce lo) (hM : zSm S M M') (hF : zSm T F F') (hp : zPo M' F' ce' lo') (ht : zTbl M' F' Ts') (hx : ∀ x T, zTi Ts x T → zTi Ts' x T) (hsc : zSc4 M') (hS : (S.all fun q => zcS.contains q && !([38, 39, 40, 41, 44, 45, 46, 47, 48].contains q)) = true) (hT : (T.all fun q => zcT.contains q && !([49, 50, 51, 52].contains q)) = true) : zKS M0 M' F0 F' Ts' st held most ins ce' lo' := by
  obtain ⟨a1, a2, a3, a4, a5, a6, a7, a8⟩ := hk
  have s1 : ∀ k, k ∈ S → k ∈ zcS ∧ ([38, 39, 40, 41, 44, 45, 46, 47, 48] : List Nat).contains k = false := fun k hk => by
    have := List.all_eq_true.mp hS k hk
    simp only [Bool.and_eq_true, Bool.not_eq_true'] at this
    exact ⟨List.contains_iff_mem.mp this.1, this.2⟩
  have t1 : ∀ k, k ∈ T → k ∈ zcT ∧ ([49, 50, 51, 52] : List Nat).contains k = false := fun k hk => by
    have := List.all_eq_true.mp hT k hk
    simp only [Bool.and_eq_true, Bool.not_eq_true'] at this
    exact ⟨List.contains_iff_mem.mp this.1, this.2⟩
  have nS : S.contains 48 = false := by
    cases hc : S.contains 48 with
    | false => rfl
    | true => have := (s1 48 (List.contains_iff_mem.mp hc)).2; cases this
  have nT : ∀ k, k ∈ ([49, 50, 51, 52] : List Nat) → T.contains k = false := fun k hk => by
    cases hc : T.contains k with
    | false => rfl
    | true => have := (t1 k (List.contains_iff_mem.mp hc)).2; rw [List.contains_iff_mem.mpr hk] at this; cases this
  refine ⟨hp, zSm_trans a2 hM (fun _ z => z) (fun k z => (s1 k z).1), zSm_trans a3 hF (fun _ z => z) (fun k z => (t1 k z).1), ht, zSt_P (zSt_sm a5 hM hF nS ?_) hx, ?_, hsc, zFsh_sm a8 hM ?_⟩
  · simp only [List.all_cons, List.all_nil, Bool.and_true, nT 49 (by decide), nT 50 (by decide), nT 51 (by decide)]
    rfl
  · rw [hF 52 (fun z => by have := nT 52 (by decide); rw [List.contains_iff_mem.mpr z] at this; cases this)]
    exact a6
  · exact List.all_eq_true.mpr (fun k hk => by rw [(s1 k hk).2]; rfl)
theorem zSc4_sm {S : List Nat} (hs : zSc4 M) (hM : zSm S M M') (hS : ([19, 20, 35, 36].all fun q => !(S.contains q)) = true) : zSc4 M' := by
  have nm : ∀ k, k ∈ ([19, 20, 35, 36] : List Nat) → k ∉ S := fun k hk z => by
    have := List.all_eq_true.mp hS k hk
    rw [List.contains_iff_mem.mpr z] at this
    cases this
  obtain ⟨To, Cl, A, B, b1, b2, b3, b4, b5, b6, b7, b8⟩ := hs
  exact ⟨To, Cl, A, B, (hM 19 (nm 19 (by decide))).trans b1, b2, (hM 20 (nm 20 (by decide))).trans b3, b4, (hM 35 (nm 35 (by decide))).trans b5, (hM 36 (nm 36 (by decide))).trans b6, b7, b8⟩
theorem zTi_in (hi : zIn Ts T Ts') : (∀ x U, zTi Ts x U → zTi Ts' x U) ∧ zns Ts' ≤ zns Ts + 1 ∧ (T ∈ zStd → zns Ts' = zns Ts) := by
  rcases hi with ⟨_, rfl⟩ | ⟨_, rfl⟩
  · exact ⟨fun _ _ z => z, by omega, fun _ => rfl⟩
  · exact ⟨zTi_app, by have := zns_app (Ts := Ts) (S := [T]); simpa using this, fun hm => zns_one hm⟩
/-- a type's number -/
theorem zmk {a b : Int32} (T : Term) (hl : 50 ≤ h.1.length) (hk : zKS M0 M F0 F Ts st held most ins ce lo) (hB : zns Ts ≤ 205) (hT : zTok T) (hd : ztdep T ≤ 200) (ha : zpx Ts (zq1 T) a) (hb : zpx Ts (zq2 T) b)
    (q : ∀ M' F' Ts' y, zKS M0 M' F0 F' Ts' st held most ins ce lo → zTi Ts' y T → (∀ x U, zTi Ts x U → zTi Ts' x U) → zns Ts' ≤ zns Ts + 1 → (T ∈ zStd → zns Ts' = zns Ts) → zSm [10, 25, 26, 27, 28, 29] M M' → KI y (zov h M')) : zCV xs (d + 1) 165 12 (some 10) [.int (nI (ztc T)), .int a, .int b] (zov h M) (zKI KI E) := by
  have hlen := zns_len hk.2.2.2.1.2.2.1
  refine zM_cv hl hk.1.1 (zc165 hl hk.1.1 hk.1.2.1 hk.2.2.2.1 hT hd ha hb (Or.inr (by omega)) (fun M' F' Ts' i hin h10' hR' ht' hi hi2 sM sF => zKI_v ?_))
  obtain ⟨z1, z2, z3⟩ := zTi_in hin
  refine q M' F' Ts' _ (zKS_up hk sM sF (zPo_sm hk.1 h10' sM sF (by decide) (by decide)) ht' z1 (zSc4_sm hk.2.2.2.2.2.2.1 sM (by decide)) (by decide) (by decide)) ⟨i, hi2, hi, rfl⟩ z1 z2 z3 sM
theorem zmk0 (c : Nat) (hc : c ≤ 3) (hl : 50 ≤ h.1.length) (hk : zKS M0 M F0 F Ts st held most ins ce lo) (hB : zns Ts ≤ 205)
    (q : ∀ M' F' Ts' y, zKS M0 M' F0 F' Ts' st held most ins ce lo → zTi Ts' y (.arg c) → (∀ x U, zTi Ts x U → zTi Ts' x U) → zns Ts' = zns Ts → zSm [10, 25, 26, 27, 28, 29] M M' → KI y (zov h M')) : zCV xs (d + 2) 166 12 (some 10) [.int (nI c)] (zov h M) (zKI KI E) := by
  have hlen := zns_len hk.2.2.2.1.2.2.1
  refine zM_cv hl hk.1.1 (zc166 hl hk.1.1 hk.1.2.1 hk.2.2.2.1 (by omega) (Or.inr (by omega)) (fun M' F' Ts' i hin h10' hR' ht' hi hi2 sM sF => zKI_v ?_))
  obtain ⟨z1, z2, z3⟩ := zTi_in hin
  have hm : Term.arg c ∈ zStd := by
    have : c = 0 ∨ c = 1 ∨ c = 2 ∨ c = 3 := by omega
    rcases this with rfl | rfl | rfl | rfl <;> decide
  exact q M' F' Ts' _ (zKS_up hk sM sF (zPo_sm hk.1 h10' sM sF (by decide) (by decide)) ht' z1 (zSc4_sm hk.2.2.2.2.2.2.1 sM (by decide)) (by decide) (by decide)) ⟨i, hi2, hi, rfl⟩ z1 (z3 hm) sM
/-- the field `wrong` changes -/
theorem zKS_5 (hk : zKS M0 M F0 F Ts st held most ins ce lo) {v : Value} : zKS M0 (zub M 10 (zMo (zub F 5 v))) F0 (zub F 5 v) Ts st held most ins ce lo := by
  have sM : zSm [10] M (zub M 10 (zMo (zub F 5 v))) := zSm_ub zSm_refl (by decide)
  have sF : zSm [5] F (zub F 5 v) := zSm_ub zSm_refl (by decide)
  exact zKS_up hk sM sF (zPo_sm hk.1 zub_s sM sF (by decide) (by decide)) (zTbl_sm hk.2.2.2.1 sM (sF 21 (by decide)) (by decide)) (fun _ _ z => z) (zSc4_sm hk.2.2.2.2.2.2.1 sM (by decide)) (by decide) (by decide)
/-- bad(first[i]) -/
theorem zbad {i : Nat} {e : zNt} (hl : 50 ≤ h.1.length) (hc : zKC M0 F0 N fr) (hk : zKS M0 M F0 F Ts st held most ins ce lo) (he : N[i]? = some e) (q : ∀ M' F', zKS M0 M' F0 F' Ts st held most ins ce lo → F' 5 = .int (nI (eF e)) → KI (-1) (zov h M')) : zGR (some 10) 12 10 (zov h M) fun x1 => zIA xs x1 (nI i) (zov h M) fun x9 => zCV xs (d + 1) 158 12 (some 10) [Value.int x9] (zov h M) (zKI KI E) := by
  obtain ⟨h10, hR, hr, hx, h6⟩ := zKS_c hk hc
  refine zM_nF hl h10 hR hr he (zM_cv hl h10 (zc158 hl h10 h6 (zKI_v ?_)))
  have : nI (fr + eF e) - nI fr = nI (eF e) := by rw [pk_sub (by omega)]; congr 1; omega
  rw [this]
  exact q _ _ (zKS_5 hk) zub_s
end RKS
/-! the reference's check: what instructions leave -/
def zktd (c : Nat) : Prop := c = 34 ∨ c = 40 ∨ c = 42 ∨ c = 43 ∨ c = 45 ∨ c = 51
def zkpl (N : List zNt) (j c : Nat) (st : List Term) : Nat ⊕ List Term := if c = 34 ∨ c = 40 ∨ c = 42 ∨ c = 43 ∨ c = 45 ∨ c = 51 then zkty N j c st else .inr (zkaf c st)
/-- the number that leaves answers -/
def zlvp (Ts : List Term) (c : Nat) (st l : List Term) (y : Int32) : Prop := (c = 30 ∨ c = 76 → y = -1) ∧ (c = 32 → zTi Ts y (zkat st 1)) ∧ (c ≠ 30 → c ≠ 76 → c ≠ 32 → ∃ T, l = T :: st.drop (zktk c) ∧ zTi Ts y T)
theorem zdropc {st : List Term} {k : Nat} (h : k < st.length) : st.drop k = zkat st k :: st.drop (k + 1) := by rw [zkat_lt h]; exact List.drop_eq_getElem_cons h
section RLV
variable {xs : List Value} {d : Nat} {h : zH} {M0 M M' : Nat → zE} {F0 F F' : Nat → Value} {Q : zO → zH → Prop} {Ts Ts' : List Term} {T U : Term} {N : List zNt} {fr j : Nat} {e : zNt} {st : List Term} {held most ins c : Nat} {ce ce' : List (Nat × Nat × Nat)} {lo lo' : List (Nat × Nat)} {x y : Int32}
theorem zarg_c (h : zTok T) (hc : ztc T ≤ 4) : T = .arg (ztc T) := by
  unfold zTok at h
  split at h
  · rfl
  · rename_i c a; have : c ≤ 4 := hc; omega
  · rename_i c a b; have : c ≤ 4 := hc; omega
  · exact h.elim
theorem zc181 (hl : 50 ≤ h.1.length) (hc : zKC M0 F0 N fr) (hk : zKS M0 M F0 F Ts st held most ins ce lo) (he : N[j]? = some e) (hI : zkI e = true) (hnb : zkbk (eC e) = false) (hrd : zkrd (eC e) st held = true) (hok : zkok held st) (tx : zTop Ts st 0 x) (ty : zTop Ts st 1 y) (hB : zns Ts + (znx N j - j) ≤ 200) (hce : ce.length + 2 * (znx N j - j) ≤ 1400) (hlo : lo.length + (znx N j - j) ≤ 600)
    (k0 : ∀ p M' F' Ts' ce' lo', zkpl N j (eC e) st = .inl p → zKS M0 M' F0 F' Ts' st held most ins ce' lo' → F' 5 = .int (nI p) → Q (.inl (some (.int (-2)))) (zov h M'))
    (k1 : ∀ l y' M' F' Ts' ce' lo', zkpl N j (eC e) st = .inr l → zKS M0 M' F0 F' Ts' st held most ins ce' lo' → (∀ x U, zTi Ts x U → zTi Ts' x U) → zns Ts' ≤ zns Ts + (znx N j - j) → ce'.length ≤ ce.length + 2 * (znx N j - j) → lo'.length ≤ lo.length + (znx N j - j) → zSm [10, 19, 20, 25, 26, 27, 28, 29, 30, 31, 32, 33, 34, 35, 36] M M' → zlvp Ts' (eC e) st l y' → Q (.inl (some (.int y'))) (zov h M')) :
    zG xs (d + 5) (181, 0, lv_args 0 [zo (some 10), .int (nI j), .int (nI (eC e)), .int x, .int y], []) (zov h M) Q := by
  obtain ⟨i1, i2, i3, i4⟩ := zkI_ok hI
  have hg := hc.2.2.1
  obtain ⟨n1, n2, n3, n4, _⟩ := hg.1.2 j e he
  obtain ⟨h10, hR, hr, hx, h6⟩ := zKS_c hk hc
  have hkk := zGd_k hg he
  have hjl := (List.getElem?_eq_some_iff.mp he).1
  have hjz := zful_lt (hg.2.2 j hjl)
  have hN100 := hg.1.1
  have ht := hk.2.2.2.1
  have dep : ∀ i, ztdep (zkat st i) ≤ 9 := zkdp hok
  have gd : ∀ i, zTok (zkat st i) := fun i => (zkat_in hok.2 i).1.1
  have nb : ∀ k, zkbk k = true → eC e ≠ k := fun k hk q => by rw [q, hk] at hnb; cases hnb
  have hk33 := nb 33 rfl
  have hk41 := nb 41 rfl
  have hk44 := nb 44 rfl
  have hk47 := nb 47 rfl
  have hk49 := nb 49 rfl
  have hk50 := nb 50 rfl
  have hk58 := nb 58 rfl
  have hk59 := nb 59 rfl
  -- plain instructions: the answer is a type
  have fin : ∀ {M' F' Ts' y'} (T : Term), ¬ (eC e = 34 ∨ eC e = 40 ∨ eC e = 42 ∨ eC e = 43 ∨ eC e = 45 ∨ eC e = 51) → eC e ≠ 30 → eC e ≠ 76 → eC e ≠ 32 → zkaf (eC e) st = T :: st.drop (zktk (eC e)) → zKS M0 M' F0 F' Ts' st held most ins ce lo → (∀ x U, zTi Ts x U → zTi Ts' x U) → zns Ts' ≤ zns Ts + 1 → zSm [10, 25, 26, 27, 28, 29] M M' → zTi Ts' y' T → Q (.inl (some (.int y'))) (zov h M') := by
    intro M' F' Ts' y' T c1 c2 c3 c4 hz hk' hx' hn' sM hy
    have hp : zkpl N j (eC e) st = .inr (zkaf (eC e) st) := by unfold zkpl; rw [if_neg c1]
    exact k1 _ y' M' F' Ts' ce lo hp hk' hx' (by omega) (by omega) (by omega) (zSm_mono sM (by decide)) ⟨fun z => by omega, fun z => absurd z c4, fun _ _ _ => ⟨T, hz, hy⟩⟩
  have same : ∀ {y'} (T : Term), ¬ (eC e = 34 ∨ eC e = 40 ∨ eC e = 42 ∨ eC e = 43 ∨ eC e = 45 ∨ eC e = 51) → eC e ≠ 30 → eC e ≠ 76 → eC e ≠ 32 → zkaf (eC e) st = T :: st.drop (zktk (eC e)) → zTi Ts y' T → Q (.inl (some (.int y'))) (zov h M) := fun T c1 c2 c3 c4 hz hy => fin T c1 c2 c3 c4 hz hk (fun _ _ z => z) (by omega) zSm_refl hy
  -- behind the reading of a type
  have typed : ∀ {M1 F1 Ts1 i T} , (eC e = 34 ∨ eC e = 40 ∨ eC e = 42 ∨ eC e = 43 ∨ eC e = 45 ∨ eC e = 51) → zTy N (j + 1) 0 = .inr T → zKS M0 M1 F0 F1 Ts1 st held most ins ce lo → (∀ x U, zTi Ts x U → zTi Ts1 x U) → zns Ts1 ≤ zns Ts + (znx N (j + 1) - (j + 1)) → zSm [10, 19, 25, 26, 27, 28, 29] M M1 → i < 220 → Ts1[i]? = some T → zw_181_75 xs (d + 5) Q (some 10) (nI j) (nI (eC e)) x y (nI i) (zov h M1) := by
    intro M1 F1 Ts1 i T hc' hT hk1 hx1 hn1 sM1 hi hiT
    have hA := zKS_c hk1 hc
    have tok := zTy_ok hg.1.1 N.length (j + 1) 0 T (by omega) hT
    have tts := zTy_ts hg.1.1 N.length (j + 1) 0 T (by omega) hT
    have hm0 : 0 < eM e := by rw [i4]; rcases hc' with q | q | q | q | q | q <;> rw [q] <;> decide
    have hcz := zchn_lt _ _ _ (j + 1) hkk (List.mem_of_getElem? (zchn_kid (N := N) (i := j) (k := 0) hm0 (by decide)))
    have hlz := zful_lt hcz.2.2.1
    refine ⟨fun z => ?_, fun z => ?_, fun z => ?_, fun z => ?_, fun z => ?_, fun z => ?_, fun z => ?_, fun z => ?_, fun z => ?_, fun z => ?_, fun z => ?_, fun z => ?_, fun z => ?_, fun z => ?_, fun z => ?_, fun z => ?_, fun z => ?_, fun z => ?_, fun z => ?_, fun z => ?_, fun z => ?_, fun z => ?_, fun z => ?_⟩
    · rcases z with z | z
      · have hcc : eC e = 30 := zcc n2 (by decide) z
        omega
      · have hcc : eC e = 76 := zcc n2 (by decide) z
        omega
    · have hcc : eC e = 31 := zcc n2 (by decide) z
      omega
    · rcases z with z | z
      · have hcc : eC e = 32 := zcc n2 (by decide) z
        omega
      · have hcc : eC e = 46 := zcc n2 (by decide) z
        omega
    · have hcc : eC e = 34 := zcc n2 (by decide) z
      have hm2 : 1 < eM e := by rw [i4, hcc]; decide
      have hc2 := zchn_lt _ _ _ (znx N (j + 1)) hkk (List.mem_of_getElem? (zchn_kid (N := N) (i := j) (k := 1) hm2 (by decide)))
      have hl2 := zful_lt hc2.2.2.1
      have hj1 := znx_ge (N := N) (i := j + 1)
      refine zM_cv hl hA.1 (zc164 hl hA.1 hA.2.1 hA.2.2.2.1 (by have := zful_lt (hg.2.2 (znx N (j + 1)) hl2.1); omega) hN100 (zKI_v ?_))
      obtain ⟨To, Cl, A, B, b1, b2, b3, b4, b5, b6, b7, b8⟩ := hk1.2.2.2.2.2.2.1
      refine zM_cv hl hA.1 (zc182 (d := d) hl ⟨hk1.1, zSm_refl, zSm_refl, b1, b2, b3, b4, A, B, b5, b6, b7, b8⟩ (by omega) (by omega) hA.2.2.2.2 hA.2.2.1 hA.2.2.2.1 hg hk1.2.2.2.1 hl2.1 hi hiT tts (by omega) (fun p M2 F2 To2 Cl2 ce1 lo1 hm hv => zKI_v ?_) (fun cc M2 F2 To2 Cl2 ce1 lo1 hm hv q1 q2 q3 => zKI_v ?_))
      · refine ⟨fun _ => ?_, fun z => absurd (by decide) z⟩
        obtain ⟨v1, v2, v3, v4, v5, v6, v7, A2, B2, v8, v9, v10, v11⟩ := hv
        have hk2 := zKS_up hk1 v2 v3 v1 (zTbl_sm hk1.2.2.2.1 v2 (v3 21 (by decide)) (by decide)) (fun _ _ z => z) ⟨To2, Cl2, A2, B2, v4, v5, v6, v7, v8, v9, v10, v11⟩ (by decide) (by decide)
        refine k0 p _ _ Ts1 (ce ++ ce1) (lo ++ lo1) ?_ (zKS_5 hk2) zub_s
        unfold zkpl zkty
        rw [if_pos hc', hT]
        dsimp only
        rw [if_pos hcc, hm]
      · have := zRc_lt _ _ q3 cc (Or.inl rfl)
        obtain ⟨v1, v2, v3, v4, v5, v6, v7, A2, B2, v8, v9, v10, v11⟩ := hv
        have hcap := v1.2.2.2.2.1
        refine ⟨fun z => absurd z (nI_pos (by omega)), fun _ => ?_⟩
        have hk2 := zKS_up hk1 v2 v3 v1 (zTbl_sm hk1.2.2.2.1 v2 (v3 21 (by decide)) (by decide)) (fun _ _ z => z) ⟨To2, Cl2, A2, B2, v4, v5, v6, v7, v8, v9, v10, v11⟩ (by decide) (by decide)
        refine k1 (T :: st) _ M2 F2 Ts1 (ce ++ ce1) (lo ++ lo1) ?_ hk2 hx1 (by omega) (by rw [List.length_append]; omega) (by rw [List.length_append]; omega) (zSm_trans sM1 v2 (by decide) (by decide)) ⟨fun z => by omega, fun z => by omega, fun _ _ _ => ⟨T, by rw [hcc]; rfl, i, hi, hiT, rfl⟩⟩
        unfold zkpl zkty
        rw [if_pos hc', hT]
        dsimp only
        rw [if_pos hcc, hm]
    · have hcc : eC e = 35 := zcc n2 (by decide) z
      omega
    · have hcc : eC e = 36 := zcc n2 (by decide) z
      omega
    · have hcc : eC e = 37 := zcc n2 (by decide) z
      omega
    · have hcc : eC e = 38 := zcc n2 (by decide) z
      omega
    · have hcc : eC e = 39 := zcc n2 (by decide) z
      omega
    · have hcc : eC e = 40 := zcc n2 (by decide) z
      refine zmk (.div (.arg 6) T) (d := d + 4) hl hk1 (by omega) ⟨by omega, tok.1⟩ (by show 1 + _ ≤ 200; omega) ⟨i, hi, hiT, rfl⟩ rfl (fun M2 F2 Ts2 y2 a1 a2 a3 a4 a5 a6 => ?_)
      refine k1 (.div (.arg 6) T :: st) _ M2 F2 Ts2 ce lo ?_ a1 (fun x U z => a3 _ _ (hx1 _ _ z)) (by omega) (by omega) (by omega) (zSm_trans sM1 a6 (by decide) (by decide)) ⟨fun z => by omega, fun z => by omega, fun _ _ _ => ⟨_, by rw [hcc]; rfl, a2⟩⟩
      unfold zkpl zkty
      rw [if_pos hc', hT]
      dsimp only
      rw [if_neg (by omega), if_pos hcc]
    · have hcc : eC e = 42 := zcc n2 (by decide) z
      rw [hcc] at hrd
      have h0 : 1 ≤ st.length := of_decide_eq_true hrd
      refine zmk (.add (.div (.arg 7) (zkat st 0)) T) (d := d + 4) hl hk1 (by omega) ⟨by omega, gd 0, tok.1⟩ (by have := dep 0; show 1 + max _ _ ≤ 200; omega) (hx1 _ _ (zTop_at tx h0)) ⟨i, hi, hiT, rfl⟩ (fun M2 F2 Ts2 y2 a1 a2 a3 a4 a5 a6 => ?_)
      refine k1 (.add (.div (.arg 7) (zkat st 0)) T :: st.drop 1) _ M2 F2 Ts2 ce lo ?_ a1 (fun x U z => a3 _ _ (hx1 _ _ z)) (by omega) (by omega) (by omega) (zSm_trans sM1 a6 (by decide) (by decide)) ⟨fun z => by omega, fun z => by omega, fun _ _ _ => ⟨_, by rw [hcc]; rfl, a2⟩⟩
      unfold zkpl zkty
      rw [if_pos hc', hT]
      dsimp only
      rw [if_neg (by omega), if_neg (by omega), if_pos hcc]
    · have hcc : eC e = 43 := zcc n2 (by decide) z
      rw [hcc] at hrd
      have h0 : 1 ≤ st.length := of_decide_eq_true hrd
      refine zmk (.add (.div (.arg 7) T) (zkat st 0)) (d := d + 4) hl hk1 (by omega) ⟨by omega, tok.1, gd 0⟩ (by have := dep 0; show 1 + max _ _ ≤ 200; omega) ⟨i, hi, hiT, rfl⟩ (hx1 _ _ (zTop_at tx h0)) (fun M2 F2 Ts2 y2 a1 a2 a3 a4 a5 a6 => ?_)
      refine k1 (.add (.div (.arg 7) T) (zkat st 0) :: st.drop 1) _ M2 F2 Ts2 ce lo ?_ a1 (fun x U z => a3 _ _ (hx1 _ _ z)) (by omega) (by omega) (by omega) (zSm_trans sM1 a6 (by decide) (by decide)) ⟨fun z => by omega, fun z => by omega, fun _ _ _ => ⟨_, by rw [hcc]; rfl, a2⟩⟩
      unfold zkpl zkty
      rw [if_pos hc', hT]
      dsimp only
      rw [if_neg (by omega), if_neg (by omega), if_neg (by omega), if_pos hcc]
    · have hcc : eC e = 45 := zcc n2 (by decide) z
      refine zmk (.div (.arg 8) T) (d := d + 4) hl hk1 (by omega) ⟨by omega, tok.1⟩ (by show 1 + _ ≤ 200; omega) ⟨i, hi, hiT, rfl⟩ rfl (fun M2 F2 Ts2 y2 a1 a2 a3 a4 a5 a6 => ?_)
      refine k1 (.div (.arg 8) T :: st) _ M2 F2 Ts2 ce lo ?_ a1 (fun x U z => a3 _ _ (hx1 _ _ z)) (by omega) (by omega) (by omega) (zSm_trans sM1 a6 (by decide) (by decide)) ⟨fun z => by omega, fun z => by omega, fun _ _ _ => ⟨_, by rw [hcc]; rfl, a2⟩⟩
      unfold zkpl zkty
      rw [if_pos hc', hT]
      dsimp only
      rw [if_neg (by omega), if_neg (by omega), if_neg (by omega), if_neg (by omega), if_pos hcc]
    · rcases z with z | z
      · have hcc : eC e = 48 := zcc n2 (by decide) z
        omega
      · have hcc : eC e = 65 := zcc n2 (by decide) z
        omega
    · have hcc : eC e = 51 := zcc n2 (by decide) z
      have hm2 : 1 < eM e := by rw [i4, hcc]; decide
      have hm : 0 < eM e := by omega
      have hc1 := zchn_lt _ _ _ (j + 1) hkk (List.mem_of_getElem? (zchn_kid (N := N) (i := j) (k := 0) hm (by decide)))
      have hl1 := zful_lt hc1.2.2.1
      have hc2 := zchn_lt _ _ _ (znx N (j + 1)) hkk (List.mem_of_getElem? (zchn_kid (N := N) (i := j) (k := 1) hm2 (by decide)))
      have hl2 := zful_lt hc2.2.2.1
      have hj1 := znx_ge (N := N) (i := j + 1)
      refine zTi_sim hl hA.1 hA.2.1 hk1.2.2.2.1 ⟨i, hi, hiT, rfl⟩ ⟨fun z => ?_, fun z => ?_⟩
      · obtain ⟨e1, he1⟩ : ∃ e, N[j + 1]? = some e := ⟨_, List.getElem?_eq_getElem hl1.1⟩
        rw [nI_1]
        refine zbad (d := d + 4) hl hc hk1 he1 (fun M2 F2 a1 a2 => ?_)
        refine k0 (eF e1) M2 F2 Ts1 ce lo ?_ a1 a2
        unfold zkpl zkty
        rw [if_pos hc', hT]
        dsimp only
        rw [if_neg (by omega), if_neg (by omega), if_neg (by omega), if_neg (by omega), if_neg (by omega), zB_0.mp z, if_neg (by decide)]
        unfold zFp; rw [he1]
      · refine zM_cv hl hA.1 (zc164 hl hA.1 hA.2.1 hA.2.2.2.1 (by omega) hN100 (zKI_v ?_))
        obtain ⟨To, Cl, A, B, b1, b2, b3, b4, b5, b6, b7, b8⟩ := hk1.2.2.2.2.2.2.1
        have hlen := zns_len hk1.2.2.2.1.2.2.1
        have ks : zkty N j (eC e) st = (match zTy N (znx N (j + 1)) 0 with
            | .inl p => .inl p
            | .inr U => .inr (.add (.div (.arg 9) T) U :: st)) := by
          unfold zkty
          rw [hT]
          dsimp only
          rw [if_neg (by omega), if_neg (by omega), if_neg (by omega), if_neg (by omega), if_neg (by omega), zBt z, if_pos rfl]
          first | done | rfl
        have kp : zkpl N j (eC e) st = zkty N j (eC e) st := by unfold zkpl; rw [if_pos hc']
        refine zM_cv hl hA.1 (zc162 (st := false) (d := d + 2) hl hA.1 hA.2.1 hA.2.2.1 hA.2.2.2.1 hA.2.2.2.2 hc.2.2.2.2 hg.1 hk1.2.2.2.1 b1 b2 hl2.1 (by omega) (fun p hp M2 F2 S To2 m1 m2 m3 m4 m5 m6 m7 m8 m9 => zKI_v ?_) (fun U hU M2 F2 S To2 i2 m1 m2 m3 m4 m5 m6 m7 m8 m9 m10 => zKI_v ?_))
        · refine ⟨fun _ => ?_, fun z => absurd (by decide) z⟩
          have hp : zTy N (znx N (j + 1)) 0 = .inl p := hp
          exact k0 p M2 F2 (Ts1 ++ S) ce lo (by rw [kp, ks, hp]) (zKS_up hk1 m7 m8 (zPo_sm hk1.1 m1 m7 m8 (by decide) (by decide)) m3 zTi_app ⟨To2, Cl, A, B, m5, m6, (m7 20 (by decide)).trans b3, b4, (m7 35 (by decide)).trans b5, (m7 36 (by decide)).trans b6, b7, b8⟩ (by decide) (by decide)) m9
        · refine ⟨fun z => absurd z (nI_pos (by omega)), fun _ => ?_⟩
          have hU : zTy N (znx N (j + 1)) 0 = .inr U := hU
          have uok := zTy_ok hg.1.1 N.length (znx N (j + 1)) 0 U (by omega) hU
          have hk2 := zKS_up hk1 m7 m8 (zPo_sm hk1.1 m1 m7 m8 (by decide) (by decide)) m3 zTi_app ⟨To2, Cl, A, B, m5, m6, (m7 20 (by decide)).trans b3, b4, (m7 35 (by decide)).trans b5, (m7 36 (by decide)).trans b6, b7, b8⟩ (by decide) (by decide)
          have hn2 := zns_app (Ts := Ts1) (S := S)
          refine zmk (.add (.div (.arg 9) T) U) (d := d + 4) hl hk2 (by omega) ⟨by omega, tok.1, uok.1⟩ (by show 1 + max _ _ ≤ 200; omega) (zTi_app _ _ ⟨i, hi, hiT, rfl⟩) ⟨i2, m10, m9, rfl⟩ (fun M3 F3 Ts3 y3 a1 a2 a3 a4 a5 a6 => ?_)
          exact k1 (.add (.div (.arg 9) T) U :: st) _ M3 F3 Ts3 ce lo (by rw [kp, ks, hU]) a1 (fun x U z => a3 _ _ (zTi_app _ _ (hx1 _ _ z))) (by omega) (by omega) (by omega) (zSm_trans (zSm_t sM1 m7) a6 (by decide) (by decide)) ⟨fun z => by omega, fun z => by omega, fun _ _ _ => ⟨_, by rw [hcc]; rfl, a2⟩⟩
    · have hcc : eC e = 52 := zcc n2 (by decide) z
      omega
    · have hcc : eC e = 53 := zcc n2 (by decide) z
      omega
    · rcases z with z | z
      · have hcc : eC e = 60 := zcc n2 (by decide) z
        omega
      · have hcc : eC e = 62 := zcc n2 (by decide) z
        omega
    · rcases z with z | z | z | z
      · have hcc : eC e = 61 := zcc n2 (by decide) z
        omega
      · have hcc : eC e = 64 := zcc n2 (by decide) z
        omega
      · have hcc : eC e = 67 := zcc n2 (by decide) z
        omega
      · have hcc : eC e = 68 := zcc n2 (by decide) z
        omega
    · have hcc : eC e = 63 := zcc n2 (by decide) z
      omega
    · have hcc : eC e = 66 := zcc n2 (by decide) z
      omega
    · have hcc : eC e = 75 := zcc n2 (by decide) z
      omega
    · have n30 : eC e ≠ 30 := zcx (k := 30) (fun w => z.1 (Or.inl w))
      have n76 : eC e ≠ 76 := zcx (k := 76) (fun w => z.1 (Or.inr (w)))
      have n31 : eC e ≠ 31 := zcx (k := 31) z.2.1
      have n32 : eC e ≠ 32 := zcx (k := 32) (fun w => z.2.2.1 (Or.inl w))
      have n46 : eC e ≠ 46 := zcx (k := 46) (fun w => z.2.2.1 (Or.inr (w)))
      have n34 : eC e ≠ 34 := zcx (k := 34) z.2.2.2.1
      have n35 : eC e ≠ 35 := zcx (k := 35) z.2.2.2.2.1
      have n36 : eC e ≠ 36 := zcx (k := 36) z.2.2.2.2.2.1
      have n37 : eC e ≠ 37 := zcx (k := 37) z.2.2.2.2.2.2.1
      have n38 : eC e ≠ 38 := zcx (k := 38) z.2.2.2.2.2.2.2.1
      have n39 : eC e ≠ 39 := zcx (k := 39) z.2.2.2.2.2.2.2.2.1
      have n40 : eC e ≠ 40 := zcx (k := 40) z.2.2.2.2.2.2.2.2.2.1
      have n42 : eC e ≠ 42 := zcx (k := 42) z.2.2.2.2.2.2.2.2.2.2.1
      have n43 : eC e ≠ 43 := zcx (k := 43) z.2.2.2.2.2.2.2.2.2.2.2.1
      have n45 : eC e ≠ 45 := zcx (k := 45) z.2.2.2.2.2.2.2.2.2.2.2.2.1
      have n48 : eC e ≠ 48 := zcx (k := 48) (fun w => z.2.2.2.2.2.2.2.2.2.2.2.2.2.1 (Or.inl w))
      have n65 : eC e ≠ 65 := zcx (k := 65) (fun w => z.2.2.2.2.2.2.2.2.2.2.2.2.2.1 (Or.inr (w)))
      have n51 : eC e ≠ 51 := zcx (k := 51) z.2.2.2.2.2.2.2.2.2.2.2.2.2.2.1
      have n52 : eC e ≠ 52 := zcx (k := 52) z.2.2.2.2.2.2.2.2.2.2.2.2.2.2.2.1
      have n53 : eC e ≠ 53 := zcx (k := 53) z.2.2.2.2.2.2.2.2.2.2.2.2.2.2.2.2.1
      have n60 : eC e ≠ 60 := zcx (k := 60) (fun w => z.2.2.2.2.2.2.2.2.2.2.2.2.2.2.2.2.2.1 (Or.inl w))
      have n62 : eC e ≠ 62 := zcx (k := 62) (fun w => z.2.2.2.2.2.2.2.2.2.2.2.2.2.2.2.2.2.1 (Or.inr (w)))
      have n61 : eC e ≠ 61 := zcx (k := 61) (fun w => z.2.2.2.2.2.2.2.2.2.2.2.2.2.2.2.2.2.2.1 (Or.inl w))
      have n64 : eC e ≠ 64 := zcx (k := 64) (fun w => z.2.2.2.2.2.2.2.2.2.2.2.2.2.2.2.2.2.2.1 (Or.inr (Or.inl w)))
      have n67 : eC e ≠ 67 := zcx (k := 67) (fun w => z.2.2.2.2.2.2.2.2.2.2.2.2.2.2.2.2.2.2.1 (Or.inr (Or.inr (Or.inl w))))
      have n68 : eC e ≠ 68 := zcx (k := 68) (fun w => z.2.2.2.2.2.2.2.2.2.2.2.2.2.2.2.2.2.2.1 (Or.inr (Or.inr (Or.inr (w)))))
      have n63 : eC e ≠ 63 := zcx (k := 63) z.2.2.2.2.2.2.2.2.2.2.2.2.2.2.2.2.2.2.2.1
      have n66 : eC e ≠ 66 := zcx (k := 66) z.2.2.2.2.2.2.2.2.2.2.2.2.2.2.2.2.2.2.2.2.1
      have n75 : eC e ≠ 75 := zcx (k := 75) z.2.2.2.2.2.2.2.2.2.2.2.2.2.2.2.2.2.2.2.2.2
      omega
  have notty : ¬ (eC e = 34 ∨ eC e = 40 ∨ eC e = 42 ∨ eC e = 43 ∨ eC e = 45 ∨ eC e = 51) → zw_181_41 xs (d + 5) Q (some 10) (nI j) (nI (eC e)) x y 0 (zov h M) := by
    intro hnt
    refine ⟨fun _ => ⟨fun _ => ?_, fun z => absurd rfl z⟩, fun z => absurd rfl z⟩
    refine ⟨fun z => ?_, fun z => ?_, fun z => ?_, fun z => ?_, fun z => ?_, fun z => ?_, fun z => ?_, fun z => ?_, fun z => ?_, fun z => ?_, fun z => ?_, fun z => ?_, fun z => ?_, fun z => ?_, fun z => ?_, fun z => ?_, fun z => ?_, fun z => ?_, fun z => ?_, fun z => ?_, fun z => ?_, fun z => ?_, fun z => ?_⟩
    · rcases z with z | z
      · have hcc : eC e = 30 := zcc n2 (by decide) z
        have hp : zkpl N j (eC e) st = .inr (zkaf (eC e) st) := by unfold zkpl; rw [if_neg hnt]
        exact k1 _ _ M F Ts ce lo hp hk (fun _ _ z => z) (by omega) (by omega) (by omega) zSm_refl ⟨fun _ => rfl, fun z => by omega, fun a b c => by omega⟩
      · have hcc : eC e = 76 := zcc n2 (by decide) z
        have hp : zkpl N j (eC e) st = .inr (zkaf (eC e) st) := by unfold zkpl; rw [if_neg hnt]
        exact k1 _ _ M F Ts ce lo hp hk (fun _ _ z => z) (by omega) (by omega) (by omega) zSm_refl ⟨fun _ => rfl, fun z => by omega, fun a b c => by omega⟩
    · have hcc : eC e = 31 := zcc n2 (by decide) z
      rw [hcc] at hrd
      have h0 : 1 ≤ st.length := of_decide_eq_true hrd
      exact same (zkat st 0) (by omega) (by omega) (by omega) (by omega) (by rw [hcc]; rfl) (zTop_at tx h0)
    · rcases z with z | z
      · have hcc : eC e = 32 := zcc n2 (by decide) z
        have hp : zkpl N j (eC e) st = .inr (zkaf (eC e) st) := by unfold zkpl; rw [if_neg hnt]
        rw [hcc] at hrd
        have h0 : 2 ≤ st.length := of_decide_eq_true hrd
        exact k1 _ _ M F Ts ce lo hp hk (fun _ _ z => z) (by omega) (by omega) (by omega) zSm_refl ⟨fun z => by omega, fun _ => zTop_at ty h0, fun a b c => by omega⟩
      · have hcc : eC e = 46 := zcc n2 (by decide) z
        rw [hcc] at hrd
        have hr2 : (zkhs st 1 8 && zt1 (zkat st 1) == zkat st 0) = true := hrd
        have h0 := (zkhs_c ((Bool.and_eq_true _ _).mp hr2).1).1
        exact same (zkat st 1) (by omega) (by omega) (by omega) (by omega) (by rw [hcc]; exact zdropc h0) (zTop_at ty h0)
    · have hcc : eC e = 34 := zcc n2 (by decide) z
      omega
    · have hcc : eC e = 35 := zcc n2 (by decide) z
      exact zmk0 0 (by decide) (d := d + 3) hl hk (by omega) (fun M2 F2 Ts2 y2 a1 a2 a3 a4 a5 => fin (.arg 0) (by omega) (by omega) (by omega) (by omega) (by rw [hcc]; rfl) a1 a3 (by omega) a5 a2)
    · have hcc : eC e = 36 := zcc n2 (by decide) z
      rw [hcc] at hrd
      have h0 : 2 ≤ st.length := of_decide_eq_true hrd
      exact zmk (.add (.div (.arg 5) (zkat st 0)) (zkat st 1)) (d := d + 4) hl hk (by omega) ⟨by omega, gd 0, gd 1⟩ (by have := dep 0; have := dep 1; show 1 + max _ _ ≤ 200; omega) (zTop_at tx (by omega)) (zTop_at ty h0) (fun M2 F2 Ts2 y2 a1 a2 a3 a4 a5 a6 => fin _ (by omega) (by omega) (by omega) (by omega) (by rw [hcc]; rfl) a1 a3 a4 a6 a2)
    · have hcc : eC e = 37 := zcc n2 (by decide) z
      rw [hcc] at hrd
      obtain ⟨h0, h5⟩ := zkhs_c (c := 5) (k := 0) hrd
      exact zTi_one hl h10 hR ht (zTop_at tx h0) (by omega) (fun w hw => same _ (by omega) (by omega) (by omega) (by omega) (by rw [hcc]; rfl) hw)
    · have hcc : eC e = 38 := zcc n2 (by decide) z
      rw [hcc] at hrd
      obtain ⟨h0, h5⟩ := zkhs_c (c := 5) (k := 0) hrd
      exact zTi_two hl h10 hR ht (zTop_at tx h0) (by omega) (fun w hw => same _ (by omega) (by omega) (by omega) (by omega) (by rw [hcc]; rfl) hw)
    · have hcc : eC e = 39 := zcc n2 (by decide) z
      rw [hcc] at hrd
      have h0 : 1 ≤ st.length := of_decide_eq_true hrd
      exact zmk (.div (.arg 6) (zkat st 0)) (d := d + 4) hl hk (by omega) ⟨by omega, gd 0⟩ (by have := dep 0; show 1 + _ ≤ 200; omega) (zTop_at tx h0) rfl (fun M2 F2 Ts2 y2 a1 a2 a3 a4 a5 a6 => fin _ (by omega) (by omega) (by omega) (by omega) (by rw [hcc]; rfl) a1 a3 a4 a6 a2)
    · have hcc : eC e = 40 := zcc n2 (by decide) z
      omega
    · have hcc : eC e = 42 := zcc n2 (by decide) z
      omega
    · have hcc : eC e = 43 := zcc n2 (by decide) z
      omega
    · have hcc : eC e = 45 := zcc n2 (by decide) z
      omega
    · rcases z with z | z
      · have hcc : eC e = 48 := zcc n2 (by decide) z
        exact zmk0 3 (by decide) (d := d + 3) hl hk (by omega) (fun M2 F2 Ts2 y2 a1 a2 a3 a4 a5 => fin (.arg 3) (by omega) (by omega) (by omega) (by omega) (by rw [hcc]; rfl) a1 a3 (by omega) a5 a2)
      · have hcc : eC e = 65 := zcc n2 (by decide) z
        exact zmk0 3 (by decide) (d := d + 3) hl hk (by omega) (fun M2 F2 Ts2 y2 a1 a2 a3 a4 a5 => fin (.arg 3) (by omega) (by omega) (by omega) (by omega) (by rw [hcc]; rfl) a1 a3 (by omega) a5 a2)
    · have hcc : eC e = 51 := zcc n2 (by decide) z
      omega
    · have hcc : eC e = 52 := zcc n2 (by decide) z
      rw [hcc] at hrd
      have hr2 : (zkm (zkat st 1) && zt1 (zkat st 1) == zkat st 0) = true := hrd
      obtain ⟨h0, h9⟩ := zkm_c ((Bool.and_eq_true _ _).mp hr2).1
      exact zTi_two hl h10 hR ht (zTop_at ty h0) (by omega) (fun w hw => zmk (.div (.arg 6) (zt2 (zkat st 1))) (d := d + 4) hl hk (by omega) ⟨by omega, zTok_2 (gd 1)⟩ (by have := dep 1; have := zt2_dep (T := zkat st 1); show 1 + _ ≤ 200; omega) hw rfl (fun M2 F2 Ts2 y2 a1 a2 a3 a4 a5 a6 => fin _ (by omega) (by omega) (by omega) (by omega) (by rw [hcc]; rfl) a1 a3 a4 a6 a2))
    · have hcc : eC e = 53 := zcc n2 (by decide) z
      rw [hcc] at hrd
      have hr2 : (zkm (zkat st 2) && zt1 (zkat st 2) == zkat st 0 && zkhs st 1 6 && zt2 (zkat st 2) == zt1 (zkat st 1)) = true := hrd
      obtain ⟨h0, h9⟩ := zkm_c ((Bool.and_eq_true _ _).mp ((Bool.and_eq_true _ _).mp ((Bool.and_eq_true _ _).mp hr2).1).1).1
      exact ztop 2 (d := d + 4) hl h10 hR hk.2.2.2.2.1 (by decide) (fun w tw => same (zkat st 2) (by omega) (by omega) (by omega) (by omega) (by rw [hcc]; exact zdropc h0) (zTop_at tw h0))
    · rcases z with z | z
      · have hcc : eC e = 60 := zcc n2 (by decide) z
        rw [hcc] at hrd
        have hr2 : (zkn (zkat st 0) && zkn (zkat st 1)) = true := hrd
        obtain ⟨q0, q1⟩ := (Bool.and_eq_true _ _).mp hr2
        rw [zkn_hs] at q0 q1
        have len : ∀ {k}, (zkhs st k 2 || zkhs st k 3) = true → k < st.length := fun q => by
          rcases Bool.or_eq_true _ _ |>.mp q with w | w
          · exact (zkhs_c w).1
          · exact (zkhs_c w).1
        have h0 := len q0
        have h1 := len q1
        have hs3 : ∀ {k}, k < st.length → ztc (zkat st k) = 3 → zkhs st k 3 = true := fun a b => by unfold zkhs; rw [decide_eq_true a, b]; rfl
        have hs3n : ∀ {k}, ztc (zkat st k) ≠ 3 → ¬ zkhs st k 3 = true := fun b q => b (zkhs_c q).2
        have i493 : zksm 60 st = .arg 2 → zw_181_493 xs (d + 5) Q (some 10) (zov h M) := fun hz => zmk0 2 (by decide) (d := d + 3) hl hk (by omega) (fun M2 F2 Ts2 y2 a1 a2 a3 a4 a5 => fin (.arg 2) (by omega) (by omega) (by omega) (by omega) (by rw [hcc]; show zksm 60 st :: _ = _; rw [hz]; rfl) a1 a3 (by omega) a5 a2)
        refine zTi_kind hl h10 hR ht (zTop_at tx h0) (fun _ => pk_eq (ztc (zkat st 0)) 3 (fun e0 => zTi_kind hl h10 hR ht (zTop_at ty h1) (fun _ => pk_eq (ztc (zkat st 1)) 3 (fun e1 => ?_) (fun e1 => i493 ?_))) (fun e0 => i493 ?_))
        · have hz : zksm 60 st = .arg 3 := by unfold zksm; rw [if_pos ⟨by decide, hs3 h0 e0, hs3 h1 e1⟩]
          have ha : zkat st 0 = .arg 3 := by rw [zarg_c (gd 0) (by omega), e0]
          exact same (zkat st 0) (by omega) (by omega) (by omega) (by omega) (by rw [hcc]; show zksm 60 st :: _ = _; rw [hz, ha]; rfl) (zTop_at tx h0)
        · unfold zksm; rw [if_neg (fun q => hs3n e1 q.2.2)]
        · unfold zksm; rw [if_neg (fun q => hs3n e0 q.2.1)]
      · have hcc : eC e = 62 := zcc n2 (by decide) z
        rw [hcc] at hrd
        have hr2 : (zkn (zkat st 0) && zkn (zkat st 1)) = true := hrd
        obtain ⟨q0, q1⟩ := (Bool.and_eq_true _ _).mp hr2
        rw [zkn_hs] at q0 q1
        have len : ∀ {k}, (zkhs st k 2 || zkhs st k 3) = true → k < st.length := fun q => by
          rcases Bool.or_eq_true _ _ |>.mp q with w | w
          · exact (zkhs_c w).1
          · exact (zkhs_c w).1
        have h0 := len q0
        have h1 := len q1
        have hs3 : ∀ {k}, k < st.length → ztc (zkat st k) = 3 → zkhs st k 3 = true := fun a b => by unfold zkhs; rw [decide_eq_true a, b]; rfl
        have hs3n : ∀ {k}, ztc (zkat st k) ≠ 3 → ¬ zkhs st k 3 = true := fun b q => b (zkhs_c q).2
        have i493 : zksm 62 st = .arg 2 → zw_181_493 xs (d + 5) Q (some 10) (zov h M) := fun hz => zmk0 2 (by decide) (d := d + 3) hl hk (by omega) (fun M2 F2 Ts2 y2 a1 a2 a3 a4 a5 => fin (.arg 2) (by omega) (by omega) (by omega) (by omega) (by rw [hcc]; show zksm 62 st :: _ = _; rw [hz]; rfl) a1 a3 (by omega) a5 a2)
        refine zTi_kind hl h10 hR ht (zTop_at tx h0) (fun _ => pk_eq (ztc (zkat st 0)) 3 (fun e0 => zTi_kind hl h10 hR ht (zTop_at ty h1) (fun _ => pk_eq (ztc (zkat st 1)) 3 (fun e1 => ?_) (fun e1 => i493 ?_))) (fun e0 => i493 ?_))
        · have hz : zksm 62 st = .arg 3 := by unfold zksm; rw [if_pos ⟨by decide, hs3 h0 e0, hs3 h1 e1⟩]
          have ha : zkat st 0 = .arg 3 := by rw [zarg_c (gd 0) (by omega), e0]
          exact same (zkat st 0) (by omega) (by omega) (by omega) (by omega) (by rw [hcc]; show zksm 62 st :: _ = _; rw [hz, ha]; rfl) (zTop_at tx h0)
        · unfold zksm; rw [if_neg (fun q => hs3n e1 q.2.2)]
        · unfold zksm; rw [if_neg (fun q => hs3n e0 q.2.1)]
    · rcases z with z | z | z | z
      · have hcc : eC e = 61 := zcc n2 (by decide) z
        exact zmk0 2 (by decide) (d := d + 3) hl hk (by omega) (fun M2 F2 Ts2 y2 a1 a2 a3 a4 a5 => fin (.arg 2) (by omega) (by omega) (by omega) (by omega) (by rw [hcc]; show zksm 61 st :: _ = _; unfold zksm; rw [if_neg (fun q => q.1 rfl)]; rfl) a1 a3 (by omega) a5 a2)
      · have hcc : eC e = 64 := zcc n2 (by decide) z
        exact zmk0 2 (by decide) (d := d + 3) hl hk (by omega) (fun M2 F2 Ts2 y2 a1 a2 a3 a4 a5 => fin (.arg 2) (by omega) (by omega) (by omega) (by omega) (by rw [hcc]; rfl) a1 a3 (by omega) a5 a2)
      · have hcc : eC e = 67 := zcc n2 (by decide) z
        exact zmk0 2 (by decide) (d := d + 3) hl hk (by omega) (fun M2 F2 Ts2 y2 a1 a2 a3 a4 a5 => fin (.arg 2) (by omega) (by omega) (by omega) (by omega) (by rw [hcc]; rfl) a1 a3 (by omega) a5 a2)
      · have hcc : eC e = 68 := zcc n2 (by decide) z
        exact zmk0 2 (by decide) (d := d + 3) hl hk (by omega) (fun M2 F2 Ts2 y2 a1 a2 a3 a4 a5 => fin (.arg 2) (by omega) (by omega) (by omega) (by omega) (by rw [hcc]; rfl) a1 a3 (by omega) a5 a2)
    · have hcc : eC e = 63 := zcc n2 (by decide) z
      rw [hcc] at hrd
      have hr2 : (zkn (zkat st 0) && zkn (zkat st 1)) = true := hrd
      obtain ⟨q0, q1⟩ := (Bool.and_eq_true _ _).mp hr2
      rw [zkn_hs] at q0 q1
      have len : ∀ {k}, (zkhs st k 2 || zkhs st k 3) = true → k < st.length := fun q => by
        rcases Bool.or_eq_true _ _ |>.mp q with w | w
        · exact (zkhs_c w).1
        · exact (zkhs_c w).1
      have h0 := len q0
      have h1 := len q1
      have hs3 : ∀ {k}, k < st.length → ztc (zkat st k) = 3 → zkhs st k 3 = true := fun a b => by unfold zkhs; rw [decide_eq_true a, b]; rfl
      have hs3n : ∀ {k}, ztc (zkat st k) ≠ 3 → ¬ zkhs st k 3 = true := fun b q => b (zkhs_c q).2
      have i534 : ∀ {M2 F2 Ts2 y2} (k : Nat), (k = 2 ∨ k = 3) → zksm 63 st = .arg k → zKS M0 M2 F0 F2 Ts2 st held most ins ce lo → (∀ x U, zTi Ts x U → zTi Ts2 x U) → zns Ts2 = zns Ts → zSm [10, 25, 26, 27, 28, 29] M M2 → zTi Ts2 y2 (.arg k) → zw_181_534 xs (d + 5) Q (some 10) y2 5 (some 10) 6 (some 10) (zov h M2) := by
        intro M2 F2 Ts2 y2 k hk23 hz a1 a3 a4 a5 a2
        have hm1 : Term.add (.div (.arg 5) (.arg k)) (.arg 3) ∈ zStd := by rcases hk23 with rfl | rfl <;> decide
        have hm2 : Term.div (.arg 6) (.add (.div (.arg 5) (.arg k)) (.arg 3)) ∈ zStd := by rcases hk23 with rfl | rfl <;> decide
        refine zmk0 3 (by decide) (d := d + 3) hl a1 (by omega) (fun M3 F3 Ts3 y3 c1 c2 c3 c4 c5 => zmk (.add (.div (.arg 5) (.arg k)) (.arg 3)) (d := d + 4) hl c1 (by omega) ⟨by omega, by show k ≤ 4; omega, by show 3 ≤ 4; omega⟩ (by show 1 + max 1 1 ≤ 200; omega) (c3 _ _ a2) c2 (fun M4 F4 Ts4 y4 e1 e2 e3 e4 e5 e6 => zmk (.div (.arg 6) (.add (.div (.arg 5) (.arg k)) (.arg 3))) (d := d + 4) hl e1 (by have := e5 hm1; omega) ⟨by omega, by omega, by show k ≤ 4; omega, by show 3 ≤ 4; omega⟩ (by show 1 + (1 + max 1 1) ≤ 200; omega) e2 rfl (fun M5 F5 Ts5 y5 f1 f2 f3 f4 f5 f6 => fin _ (by omega) (by omega) (by omega) (by omega) ?_ f1 (fun x U z => f3 _ _ (e3 _ _ (c3 _ _ (a3 _ _ z)))) ?_ (zSm_t (zSm_t (zSm_t a5 c5) e6) f6) f2)))
        · rw [hcc]; show Term.div (.arg 6) (.add (.div (.arg 5) (zksm 63 st)) (.arg 3)) :: _ = _; rw [hz]; rfl
        · have := e5 hm1; have := f5 hm2; omega
      have i529 : zksm 63 st = .arg 2 → zw_181_529 xs (d + 5) Q (some 10) 5 (some 10) 6 (some 10) (zov h M) := fun hz => zmk0 2 (by decide) (d := d + 3) hl hk (by omega) (fun M2 F2 Ts2 y2 a1 a2 a3 a4 a5 => i534 2 (Or.inl rfl) hz a1 a3 a4 a5 a2)
      refine zTi_kind hl h10 hR ht (zTop_at tx h0) (fun _ => pk_eq (ztc (zkat st 0)) 3 (fun e0 => zTi_kind hl h10 hR ht (zTop_at ty h1) (fun _ => pk_eq (ztc (zkat st 1)) 3 (fun e1 => ?_) (fun e1 => i529 ?_))) (fun e0 => i529 ?_))
      · have hz : zksm 63 st = .arg 3 := by unfold zksm; rw [if_pos ⟨by decide, hs3 h0 e0, hs3 h1 e1⟩]
        have ha : zkat st 0 = .arg 3 := by rw [zarg_c (gd 0) (by omega), e0]
        exact i534 3 (Or.inr rfl) hz hk (fun _ _ z => z) rfl zSm_refl (by rw [← ha]; exact zTop_at tx h0)
      · unfold zksm; rw [if_neg (fun q => hs3n e1 q.2.2)]
      · unfold zksm; rw [if_neg (fun q => hs3n e0 q.2.1)]
    · have hcc : eC e = 66 := zcc n2 (by decide) z
      exact zmk0 3 (by decide) (d := d + 3) hl hk (by omega) (fun M2 F2 Ts2 y2 a1 a2 a3 a4 a5 => zmk (.div (.arg 6) (.arg 3)) (d := d + 4) hl a1 (by omega) ⟨by omega, by show 3 ≤ 4; omega⟩ (by show 1 + 1 ≤ 200; omega) a2 rfl (fun M3 F3 Ts3 y3 c1 c2 c3 c4 c5 c6 => fin _ (by omega) (by omega) (by omega) (by omega) (by rw [hcc]; rfl) c1 (fun x U z => c3 _ _ (a3 _ _ z)) (by omega) (zSm_t a5 c6) c2))
    · have hcc : eC e = 75 := zcc n2 (by decide) z
      rw [hcc] at hrd
      have hr2 : (zkhs st 0 4 && zkhs st 1 4) = true := hrd
      obtain ⟨q0, q1⟩ := (Bool.and_eq_true _ _).mp hr2
      obtain ⟨h0, e0⟩ := zkhs_c q0
      obtain ⟨h1, e1⟩ := zkhs_c q1
      have ha : zkat st 0 = zkat st 1 := by rw [zarg_c (gd 0) (by omega), zarg_c (gd 1) (by omega), e0, e1]
      exact same (zkat st 0) (by omega) (by omega) (by omega) (by omega) (by rw [hcc, ha]; exact zdropc h1) (zTop_at tx h0)
    · have n30 : eC e ≠ 30 := zcx (k := 30) (fun w => z.1 (Or.inl w))
      have n76 : eC e ≠ 76 := zcx (k := 76) (fun w => z.1 (Or.inr (w)))
      have n31 : eC e ≠ 31 := zcx (k := 31) z.2.1
      have n32 : eC e ≠ 32 := zcx (k := 32) (fun w => z.2.2.1 (Or.inl w))
      have n46 : eC e ≠ 46 := zcx (k := 46) (fun w => z.2.2.1 (Or.inr (w)))
      have n34 : eC e ≠ 34 := zcx (k := 34) z.2.2.2.1
      have n35 : eC e ≠ 35 := zcx (k := 35) z.2.2.2.2.1
      have n36 : eC e ≠ 36 := zcx (k := 36) z.2.2.2.2.2.1
      have n37 : eC e ≠ 37 := zcx (k := 37) z.2.2.2.2.2.2.1
      have n38 : eC e ≠ 38 := zcx (k := 38) z.2.2.2.2.2.2.2.1
      have n39 : eC e ≠ 39 := zcx (k := 39) z.2.2.2.2.2.2.2.2.1
      have n40 : eC e ≠ 40 := zcx (k := 40) z.2.2.2.2.2.2.2.2.2.1
      have n42 : eC e ≠ 42 := zcx (k := 42) z.2.2.2.2.2.2.2.2.2.2.1
      have n43 : eC e ≠ 43 := zcx (k := 43) z.2.2.2.2.2.2.2.2.2.2.2.1
      have n45 : eC e ≠ 45 := zcx (k := 45) z.2.2.2.2.2.2.2.2.2.2.2.2.1
      have n48 : eC e ≠ 48 := zcx (k := 48) (fun w => z.2.2.2.2.2.2.2.2.2.2.2.2.2.1 (Or.inl w))
      have n65 : eC e ≠ 65 := zcx (k := 65) (fun w => z.2.2.2.2.2.2.2.2.2.2.2.2.2.1 (Or.inr (w)))
      have n51 : eC e ≠ 51 := zcx (k := 51) z.2.2.2.2.2.2.2.2.2.2.2.2.2.2.1
      have n52 : eC e ≠ 52 := zcx (k := 52) z.2.2.2.2.2.2.2.2.2.2.2.2.2.2.2.1
      have n53 : eC e ≠ 53 := zcx (k := 53) z.2.2.2.2.2.2.2.2.2.2.2.2.2.2.2.2.1
      have n60 : eC e ≠ 60 := zcx (k := 60) (fun w => z.2.2.2.2.2.2.2.2.2.2.2.2.2.2.2.2.2.1 (Or.inl w))
      have n62 : eC e ≠ 62 := zcx (k := 62) (fun w => z.2.2.2.2.2.2.2.2.2.2.2.2.2.2.2.2.2.1 (Or.inr (w)))
      have n61 : eC e ≠ 61 := zcx (k := 61) (fun w => z.2.2.2.2.2.2.2.2.2.2.2.2.2.2.2.2.2.2.1 (Or.inl w))
      have n64 : eC e ≠ 64 := zcx (k := 64) (fun w => z.2.2.2.2.2.2.2.2.2.2.2.2.2.2.2.2.2.2.1 (Or.inr (Or.inl w)))
      have n67 : eC e ≠ 67 := zcx (k := 67) (fun w => z.2.2.2.2.2.2.2.2.2.2.2.2.2.2.2.2.2.2.1 (Or.inr (Or.inr (Or.inl w))))
      have n68 : eC e ≠ 68 := zcx (k := 68) (fun w => z.2.2.2.2.2.2.2.2.2.2.2.2.2.2.2.2.2.2.1 (Or.inr (Or.inr (Or.inr (w)))))
      have n63 : eC e ≠ 63 := zcx (k := 63) z.2.2.2.2.2.2.2.2.2.2.2.2.2.2.2.2.2.2.2.1
      have n66 : eC e ≠ 66 := zcx (k := 66) z.2.2.2.2.2.2.2.2.2.2.2.2.2.2.2.2.2.2.2.2.1
      have n75 : eC e ≠ 75 := zcx (k := 75) z.2.2.2.2.2.2.2.2.2.2.2.2.2.2.2.2.2.2.2.2.2
      have rst : eC e = 54 ∨ eC e = 55 ∨ eC e = 56 ∨ eC e = 57 ∨ (69 ≤ eC e ∧ eC e ≤ 74) := by omega
      have hz : zkaf (eC e) st = .arg 1 :: st.drop (zktk (eC e)) := by
        rcases rst with q | q | q | q | q
        · rw [q]; rfl
        · rw [q] at hrd ⊢
          have hr2 : (zkhs st 0 1 && zkhs st 1 1) = true := hrd
          obtain ⟨h1, e1⟩ := zkhs_c ((Bool.and_eq_true _ _).mp hr2).2
          have ha : zkat st 1 = .arg 1 := by rw [zarg_c (gd 1) (by omega), e1]
          rw [← ha]; exact zdropc h1
        · rw [q] at hrd ⊢
          have hr2 : (zkhs st 0 1 && zkhs st 1 1) = true := hrd
          obtain ⟨h1, e1⟩ := zkhs_c ((Bool.and_eq_true _ _).mp hr2).2
          have ha : zkat st 1 = .arg 1 := by rw [zarg_c (gd 1) (by omega), e1]
          rw [← ha]; exact zdropc h1
        · rw [q] at hrd ⊢
          obtain ⟨h1, e1⟩ := zkhs_c (k := 0) (c := 1) hrd
          have ha : zkat st 0 = .arg 1 := by rw [zarg_c (gd 0) (by omega), e1]
          rw [← ha]; exact zdropc (k := 0) h1
        · unfold zkaf zktk
          rw [if_neg (by omega), if_neg (by omega), if_neg (by omega), if_neg (by omega), if_neg (by omega), if_neg (by omega), if_neg (by omega), if_neg (by omega), if_neg (by omega), if_neg (by omega), if_neg (by omega), if_neg (by omega), if_neg (by omega), if_neg (by omega), if_neg (by omega), if_neg (by omega), if_neg (by omega), if_pos (by omega), if_neg (by omega), if_neg (by omega), if_neg (by omega)]
      exact zmk0 1 (by decide) (d := d + 3) hl hk (by omega) (fun M2 F2 Ts2 y2 a1 a2 a3 a4 a5 => fin (.arg 1) (by omega) (by omega) (by omega) (by omega) hz a1 a3 (by omega) a5 a2)
  have isty : (eC e = 34 ∨ eC e = 40 ∨ eC e = 42 ∨ eC e = 43 ∨ eC e = 45 ∨ eC e = 51) → zw_181_36 xs (d + 5) Q (some 10) (nI j) (nI (eC e)) x y (zov h M) := by
    intro hty
    have hm : 0 < eM e := by rw [i4]; rcases hty with q | q | q | q | q | q <;> rw [q] <;> decide
    have hc1 := zchn_lt _ _ _ (j + 1) hkk (List.mem_of_getElem? (zchn_kid (N := N) (i := j) (k := 0) hm (by decide)))
    have hl1 := zful_lt hc1.2.2.1
    have hlen := zns_len ht.2.2.1
    obtain ⟨To, Cl, A, B, b1, b2, b3, b4, b5, b6, b7, b8⟩ := hk.2.2.2.2.2.2.1
    refine ⟨fun z => absurd z (by decide), fun _ => ?_⟩
    rw [nI_1]
    refine zM_cv hl h10 (zc162 (st := false) (d := d + 2) hl h10 hR hr hx h6 hc.2.2.2.2 hg.1 ht b1 b2 hl1.1 (by omega) (fun p hp M1 F1 S To1 m1 m2 m3 m4 m5 m6 m7 m8 m9 => zKI_v ?_) (fun T hT M1 F1 S To1 i m1 m2 m3 m4 m5 m6 m7 m8 m9 m10 => zKI_v ?_))
    · refine ⟨fun z => absurd z (by decide), fun _ => ⟨fun _ => ?_, fun z => absurd (by decide) z⟩⟩
      have hp : zTy N (j + 1) 0 = .inl p := hp
      refine k0 p M1 F1 (Ts ++ S) ce lo ?_ (zKS_up hk m7 m8 (zPo_sm hk.1 m1 m7 m8 (by decide) (by decide)) m3 zTi_app ?_ (by decide) (by decide)) m9
      · unfold zkpl zkty
        rw [if_pos hty, hp]
      · exact ⟨To1, Cl, A, B, m5, m6, (m7 20 (by decide)).trans b3, b4, (m7 35 (by decide)).trans b5, (m7 36 (by decide)).trans b6, b7, b8⟩
    · have hT : zTy N (j + 1) 0 = .inr T := hT
      refine ⟨fun z => absurd z (by decide), fun _ => ⟨fun z => absurd z (nI_pos (by omega)), fun _ => ?_⟩⟩
      refine typed hty hT (zKS_up hk m7 m8 (zPo_sm hk.1 m1 m7 m8 (by decide) (by decide)) m3 zTi_app ?_ (by decide) (by decide)) zTi_app (by have := zns_app (Ts := Ts) (S := S); omega) m7 m10 m9
      exact ⟨To1, Cl, A, B, m5, m6, (m7 20 (by decide)).trans b3, b4, (m7 35 (by decide)).trans b5, (m7 36 (by decide)).trans b6, b7, b8⟩
  exact zm_181 (pk_eq (eC e) 34 (fun z => isty (by omega)) (fun m34 => pk_eq (eC e) 40 (fun z => isty (by omega)) (fun m40 => pk_eq (eC e) 42 (fun z => isty (by omega)) (fun m42 => pk_eq (eC e) 43 (fun z => isty (by omega)) (fun m43 => pk_eq (eC e) 45 (fun z => isty (by omega)) (fun m45 => pk_eq (eC e) 51 (fun z => isty (by omega)) (fun m51 => notty (by omega))))))))
end RLV
