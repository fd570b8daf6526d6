/-! writeValue(): its loop -/
def zJv (h : zH) (M : Nat → zE) (F : Nat → Value) (ce : List (Nat × Nat × Nat)) (lo : List (Nat × Nat)) (st : Bool) (Bt : List Nat) (Ct Wt : Nat) (n : Nat) (l4 l5 : Int32) (h0 : zH) : Prop := ∃ (M1 : Nat → zE) (F1 : Nat → Value) (X : List (Nat × Nat × Nat)) (O : List Nat) (cn : Nat) (td : List Int32) (its : List zIm) (t : Nat), n = 2000 - t ∧ l4 = nI td.length ∧ l5 = nI t ∧ h0 = zov h M1 ∧ zY2 M F M1 F1 (ce ++ X) lo O cn td ∧ zIts (ce ++ X) lo st td its ∧ O ++ its.flatMap (zib st) = Bt ∧ cn + (its.map (zic st)).sum = Ct ∧ X.length + (its.map ziw).sum ≤ Wt ∧ O.length ≤ 19 * cn ∧ t + td.length + 1 ≤ 2 * cn + 2 * (its.map ziv).sum ∧ cn ≤ 1400 ∧ t ≤ 2000
theorem zng1 : ∀ c, c < 1400 → ((-1 : Int32) - nI c < 0 ∧ (-1 : Int32) - (-1 - nI c) = nI c) := by decide +kernel
section WR8
variable {xs : List Value} {d : Nat} {h : zH} {M M1 M' M2 : Nat → zE} {F F1 F' F2 : Nat → Value} {Q : zO → zH → Prop} {ce cX X : List (Nat × Nat × Nat)} {lo : List (Nat × Nat)} {O O1 O2 B : List Nat} {b n c cn limit t k0 : Nat} {td : List Int32} {J : zP → Int32 → Int32 → Int32 → Int32 → zH → Prop} {sI : Int32} {st : Bool} {its : List zIm} {K U T V : Term}
theorem zTd_pop {x : Int32} (hs : zTd M (x :: td)) : (∃ T : List Int32, M 37 = zAi T ∧ T.length = 60 ∧ T[td.length]? = some x) ∧ zTd M td := by
  obtain ⟨T, a1, a2, a3⟩ := hs
  refine ⟨⟨T, a1, a2, ?_⟩, T, a1, a2, fun j y hy => ?_⟩
  · have := a3 0 x rfl
    rw [List.length_cons, show td.length + 1 - 1 - 0 = td.length by omega] at this
    exact this
  · have := a3 (j + 1) y hy
    rw [List.length_cons, show td.length + 1 - 1 - (j + 1) = td.length - 1 - j by omega] at this
    exact this
theorem ziv_1 : ∀ i : zIm, ziv i ≤ 1
  | .inl _ => Nat.le_refl _
  | .inr _ => Nat.zero_le _
theorem ziv_le : ∀ its : List zIm, (its.map ziv).sum ≤ its.length
  | [] => Nat.le_refl _
  | i :: its => by
    have := ziv_le its
    rw [List.map_cons, List.sum_cons, List.length_cons]
    have := ziv_1 i
    omega
/-- a turn: what is left of a row -/
theorem zturnx {i : zIm} {x : Int32} (hl : 50 ≤ h.1.length) (hs : zY2 M F M1 F1 cX lo O cn td) (hi : zIok cX lo st x i) (hv : ziv i = 0) (hn : td.length + zih i ≤ 58) (hO : O.length ≤ 2750) (kk : zKk st M F h cX lo O cn td (zib st i) (zic st i) (ziw i) (fun x h' => J (some 10) (nI limit) (zB st) x (nI (t + 1)) h')) : ∃ c, x = -1 - nI c ∧ c < 1400 ∧ zw_208_88 xs (d + 3) Q J (some 10) (nI limit) (zB st) (nI td.length) (nI t) 1 (nI c) (zov h M1) := by
  have h5 := hs.1.2.2.2.2.1
  rcases i with ⟨T, V⟩ | ⟨k, K, U, es⟩ | ⟨U, L⟩
  · cases hv
  · obtain ⟨c, h1, h2, h3, h4, h5', h6⟩ := hi
    obtain ⟨w, a, b, hcell, hw1⟩ : ∃ w a b, cX[c]? = some (w, a, b) ∧ (w = k ∨ w = k + 1) := by
      cases es with
      | nil => obtain ⟨a, b, q⟩ := h6; exact ⟨k, a, b, q, Or.inl rfl⟩
      | cons v L => obtain ⟨a, b, q, _⟩ := h6; exact ⟨k + 1, a, b, q, Or.inr rfl⟩
    have hcl := (List.getElem?_eq_some_iff.mp hcell).1
    have hst : 14 ≤ w → zB st ≠ 0 := fun z => by
      rcases h2 with q | ⟨_, q⟩
      · omega
      · rw [q]; decide
    have hk14 : k = 12 ∨ k = 14 := by rcases h2 with q | ⟨q, _⟩; exact Or.inl q; exact Or.inr q
    have hn' : td.length + (3 + 2 * max (ztdep K) (ztdep U)) ≤ 58 := hn
    exact ⟨c, h1, by omega, zt88x (d := d + 2) hl hs hcell (by omega) hst (fun M2 F2 s2 => zlks12 (d := d + 2) hl s2 h2 h6 h3 h4 h5' hn' (by omega) (by omega) kk)⟩
  · obtain ⟨c, h1, h2, h3, h4⟩ := hi
    have hn' : td.length + (2 + 2 * ztdep U) ≤ 58 := hn
    obtain ⟨w, a, b, hcell, hw1⟩ : ∃ w a b, cX[c]? = some (w, a, b) ∧ (w = 10 ∨ w = 11) := by
      cases L with
      | nil => obtain ⟨a, b, q⟩ := h4; exact ⟨10, a, b, q, Or.inl rfl⟩
      | cons v L =>
        obtain ⟨a, b, q, _⟩ := h4
        rw [zgo_t h2.1.1 (h3 v List.mem_cons_self).1] at q
        exact ⟨11, a, b, q, Or.inr rfl⟩
    have hcl := (List.getElem?_eq_some_iff.mp hcell).1
    exact ⟨c, h1, by omega, zt88x (d := d + 2) hl hs hcell (by omega) (fun z => absurd z (by omega)) (fun M2 F2 s2 => zlks10 (d := d + 2) hl s2 h4 h2 h3 hn' (by omega) kk)⟩
/-- writeValue() -/
theorem zc208 (hl : 50 ≤ h.1.length) (hp : zPo M F ce lo) (h35 : zS35 M) (h37 : ∃ T : List Int32, M 37 = zAi T ∧ T.length = 60) (h12 : ∃ A : List Int32, M 12 = zAi A ∧ A.length = 2800) (hT : zTy3 T) (hV : zVt T V) (hm : zmr V ≤ 190) (hc : zRc ce lo V (.inl c)) (hce : ce.length + zbw V ≤ 1400) (hlim : limit ≤ 300) (hb : limit ≤ 100 ∨ (zser (zsw st V)).length ≤ 2750)
    (k1 : znd (zsw st V) ≤ limit → ∀ M' F' X, zPo M' F' (ce ++ X) lo → X.length ≤ zbw V → zS35 M' → zSm [10, 12, 30, 31, 32, 35, 36, 37] M M' → zSm [4, 27, 29] F F' → zWr M' F' (zser (zsw st V)) → F' 29 = .int (nI (znd (zsw st V))) → (∃ T : List Int32, M' 37 = zAi T ∧ T.length = 60) → Q (.inl (some (.int 1))) (zov h M'))
    (k0 : limit < znd (zsw st V) → ∀ M' F' X O, zPo M' F' (ce ++ X) lo → X.length ≤ zbw V → zS35 M' → zSm [10, 12, 30, 31, 32, 35, 36, 37] M M' → zSm [4, 27, 29] F F' → zWr M' F' O → (∃ T : List Int32, M' 37 = zAi T ∧ T.length = 60) → Q (.inl (some (.int 0))) (zov h M')) : zG xs (d + 3) (208, 0, lv_args 0 [zo (some 10), .int (nI c), .int (nI limit), .int (zB st)], []) (zov h M) Q := by
  obtain ⟨TT, t1, t2⟩ := h37
  obtain ⟨A, a1, a2⟩ := h12
  refine zm_208 (fun n l0 l2 l3 l4 l5 h0 => l0 = some 10 ∧ l2 = nI limit ∧ l3 = zB st ∧ zJv h M F ce lo st (zser (zsw st V)) (znd (zsw st V)) (zbw V) n l4 l5 h0) ?_ ?_
  · rintro n l0 l2 l3 l4 l5 h0 ⟨rfl, rfl, rfl, M1, F1, X, O, cn, td, its, t, rfl, rfl, rfl, rfl, hs, hi, eB, eC, eW, eL, eV, eN, hts⟩
    have hln := zIts_len hi
    have hvl := ziv_le its
    obtain ⟨s1, s2, s3, s4, s5, s6, s7⟩ := hs
    obtain ⟨T7, u1, u2, u3⟩ := s7
    have fin : limit < cn ∨ td = [] → zw_208_415 xs (d + 3) Q (fun l0 l2 l3 l4 l5 h0 => ∃ n1, n1 < 2000 - t ∧ l0 = some 10 ∧ l2 = nI limit ∧ l3 = zB st ∧ zJv h M F ce lo st (zser (zsw st V)) (znd (zsw st V)) (zbw V) n1 l4 l5 h0) (some 10) (nI limit) (zov h M1) := by
      intro hf
      refine zM_gi hl s1.1 s6 (pk_lt limit cn (fun hlt => ⟨Or.inl rfl, k0 (by omega) M1 F1 X O s1 (by omega) s2 s3 s4 s5 ⟨T7, u1, u2⟩⟩) (fun hge => ?_))
      have hnil : td = [] := by
        rcases hf with z | z
        · omega
        · exact z
      subst hnil
      cases its with
      | cons i its => exact hi.elim
      | nil =>
        have eC : cn + 0 = znd (zsw st V) := eC
        have eB : O ++ [] = zser (zsw st V) := eB
        rw [List.append_nil] at eB
        exact ⟨Or.inr rfl, k1 (by omega) M1 F1 X s1 (by omega) s2 s3 s4 (by rw [← eB]; exact s5) (by rw [← eC]; exact s6) ⟨T7, u1, u2⟩⟩
    cases td with
    | nil =>
      exact pk_lt t 2000 (fun _ => ⟨fun z => absurd z (by decide), fun _ => fin (Or.inr rfl)⟩) (fun _ => fin (Or.inr rfl))
    | cons x td =>
      cases its with
      | nil => exact hi.elim
      | cons i its =>
        obtain ⟨i1, i2, i3⟩ := hi
        rw [List.length_cons] at hln hvl eV
        rw [List.map_cons, List.sum_cons] at eC eW eV hvl
        rw [List.flatMap_cons] at eB
        have hln3 := zIts_len i3
        have h58 : its.length ≤ 58 := by omega
        rcases Nat.lt_or_ge limit cn with hlt | hge
        · refine pk_lt t 2000 (fun _ => ⟨fun _ => zM_gi hl s1.1 s6 (pk_lt limit cn (fun _ => fin (Or.inl hlt)) (fun z => absurd hlt (by omega))), fun z => absurd (nI_lt (a := 0) (b := (x :: td).length) (by rw [List.length_cons]; omega) (by rw [List.length_cons]; omega)) z⟩) (fun _ => fin (Or.inl hlt))
        · have hiv := ziv_1 i
          have ht : t < 2000 := by have := ziv_le its; omega
          have hO : O.length ≤ 2750 := by
            rcases hb with z | z
            · omega
            · rw [← eB, List.length_append] at z; omega
          refine pk_lt t 2000 (fun _ => ⟨fun _ => zM_gi hl s1.1 s6 (pk_lt limit cn (fun z => absurd z (by omega)) (fun _ => ?_)), fun z => absurd (nI_lt (a := 0) (b := (x :: td).length) (by rw [List.length_cons]; omega) (by rw [List.length_cons]; omega)) z⟩) (fun z => absurd ht (by omega))
          intro x5 hx5
          have hx5 : x5 = nI td.length := by
            rw [hx5, List.length_cons]; exact pk_m1 _
          subst hx5
          obtain ⟨⟨T8, v1, v2, v3⟩, hpop⟩ := zTd_pop (td := td) ⟨T7, u1, u2, u3⟩
          have sY : zY2 M F M1 F1 (ce ++ X) lo O cn td := ⟨s1, s2, s3, s4, s5, s6, hpop⟩
          have rd : ∀ {KI : Int32 → Prop}, KI x → zGR (some 10) 12 37 (zov h M1) fun x6 => zIA xs x6 (nI td.length) (zov h M1) KI := fun {KI} kk => zM_gr hl s1.1 (s1.2.1 (37, 37) (by decide)) (zM_ia' hl v1 v3 kk)
          refine rd ?_
          by_cases hv : ziv i = 0
          · obtain ⟨c', hc1, hc2, hw⟩ := zturnx (xs := xs) (d := d) (Q := Q) (limit := limit) (t := t) (J := fun l0 l2 l3 l4 l5 h0 => ∃ n1, n1 < 2000 - t ∧ l0 = some 10 ∧ l2 = nI limit ∧ l3 = zB st ∧ zJv h M F ce lo st (zser (zsw st V)) (znd (zsw st V)) (zbw V) n1 l4 l5 h0) hl sY i1 hv (by omega) hO (fun M2 F2 O2 cn2 pt pi y1 y2 y3 y4 y5 y6 y7 y8 => by
              refine ⟨2000 - (t + 1), by omega, rfl, rfl, rfl, M2, F2, X, O2, cn2, pt ++ td, pi ++ its, t + 1, rfl, rfl, rfl, rfl, y1, y2 its i3, ?_, ?_, ?_, by omega, ?_, by omega, by omega⟩
              · rw [List.flatMap_append, ← List.append_assoc, y3, List.append_assoc]; exact eB
              · rw [List.map_append, List.sum_append]; omega
              · rw [List.map_append, List.sum_append]; omega
              · rw [List.map_append, List.sum_append, List.length_append]; omega)
            subst hc1
            obtain ⟨g1, g2⟩ := zng1 c' hc2
            exact ⟨fun _ => ⟨fun z => absurd z (by decide), fun _ => rd (by rw [g2]; exact hw)⟩, fun z => absurd g1 z⟩
          · rcases i with ⟨T', V'⟩ | i
            · obtain ⟨c', hc1, q1, q2, q3, q4⟩ := i1
              have hcl := zRc_lt _ _ q4 c' (Or.inl rfl)
              have h5 := s1.2.2.2.2.1
              subst hc1
              have hw' : X.length + (zbw V' + (its.map ziw).sum) ≤ zbw V := eW
              refine ⟨fun z => absurd z (nI_pos (by omega)), fun _ => ⟨fun _ => rd ?_, fun z => absurd rfl z⟩⟩
              have hih : its.length + (1 + 2 * ztdep T') ≤ 58 := i2
              have eV' : t + (td.length + 1) + 1 ≤ 2 * cn + 2 * (1 + (its.map ziv).sum) := eV
              have eC' : cn + (znd (zsw st V') + (its.map (zic st)).sum) = znd (zsw st V) := eC
              refine zturnv hl sY q1 q2 q3 q4 (by omega) hO (by rw [List.length_append]; omega) (fun M2 F2 X2 O2 cn2 pt pi y1 y2 y3 y4 y5 y6 y7 y8 => ?_)
              have y1' := y1
              have y2' := y2 its i3
              rw [List.append_assoc] at y1' y2'
              refine ⟨2000 - (t + 1), by omega, rfl, rfl, rfl, M2, F2, X ++ X2, O2, cn2, pt ++ td, pi ++ its, t + 1, rfl, rfl, rfl, rfl, y1', y2', ?_, ?_, ?_, by omega, ?_, by omega, by omega⟩
              · rw [List.flatMap_append, ← List.append_assoc, y3, List.append_assoc]; exact eB
              · rw [List.map_append, List.sum_append]; omega
              · rw [List.map_append, List.sum_append, List.length_append]; omega
              · rw [List.map_append, List.sum_append, List.length_append]; omega
            · exact absurd (by cases i <;> rfl) hv
  · refine zM_pf hl hp.1 (zM_pf hl zub_s ?_)
    have sF1 : zSm [4, 27, 29] F (zub (zub F 4 (.int 0)) 29 (.int 0)) := zSm_ub (zSm_ub zSm_refl (by decide)) (by decide)
    have sF2 : zSm [4, 29] F (zub (zub F 4 (.int 0)) 29 (.int 0)) := zSm_ub (zSm_ub zSm_refl (by decide)) (by decide)
    have sM1 : zSm [10] M (zub (zub M 10 (zMo (zub F 4 (.int 0)))) 10 (zMo (zub (zub F 4 (.int 0)) 29 (.int 0)))) := zSm_ub (zSm_ub zSm_refl (by decide)) (by decide)
    refine zM_gr hl zub_s (zRf_sm hp.2.1 sF2 (by decide) (37, 37) (by decide)) ?_
    have e37 : (zub (zub M 10 (zMo (zub F 4 (.int 0)))) 10 (zMo (zub (zub F 4 (.int 0)) 29 (.int 0)))) 37 = zAi TT := (sM1 37 (by decide)).trans t1
    refine zM_st' (j := 0) hl e37 (by omega) (by omega) ?_
    have sM2 : zSm [10, 37] M (zub (zub (zub M 10 (zMo (zub F 4 (.int 0)))) 10 (zMo (zub (zub F 4 (.int 0)) 29 (.int 0)))) 37 (zAi (TT.set 0 (nI c)))) := zSm_ub (zSm_mono sM1 (by decide)) (by decide)
    refine ⟨2000, rfl, rfl, rfl, _, (zub (zub F 4 (.int 0)) 29 (.int 0)), [], [], 0, [nI c], [.inl (T, V)], 0, rfl, rfl, rfl, rfl, ⟨?_, zS35_sm h35 sM2 (by decide) (by decide), zSm_mono sM2 (by decide), sF1, ⟨?_, by decide, A, (sM2 12 (by decide)).trans a1, a2, fun i b hi => by cases hi⟩, zub_s, TT.set 0 (nI c), zub_s, by rw [List.length_set]; exact t2, ?_⟩, ⟨⟨c, rfl, hT, hV, hm, by rw [List.append_nil]; exact hc⟩, ?_, trivial⟩, ?_, ?_, ?_, Nat.le_refl _, show 0 + 1 + 1 ≤ 2 * 0 + 2 * (1 + 0) by decide, by decide, by decide⟩
    · rw [List.append_nil]
      exact zPo_sm hp (by rw [zub_n (by decide), zub_s]) sM2 sF2 (by decide) (by decide)
    · rw [zub_n (by decide), zub_s]; rfl
    · intro j x hx
      cases j with
      | zero => cases hx; exact List.getElem?_set_self (by omega)
      | succ j => cases hx
    · show 0 + (1 + 2 * ztdep T) ≤ 58
      have := hT.2.2; omega
    · show [] ++ (zser (zsw st V) ++ []) = _
      rw [List.append_nil]; rfl
    · show 0 + (znd (zsw st V) + 0) = _
      omega
    · show 0 + (zbw V + 0) ≤ zbw V
      omega
end WR8
