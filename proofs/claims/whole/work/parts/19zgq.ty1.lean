/-! the reference: readTypes(), hasBig() -/
def zTys (N : List zNt) : Nat ⊕ (Term × Term × Term) := match zTy N 0 0 with
  | .inl x => .inl x
  | .inr P => match zTy N (znx N 0) 0 with
    | .inl x => .inl x
    | .inr R => match zTy N (znx N (znx N 0)) 1 with
      | .inl x => .inl x
      | .inr S => .inr (P, R, S)
def zTsh (M : Nat → zE) : Prop := ∃ (Ki On Tw De Si : List Int32), M 25 = zAi Ki ∧ M 26 = zAi On ∧ M 27 = zAi Tw ∧ M 28 = zAi De ∧ M 29 = zAb Si ∧ Ki.length = 220 ∧ On.length = 220 ∧ Tw.length = 220 ∧ De.length = 220 ∧ Si.length = 220
section TY1
variable {xs : List Value} {d : Nat} {h : zH} {M M' : Nat → zE} {F F' : Nat → Value} {Q : zO → zH → Prop} {N : List zNt} {fr : Nat} {Ts : List Term} {T : Term}
theorem zTbl_sh (h : zTbl M F Ts) : zTsh M := by
  obtain ⟨a1, a2, a3, a4, Ki, On, Tw, De, Si, b1, b2, b3, b4, b5, b6, b7, b8, b9, b10, _⟩ := h
  exact ⟨Ki, On, Tw, De, Si, b1, b2, b3, b4, b5, b6, b7, b8, b9, b10⟩
theorem zTbl_0 (h : zTsh M) (hF : F 21 = .int 0) : zTbl M F [] := by
  obtain ⟨Ki, On, Tw, De, Si, b1, b2, b3, b4, b5, b6, b7, b8, b9, b10⟩ := h
  exact ⟨hF, by decide, (fun i j T h1 => by cases h1), (fun i T h1 => by cases h1), Ki, On, Tw, De, Si, b1, b2, b3, b4, b5, b6, b7, b8, b9, b10, (fun i T h1 => by cases h1)⟩
theorem zTsh_sm {S : List Nat} (h : zTsh M) (hM : zSm S M M') (hS : ([25, 26, 27, 28, 29].all fun q => !(S.contains q)) = true) : zTsh M' := by
  obtain ⟨Ki, On, Tw, De, Si, b1, b2, b3, b4, b5, b6⟩ := h
  have hz : ∀ q ∈ [25, 26, 27, 28, 29], M' q = M q := fun q hq => hM q (by simpa using List.all_eq_true.mp hS q hq)
  exact ⟨Ki, On, Tw, De, Si, (hz 25 (by decide)).trans b1, (hz 26 (by decide)).trans b2, (hz 27 (by decide)).trans b3, (hz 28 (by decide)).trans b4, (hz 29 (by decide)).trans b5, b6⟩
/-- a field is put -/
theorem zub2 {A : Nat → zE} {e1 e2 : zE} : zub (zub A 10 e1) 10 e2 = zub A 10 e2 := by
  funext i
  unfold zub
  split <;> rfl
/-- hasBig() -/
theorem zc195 {i : Nat} (hl : 50 ≤ h.1.length) (h10 : M 10 = zMo F) (hR : zRf F) (ht : zTbl M F Ts) (h56 : F 56 = .int (nI i)) (hi : Ts[i]? = some T) (q : Q (.inl (some (.int (zB (ztc T == 5 && ztc (zt1 T) == 10))))) (zov h M)) : zG xs d (195, 0, lv_args 0 [zo (some 10)], []) (zov h M) Q := by
  obtain ⟨a1, a2, a3, a4, Ki, On, Tw, De, Si, b1, b2, b3, b4, b5, b6, b7, b8, b9, b10, rows⟩ := ht
  obtain ⟨r1, ⟨x, r2, r3⟩, r4, r5, r6⟩ := rows i T hi
  have hil := (List.getElem?_eq_some_iff.mp hi).1
  apply zm_195
  refine zM_gr hl h10 (hR (22, 25) (by decide)) (zM_gi hl h10 h56 (zM_ia' hl b1 r1 ?_))
  have hk := a4 i T hi
  have h10' := zTok_c hk.1
  refine pk_eq (ztc T) 5 (fun z => ?_) (fun z => ⟨Or.inl rfl, ?_⟩)
  · have e2 := zsh2 hk.1 (Or.inl z)
    have eq1 : zq1 T = some (zt1 T) := by rw [e2]; rfl
    have hp : ∃ j : Nat, Ts[j]? = some (zt1 T) ∧ x = nI j := by
      rw [eq1] at r3
      obtain ⟨j, _, q1, q2⟩ := r3
      exact ⟨j, q1, q2⟩
    obtain ⟨j, hj, rfl⟩ := hp
    have hjl := (List.getElem?_eq_some_iff.mp hj).1
    have h11 := zTok_c (a4 j _ hj).1
    refine zM_gr hl h10 (hR (22, 25) (by decide)) (zM_gr hl h10 (hR (23, 26) (by decide)) (zM_gi hl h10 h56 (zM_ia' hl b2 r2 (zM_ia' hl b1 (rows j _ hj).1 ?_))))
    refine pk_eq (ztc (zt1 T)) 10 (fun z2 => ⟨Or.inr rfl, ?_⟩) (fun z2 => ⟨Or.inl rfl, ?_⟩)
    · rw [z, z2] at q; exact q
    · rw [z, beq_false_of_ne z2] at q; exact q
  · rw [beq_false_of_ne z] at q; exact q
def zYs (M : Nat → zE) (F : Nat → Value) (M1 : Nat → zE) (F1 : Nat → Value) (Ts : List Term) : Prop := M1 10 = zMo F1 ∧ zRf F1 ∧ zTbl M1 F1 Ts ∧ (∃ To : List Int32, M1 19 = zAi To ∧ To.length = 100) ∧ zSm [10, 19, 25, 26, 27, 28, 29] M M1 ∧ zSm [5, 21, 27, 28, 54, 55, 56, 57] F F1 ∧ F1 27 = .int 0 ∧ F1 28 = .int 0
variable {M1 : Nat → zE} {F1 : Nat → Value}
theorem zYs_p (hs : zYs M F M1 F1 Ts) {j : Nat} {v : Value} (hj : j = 54 ∨ j = 55 ∨ j = 56 ∨ j = 57) : zYs M F (zub M1 10 (zMo (zub F1 j v))) (zub F1 j v) Ts := by
  obtain ⟨a1, a2, a3, ⟨To, a4, a5⟩, a6, a7, a8, a9⟩ := hs
  have sM : zSm [10] M1 (zub M1 10 (zMo (zub F1 j v))) := zSm_ub zSm_refl (by decide)
  have sF : zSm [54, 55, 56, 57] F1 (zub F1 j v) := zSm_ub zSm_refl (by rcases hj with rfl | rfl | rfl | rfl <;> decide)
  exact ⟨zub_s, zRf_sm a2 sF (by decide), zTbl_sm a3 sM (sF 21 (by decide)) (by decide), ⟨To, (sM 19 (by decide)).trans a4, a5⟩, zSm_trans a6 sM (fun _ z => z) (by decide), zSm_trans a7 sF (fun _ z => z) (by decide), (sF 27 (by decide)).trans a8, (sF 28 (by decide)).trans a9⟩
theorem zYs_t {n : Nat} {st : Bool} {K : Int32 → zH → Prop} {E : Nat → zH → Prop} (hl : 50 ≤ h.1.length) (hr : zNr M F N fr) (hx : zNx M N) (h6 : F 6 = .int (nI fr)) (hfr : fr ≤ 8660) (hN : zNg N) (hs : zYs M F M1 F1 Ts) (hn : n < N.length) (hsz : Ts.length + (znx N n - n) ≤ 220)
    (k0 : ∀ x, zTy N n st.toNat = .inl x → ∀ M' F' S, zYs M F M' F' (Ts ++ S) → F' 5 = .int (nI x) → zSm [5, 21] F1 F' → K (-1) (zov h M'))
    (k1 : ∀ T, zTy N n st.toNat = .inr T → ∀ M' F' S i, zYs M F M' F' (Ts ++ S) → S.length ≤ znx N n - n → (Ts ++ S)[i]? = some T → i < 220 → zSm [21] F1 F' → K (nI i) (zov h M')) : zCV xs (d + 3) 162 12 (some 10) [Value.int (nI n), Value.int (zB st)] (zov h M1) (zKI K E) := by
  obtain ⟨a1, a2, a3, ⟨To, a4, a5⟩, a6, a7, a8, a9⟩ := hs
  have hr1 : zNr M1 F1 N fr := zNr_sm hr a6 (a7 8 (by decide)) (by decide)
  have hx1 : zNx M1 N := zNx_sm hx a6 (by decide)
  refine zM_cv hl a1 (zc162 hl a1 a2 hr1 hx1 ((a7 6 (by decide)).trans h6) hfr hN a3 a4 a5 hn hsz (fun x hx M' F' S To' b1 b2 b3 b4 b5 b6 b7 b8 b9 => zKI_v (k0 x hx M' F' S ?_ b9 b8)) (fun T hT M' F' S To' i b1 b2 b3 b4 b5 b6 b7 b8 b9 b10 => zKI_v (k1 T hT M' F' S i ?_ b4 b9 b10 b8)))
  · exact ⟨b1, b2, b3, ⟨To', b5, b6⟩, zSm_t a6 b7, zSm_trans a7 b8 (fun _ z => z) (by decide), (b8 27 (by decide)).trans a8, (b8 28 (by decide)).trans a9⟩
  · exact ⟨b1, b2, b3, ⟨To', b5, b6⟩, zSm_t a6 b7, zSm_trans a7 b8 (fun _ z => z) (by decide), (b8 27 (by decide)).trans a8, (b8 28 (by decide)).trans a9⟩
/-- readTypes() -/
theorem zc161 (hl : 50 ≤ h.1.length) (h10 : M 10 = zMo F) (hR : zRf F) (hr : zNr M F N fr) (hx : zNx M N) (h6 : F 6 = .int (nI fr)) (hfr : fr ≤ 8660) (hN : zNg N) (hsh : zTsh M) (hTo : ∃ To : List Int32, M 19 = zAi To ∧ To.length = 100) (hf : zfuls N 5 0 N.length)
    (k0 : ∀ x, zTys N = .inl x → ∀ M' F' Ts, zYs M F M' F' Ts → F' 5 = .int (nI x) → Q (.inl (some (.int 0))) (zov h M'))
    (k1 : ∀ P R S, zTys N = .inr (P, R, S) → ∀ M' F' Ts i1 i2 i3, zYs M F M' F' Ts → F' 5 = F 5 → Ts.length ≤ znx N (znx N (znx N 0)) → (i1 < 220 ∧ Ts[i1]? = some P) → (i2 < 220 ∧ Ts[i2]? = some R) → (i3 < 220 ∧ Ts[i3]? = some S) → F' 54 = .int (nI i1) → F' 55 = .int (nI i2) → F' 56 = .int (nI i3) → F' 57 = .int (nI (znx N (znx N (znx N 0)))) → Q (.inl (some (.int 1))) (zov h M')) : zG xs (d + 3) (161, 0, lv_args 0 [zo (some 10)], []) (zov h M) Q := by
  have hN100 := hN.1
  have g0 := zful_lt hf.1
  have g1 := zful_lt hf.2.1
  have g2 := zful_lt hf.2.2.1
  have g3 := zful_lt hf.2.2.2.1
  obtain ⟨Nx, Ow, Le, c1, c2, c3, c4, c5, c6, rows⟩ := hx
  have hx : zNx M N := ⟨Nx, Ow, Le, c1, c2, c3, c4, c5, c6, rows⟩
  apply zm_161
  refine zM_pf hl h10 (zM_pf hl zub_s (zM_pf hl zub_s ?_))
  rw [zub2, zub2]
  have sF3 : zSm [21, 27, 28] F (zub (zub (zub F 27 (.int 0)) 28 (.int 0)) 21 (.int 0)) := zSm_ub (zSm_ub (zSm_ub zSm_refl (by decide)) (by decide)) (by decide)
  have sM3 : zSm [10] M (zub M 10 (zMo (zub (zub (zub F 27 (.int 0)) 28 (.int 0)) 21 (.int 0)))) := zSm_ub zSm_refl (by decide)
  have s3 : zYs M F (zub M 10 (zMo (zub (zub (zub F 27 (.int 0)) 28 (.int 0)) 21 (.int 0)))) (zub (zub (zub F 27 (.int 0)) 28 (.int 0)) 21 (.int 0)) [] := by
    obtain ⟨To, t1, t2⟩ := hTo
    exact ⟨zub_s, zRf_sm hR sF3 (by decide), zTbl_0 (zTsh_sm hsh sM3 (by decide)) zub_s, ⟨To, (sM3 19 (by decide)).trans t1, t2⟩, zSm_mono sM3 (by decide), zSm_mono sF3 (by decide), by rw [zub_n (by decide), zub_n (by decide), zub_s], by rw [zub_n (by decide), zub_s]⟩
  generalize zub (zub (zub F 27 (.int 0)) 28 (.int 0)) 21 (.int 0) = F3 at s3 sF3 ⊢
  -- next[] of a node
  have nx : ∀ {M2 : Nat → zE} {F2 : Nat → Value} {Ts : List Term} {KI : Int32 → Prop} {i : Nat}, zYs M F M2 F2 Ts → i < N.length → KI (nI (znx N i)) → zIA xs (some 17) (nI i) (zov h M2) KI := fun {M2 F2 Ts KI i} s hi kk => zM_ia' hl ((s.2.2.2.2.1 17 (by decide)).trans c1) (rows i hi).2 kk
  have r17 : ∀ {M2 : Nat → zE} {F2 : Nat → Value} {Ts : List Term} {KP : zP → Prop}, zYs M F M2 F2 Ts → KP (some 17) → zGR (some 10) 12 13 (zov h M2) KP := fun {M2 F2 Ts KP} s kk => zM_gr hl s.1 (s.2.1 (13, 17) (by decide)) kk
  -- the bad ends
  have bad110 : ∀ {x : Nat} {M2 : Nat → zE} {F2 : Nat → Value} {Ts : List Term}, zTys N = .inl x → zYs M F M2 F2 Ts → F2 5 = .int (nI x) → F2 56 = .int (-1) → zw_161_110 xs (d + 3) Q (some 10) 0 (some 10) (zov h M2) := by
    intro x M2 F2 Ts hz s h5 h56
    refine zM_pf hl s.1 ?_
    have s' := zYs_p (v := .int 0) s (Or.inr (Or.inr (Or.inr rfl)))
    refine zM_gi hl s'.1 (show zub F2 57 (.int 0) 56 = .int (-1) by rw [zub_n (by decide)]; exact h56) ⟨fun _ => ⟨Or.inl rfl, k0 x hz _ _ Ts s' (by rw [zub_n (by decide)]; exact h5)⟩, fun z => absurd (by decide) z⟩
  have bad79 : ∀ {x : Nat} {M2 : Nat → zE} {F2 : Nat → Value} {Ts : List Term}, zTys N = .inl x → zYs M F M2 F2 Ts → F2 5 = .int (nI x) → zw_161_79 xs (d + 3) Q (some 10) (-1) (some 10) (zov h M2) := by
    intro x M2 F2 Ts hz s h5
    refine zM_pf hl s.1 ?_
    have s' := zYs_p (v := .int (-1)) s (Or.inr (Or.inr (Or.inl rfl)))
    exact zM_gi hl s'.1 zub_s ⟨fun _ => bad110 hz s' (by rw [zub_n (by decide)]; exact h5) zub_s, fun z => absurd (by decide) z⟩
  have bad48 : ∀ {x : Nat} {M2 : Nat → zE} {F2 : Nat → Value} {Ts : List Term}, zTys N = .inl x → zYs M F M2 F2 Ts → F2 5 = .int (nI x) → zw_161_48 xs (d + 3) Q (some 10) (-1) (some 10) (zov h M2) := by
    intro x M2 F2 Ts hz s h5
    refine zM_pf hl s.1 ?_
    have s' := zYs_p (v := .int (-1)) s (Or.inr (Or.inl rfl))
    exact zM_gi hl s'.1 zub_s ⟨fun _ => bad79 hz s' (by rw [zub_n (by decide)]; exact h5), fun z => absurd (by decide) z⟩
  refine zYs_t (n := 0) (st := false) hl hr hx h6 hfr hN s3 g0.1 (by show 0 + _ ≤ 220; omega) (fun x hxx M4 F4 S4 s4 h5 sF4 => ?_) (fun P hP M4 F4 S4 i1 s4 lS4 hi1 li1 sF4 => ?_)
  · have hz : zTys N = .inl x := by unfold zTys; rw [show zTy N 0 0 = _ from hxx]
    refine zM_pf hl s4.1 ?_
    have s' := zYs_p (v := .int (-1)) s4 (Or.inl rfl)
    exact zM_gi hl s'.1 zub_s ⟨fun _ => bad48 hz s' (by rw [zub_n (by decide)]; exact h5), fun z => absurd (by decide) z⟩
  · refine zM_pf hl s4.1 ?_
    have s5 := zYs_p (v := .int (nI i1)) s4 (Or.inl rfl)
    have e5 : zub F4 54 (.int (nI i1)) 5 = F 5 := by rw [zub_n (by decide), sF4 5 (by decide), sF3 5 (by decide)]
    refine zM_gi hl s5.1 zub_s ⟨fun z => absurd z (nI_pos (by omega)), fun _ => r17 s5 (nx (i := 0) s5 g0.1 ?_)⟩
    have e54 : zub F4 54 (.int (nI i1)) 54 = .int (nI i1) := zub_s
    generalize zub F4 54 (.int (nI i1)) = F5 at s5 e5 e54 ⊢
    rw [List.nil_append] at s5 hi1
    refine zYs_t (n := znx N 0) (st := false) hl hr hx h6 hfr hN s5 g1.1 (by omega) (fun x hxx M6 F6 S6 s6 h5 sF6 => ?_) (fun R hR2 M6 F6 S6 i2 s6 lS6 hi2 li2 sF6 => ?_)
    · have hz : zTys N = .inl x := by
        unfold zTys
        rw [show zTy N 0 0 = _ from hP]
        dsimp only
        rw [show zTy N (znx N 0) 0 = _ from hxx]
      refine zM_pf hl s6.1 ?_
      have s' := zYs_p (v := .int (-1)) s6 (Or.inr (Or.inl rfl))
      exact zM_gi hl s'.1 zub_s ⟨fun _ => bad79 hz s' (by rw [zub_n (by decide)]; exact h5), fun z => absurd (by decide) z⟩
    · refine zM_pf hl s6.1 ?_
      have s7 := zYs_p (v := .int (nI i2)) s6 (Or.inr (Or.inl rfl))
      have e75 : zub F6 55 (.int (nI i2)) 5 = F 5 := by rw [zub_n (by decide), sF6 5 (by decide), e5]
      have e754 : zub F6 55 (.int (nI i2)) 54 = .int (nI i1) := by rw [zub_n (by decide), sF6 54 (by decide), e54]
      have e755 : zub F6 55 (.int (nI i2)) 55 = .int (nI i2) := zub_s
      refine zM_gi hl s7.1 zub_s ⟨fun z => absurd z (nI_pos (by omega)), fun _ => r17 s7 (r17 s7 (nx (i := 0) s7 g0.1 (nx (i := znx N 0) s7 g1.1 ?_)))⟩
      generalize zub F6 55 (.int (nI i2)) = F7 at s7 e75 e754 e755 ⊢
      have l46 : (S4 ++ S6).length ≤ znx N (znx N 0) := by rw [List.length_append]; omega
      refine zYs_t (n := znx N (znx N 0)) (st := true) hl hr hx h6 hfr hN s7 g2.1 (by omega) (fun x hxx M8 F8 S8 s8 h5 sF8 => ?_) (fun S hS2 M8 F8 S8 i3 s8 lS8 hi3 li3 sF8 => ?_)
      · have hz : zTys N = .inl x := by
          unfold zTys
          rw [show zTy N 0 0 = _ from hP]
          dsimp only
          rw [show zTy N (znx N 0) 0 = _ from hR2]
          dsimp only
          rw [show zTy N (znx N (znx N 0)) 1 = _ from hxx]
        refine zM_pf hl s8.1 ?_
        have s' := zYs_p (v := .int (-1)) s8 (Or.inr (Or.inr (Or.inl rfl)))
        exact zM_gi hl s'.1 zub_s ⟨fun _ => bad110 hz s' (by rw [zub_n (by decide)]; exact h5) zub_s, fun z => absurd (by decide) z⟩
      · have hz : zTys N = .inr (P, R, S) := by
          unfold zTys
          rw [show zTy N 0 0 = _ from hP]
          dsimp only
          rw [show zTy N (znx N 0) 0 = _ from hR2]
          dsimp only
          rw [show zTy N (znx N (znx N 0)) 1 = _ from hS2]
        refine zM_pf hl s8.1 ?_
        have s9 := zYs_p (v := .int (nI i3)) s8 (Or.inr (Or.inr (Or.inl rfl)))
        refine zM_gi hl s9.1 zub_s ⟨fun z => absurd z (nI_pos (by omega)), fun _ => r17 s9 (r17 s9 (r17 s9 (nx (i := 0) s9 g0.1 (nx (i := znx N 0) s9 g1.1 (nx (i := znx N (znx N 0)) s9 g2.1 ?_)))))⟩
        refine zM_pf hl s9.1 ?_
        have s10 := zYs_p (v := .int (nI (znx N (znx N (znx N 0))))) s9 (Or.inr (Or.inr (Or.inr rfl)))
        refine zM_gi hl s10.1 (show zub (zub F8 56 (.int (nI i3))) 57 (.int (nI (znx N (znx N (znx N 0))))) 56 = .int (nI i3) by rw [zub_n (by decide), zub_s]) ⟨fun z => absurd z (nI_pos (by omega)), fun _ => ⟨Or.inr rfl, ?_⟩⟩
        refine k1 P R S hz _ _ _ i1 i2 i3 s10 ?_ ?_ ⟨li1, ?_⟩ ⟨li2, ?_⟩ ⟨li3, hi3⟩ ?_ ?_ ?_ zub_s
        · rw [zub_n (by decide), zub_n (by decide), sF8 5 (by decide), e75]
        · rw [List.length_append]; omega
        · exact zget_app (zget_app hi1)
        · exact zget_app hi2
        · rw [zub_n (by decide), zub_n (by decide), sF8 54 (by decide), e754]
        · rw [zub_n (by decide), zub_n (by decide), sF8 55 (by decide), e755]
        · rw [zub_n (by decide), zub_s]
end TY1
