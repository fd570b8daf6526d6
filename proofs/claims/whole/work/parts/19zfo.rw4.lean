/-! the reference at work: PUSH -/
section RW4
variable {xs : List Value} {d : Nat} {h : zH} {N : List zNt} {M0 M M' : Nat → zE} {F0 F F' : Nat → Value} {Q : zO → zH → Prop} {ce : List (Nat × Nat × Nat)} {lo : List (Nat × Nat)} {Ts vs st : List Term} {pd : List Int32} {most p bits bound held C c j fr : Nat} {a b x : Int32} {K V T key : Term} {A : List Nat} {e : zNt}
theorem zpw_le (hj : pd[j]? = some (-1)) : ∀ A : List Nat, zpw N A (pd.set j x) ≤ zpw N A pd
  | [] => Nat.le_refl _
  | k :: A => by
    have ih := zpw_le hj A
    unfold zpw at ih ⊢
    rw [List.map_cons, List.map_cons, List.sum_cons, List.sum_cons]
    by_cases hk : k = j
    · subst hk
      rw [if_pos hj]
      have : (if (pd.set k x)[k]? = some (-1) then zwt N k else 0) ≤ zwt N k := by split <;> omega
      omega
    · rw [List.getElem?_set_ne (Ne.symm hk)]
      omega
theorem zpw_set (hj : pd[j]? = some (-1)) (hx : x ≠ -1) : ∀ A : List Nat, j ∈ A → zpw N A (pd.set j x) + zwt N j ≤ zpw N A pd
  | [], hA => by cases hA
  | k :: A, hA => by
    have le := zpw_le (N := N) (x := x) hj A
    by_cases hk : k = j
    · subst hk
      unfold zpw at le ⊢
      rw [List.map_cons, List.map_cons, List.sum_cons, List.sum_cons, if_pos hj, List.getElem?_set_self (List.getElem?_eq_some_iff.mp hj).1, if_neg (fun z => hx (Option.some.inj z))]
      omega
    · have ih := zpw_set hj hx A (by rcases List.mem_cons.mp hA with z | z; exact absurd z.symm hk; exact z)
      unfold zpw at ih ⊢
      rw [List.map_cons, List.map_cons, List.sum_cons, List.sum_cons, List.getElem?_set_ne (Ne.symm hk)]
      omega
theorem zpw_in (hj : pd[j]? = some (-1)) : ∀ A : List Nat, j ∈ A → zwt N j ≤ zpw N A pd := fun A hA => by
  have := zpw_set (N := N) (x := 0) hj (by decide) A hA
  omega
theorem zWS_pd (hs : zWS N M0 M F0 F Ts vs most pd p ce lo) (hx : zCr ce lo x (zpcn N j)) : zWS N M0 (zub M 52 (zAi (pd.set j x))) F0 F Ts vs most (pd.set j x) p ce lo := by
  obtain ⟨a1, a2, a3, a4, a5, a6, a7, a8, a9, a10, a11, a12⟩ := hs
  have sM : zSm [52] M (zub M 52 (zAi (pd.set j x))) := zSm_ub zSm_refl (by decide)
  refine ⟨zPo_sm a1 (by rw [zub_n (by decide)]; exact a1.1) sM (T := []) zSm_refl (by decide) (by decide), zSm_trans a2 sM (fun _ z => z) (fun k hk => by rw [List.mem_singleton.mp hk]; decide), a3, zTbl_sm a4 sM rfl (by decide), zSt_sm a5 sM (S' := []) zSm_refl (by decide) (by decide), a6, a7, zSc4_sm a8 sM (by decide), fun q hq => ?_, zub_s, by rw [List.length_set]; exact a11, fun k y hk => ?_⟩
  · obtain ⟨L, l1, l2⟩ := a9 q hq
    exact ⟨L, by rw [zub_n (fun z => by subst z; exact absurd hq (by decide))]; exact l1, l2⟩
  · by_cases hkj : k = j
    · subst hkj
      by_cases hl : k < pd.length
      · rw [List.getElem?_set_self hl] at hk
        cases hk
        exact Or.inr hx
      · rw [List.getElem?_eq_none (by rw [List.length_set]; omega)] at hk
        cases hk
    · rw [List.getElem?_set_ne (Ne.symm hkj)] at hk
      exact a12 k y hk
theorem zwt_34 (hg : zGd N) (he : N[j]? = some e) (hc : eC e = 34) (hM : eM e = 2) : j + 1 < N.length ∧ znx N (j + 1) < N.length ∧ zwt N j = 1 + (znx N (j + 1) - (j + 1)) + (znx N (znx N (j + 1)) - znx N (j + 1)) := by
  have hk := zGd_k hg he
  rw [hM] at hk
  obtain ⟨f1, f2, f3⟩ := zfuls_2 hk
  have g1 := zful_lt f1
  have g2 := zful_lt f2
  refine ⟨g1.1, g2.1, ?_⟩
  unfold zwt
  rw [he]
  dsimp only
  rw [if_pos hc, ← f3]
  omega
theorem zd34 (hl : 50 ≤ h.1.length) (hw : zWC N fr bits bound M0 F0) (hs : zWS N M0 M F0 F Ts vs most pd p ce lo) (he : N[j]? = some e) (hc : eC e = 34) (hM : eM e = 2) (hT : zTy N (j + 1) 0 = .inr T) (hMi : zMi N (znx N (j + 1)) false T = none) (hjA : j ∈ A) (hrc : ce.length + 2 * zpw N A pd ≤ 1400) (hrl : lo.length + zpw N A pd ≤ 600) (hrt : Ts.length + zpw N A pd ≤ 220) (g : ∀ V, zrv bits 34 vs (zpcn N j) = some V → zDo Q h N M0 M F0 Ts vs most pd p ce lo A C V) : zG xs (d + 6) (214, 0, lv_args 0 [zo (some 10), .int (nI j), .int (nI 34), .int a, .int b], []) (zov h M) Q := by
  obtain ⟨hr0, hx0, hg, h60, hfr, _, _⟩ := hw
  have hN100 := hg.1.1
  have hjl := (List.getElem?_eq_some_iff.mp he).1
  obtain ⟨s1, s2, s3⟩ := zwt_34 hg he hc hM
  have hse := hs
  obtain ⟨a1, a2, a3, a4, a5, a6, a7, a8, a9, a10, a11, a12⟩ := hse
  have hr := zNr_sm hr0 a2 (a3 8 (by decide)) (by decide)
  have hx := zNx_sm hx0 a2 (by decide)
  have h6 := (a3 6 (by decide)).trans h60
  obtain ⟨px, hpx⟩ : ∃ px, pd[j]? = some px := ⟨_, List.getElem?_eq_getElem (by omega)⟩
  have e1 : zpcn N j = ztv N (znx N (j + 1)) false T := by unfold zpcn; rw [hT]
  apply zm_214
  refine ⟨fun _ => ?_, fun z => absurd rfl z⟩
  have tail : ∀ (M2 : Nat → zE) (F2 : Nat → Value) (pd2 : List Int32) (y : Int32), M2 10 = zMo F2 → zRf F2 → M2 52 = zAi pd2 → pd2[j]? = some y → Q (.inl (some (.int y))) (zov h M2) → zw_214_39 xs (d + 6) Q (some 10) (nI j) (nI 34) a b (zov h M2) := by
    intro M2 F2 pd2 y q1 q2 q3 q4 q5
    refine ⟨fun z => absurd z (by decide), fun _ => ⟨fun z => absurd z (by decide), fun _ => ⟨fun z => absurd z (by decide), fun z => absurd z (by decide), fun z => absurd z (by decide), fun _ => ?_, fun z => absurd z (by decide), fun z => absurd z (by decide), fun z => absurd z (by decide), fun z => absurd z (by decide), fun z => absurd z (by decide), fun z => absurd z (by decide), fun z => absurd z (by decide), fun z => absurd z (by decide), fun z => absurd z (by decide), fun z => absurd z (by decide), fun z => absurd z (by decide), fun z => absurd z (by decide), fun z => absurd z (by decide), fun z => absurd z (by decide), fun z => absurd z (by decide), fun z => absurd z (by decide), fun z => absurd z (by decide), fun z => absurd rfl z.2.2.2.1⟩⟩⟩
    exact zM_gr hl q1 (q2 (64, 52) (by decide)) (zM_ia' hl q3 q4 q5)
  refine zM_gr hl a1.1 (a1.2.1 (64, 52) (by decide)) (zM_ia' hl a10 hpx ?_)
  rcases a12 j px hpx with rfl | ⟨cx, rfl, hcx⟩
  · refine ⟨fun _ => ?_, fun z => absurd (by decide) z⟩
    have hin := zpw_in (N := N) hpx A hjA
    refine zM_gr hl a1.1 (a1.2.1 (64, 52) (by decide)) (zM_cv hl a1.1 (zc164 hl a1.1 a1.2.1 hx s1 hN100 (zKI_v ?_)))
    rw [nI_1]
    obtain ⟨To, Cl, A1, B1, t1, t2, t3, t4, t5, t6, t7, t8⟩ := a8
    refine zM_cv hl a1.1 (zc162 (st := false) (d := d + 3) hl a1.1 a1.2.1 hr hx h6 hfr hg.1 a4 t1 t2 s1 (by omega) (fun x hx' => by rw [show (false : Bool).toNat = 0 from rfl, hT] at hx'; cases hx') (fun T' hT' M1 F1 S To1 i u1 u2 u3 u4 u5 u6 u7 u8 u9 u10 => zKI_v ?_))
    rw [show (false : Bool).toNat = 0 from rfl, hT] at hT'
    cases hT'
    have p1 : zPo M1 F1 ce lo := zPo_sm a1 u1 u7 u8 (by decide) (by decide)
    have tok := zTy_ok hg.1.1 N.length (j + 1) 0 T (by omega) hT
    have tts := zTy_ts hg.1.1 N.length (j + 1) 0 T (by omega) hT
    have hv0 : zVS M1 M1 F1 F1 ce lo To1 Cl := ⟨p1, zSm_refl, zSm_refl, u5, u6, (u7 20 (by decide)).trans t3, t4, A1, B1, (u7 35 (by decide)).trans t5, (u7 36 (by decide)).trans t6, t7, t8⟩
    refine zM_cv hl u1 (zc182 (d := d + 1) (n := znx N (j + 1)) (t := i) hl hv0 (by omega) (by omega) ((u8 6 (by decide)).trans h6) (zNr_sm hr u7 (u8 8 (by decide)) (by decide)) (zNx_sm hx u7 (by decide)) hg u3 s2 u10 u9 tts (by have := tok.2.1; omega) (fun x M2 F2 To2 Cl2 ce1 lo1 z => by rw [hMi] at z; cases z) (fun c M2 F2 To2 Cl2 ce1 lo1 _ v1 v2 v3 v4 => zKI_v ?_))
    obtain ⟨w1, w2, w3, w4, w5, w6, w7, A2, B2, w8, w9, w10, w11⟩ := v1
    have sM2 : zSm [10, 19, 20, 25, 26, 27, 28, 29, 30, 31, 32, 33, 34, 35, 36] M M2 := zSm_trans u7 w2 (fun k hk => by simp at hk ⊢; omega) (fun k hk => by simp at hk ⊢; omega)
    have sF2 : zSm [21, 27, 28] F F2 := zSm_trans u8 w3 (fun k hk => by simp at hk ⊢; omega) (fun k hk => by simp at hk ⊢; omega)
    have ws2 : zWS N M0 M2 F0 F2 (Ts ++ S) vs most pd p (ce ++ ce1) (lo ++ lo1) := zWS_up hs sM2 sF2 w1 (zTbl_sm u3 w2 (w3 21 (by decide)) (by decide)) (fun x V => zCr_app) ⟨To2, Cl2, A2, B2, w4, w5, w6, w7, w8, w9, w10, w11⟩ (by decide) (by decide)
    have h52 : M2 52 = zAi pd := (sM2 52 (by decide)).trans a10
    have c14 := zRc_14 w1 v4
    refine zM_st' hl h52 (by omega) (by omega) ?_
    have hxr : zCr (ce ++ ce1) (lo ++ lo1) (nI c) (zpcn N j) := ⟨c, rfl, by rw [e1]; exact v4⟩
    have ws3 := zWS_pd ws2 hxr
    have hne : nI c ≠ -1 := fun z => absurd (show nI c < 0 by rw [z]; decide) (nI_pos (by omega))
    have hset := zpw_set (N := N) hpx hne A hjA
    refine tail _ F2 (pd.set j (nI c)) (nI c) (by rw [zub_n (by decide)]; exact w1.1) w1.2.1 zub_s (List.getElem?_set_self (by omega)) ?_
    exact g _ rfl _ F2 (Ts ++ S) (pd.set j (nI c)) ce1 lo1 c ws3 (by rw [e1]; exact v4) (by omega) (by omega) (by rw [List.length_append]; omega) (fun q hq => by
      have n52 : q ≠ 52 := fun z => by rw [z] at hq; exact absurd hq (by decide)
      rw [zub_n n52]
      exact zfr_sm sM2 (by decide) q hq)
  · have c14 := zRc_14 a1 hcx
    refine ⟨fun z => absurd z (nI_pos (by omega)), fun _ => tail M F pd (nI cx) a1.1 a1.2.1 a10 hpx (zDo_0 hs hcx (g _ rfl))⟩
end RW4
