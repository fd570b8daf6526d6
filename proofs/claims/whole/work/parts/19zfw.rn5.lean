def zKq (Q : zO → zH → Prop) : zO → zH → Prop := zKI (fun x1 h2 => Q (.inl (some (Value.int x1))) h2) (fun e h => Q (.inr e) h)
section RN5
variable {xs : List Value} {d : Nat} {h : zH} {N : List zNt} {M0 M M' : Nat → zE} {F0 F F' : Nat → Value} {Q : zO → zH → Prop} {ce ce0 X : List (Nat × Nat × Nat)} {lo : List (Nat × Nat)} {Ts vs w : List Term} {pd : List Int32} {most p bits bound j fr D b0 z0 : Nat} {a39 a41 a42 a43 : Int32} {V : Term} {e : zNt} {acc : List Term} {ts : List Nat}
/-- opened(): ITER, MAP, LOOP -/
theorem zc206r (hl : 50 ≤ h.1.length) (hw : zWC N fr bits bound M0 F0) (hs : zWS N M0 M F0 F Ts (V :: w) most pd p ce lo) (hD : D < 12) (he : N[j]? = some e) (hc : eC e = 49 ∨ eC e = 50 ∨ eC e = 59) (hce : ce.length < 1400) (h38 : zAt M 38 D = some (nI j)) (h39 : zAt M 39 D = some a39) (h42 : zAt M 42 D = some a42)
    (g1 : eC e = 49 → ∀ ca M' F', zRc ce lo V (.inl ca) → zWS N M0 M' F0 F' Ts w most pd p ce lo → zFq D M M' → zFr M' D (nI j) a39 (nI ca) a42 (-1) → zG xs (d + 2) (203, 0, lv_args 0 [zo (some 10), .int (nI D)], []) (zov h M') (zKq Q))
    (g2 : eC e = 50 → ∀ ca M' F', zRc ce lo V (.inl ca) → zWS N M0 M' F0 F' Ts w most pd p (ce ++ [(10, 0, 0)]) lo → zFq D M M' → zFr M' D (nI j) a39 (nI ca) (nI ce.length) (-1) → zG xs (d + 2) (203, 0, lv_args 0 [zo (some 10), .int (nI D)], []) (zov h M') (zKq Q))
    (g3 : eC e = 59 → ∀ ca M' F', zWS N M0 M' F0 F' Ts (V :: w) most pd p ce lo → zFq D M M' → zFr M' D (nI j) a39 (nI ca) a42 (-1) → zG xs (d + 2) (203, 0, lv_args 0 [zo (some 10), .int (nI D)], []) (zov h M') (zKq Q)) : zG xs (d + 3) (206, 0, lv_args 0 [zo (some 10), .int (nI D)], []) (zov h M) Q := by
  refine zc206p hl hw hs hD he h38 h39 h42 (fun ca M1 hca ws1 fq1 fr1 => ?_)
  have drp : ∀ n, n ≤ 1 → ∃ M2 F2, M2 = zub M1 10 (zMo (zub F 49 (.int (nI (w.length + 1) - nI n)))) ∧ zWS N M0 M2 F0 F2 Ts ((V :: w).drop n) most pd p ce lo ∧ zFq D M M2 ∧ zFr M2 D (nI j) a39 (nI ca) a42 (-1) := by
    intro n hn
    have ws2 := zWS_dr (n := n) ws1 (by rw [List.length_cons]; omega)
    have sM2 : zSm [10] M1 (zub M1 10 (zMo (zub F 49 (.int (nI ((V :: w).length - n)))))) := zSm_ub zSm_refl (by decide)
    refine ⟨_, _, ?_, ws2, zFq_t fq1 (zFq_sm (D := D) sM2 (by decide)), zFr_sm fr1 sM2 (by decide)⟩
    rw [List.length_cons, pk_sub (by omega)]
  rcases hc with c | c | c
  · rw [c]
    refine ⟨fun z => absurd z (by decide), fun _ => zM_pf hl ws1.1.1 ?_⟩
    obtain ⟨M2, F2, eM, ws2, fq2, fr2⟩ := drp 1 (Nat.le_refl _)
    rw [show (1 : Int32) = nI 1 from rfl, ← eM]
    exact ⟨fun z => absurd z (by decide), fun _ => ⟨fun _ => zM_cv hl ws2.1.1 (g1 c ca M2 F2 hca ws2 fq2 fr2), fun z => absurd rfl z⟩⟩
  · rw [c]
    refine ⟨fun z => absurd z (by decide), fun _ => zM_pf hl ws1.1.1 ?_⟩
    obtain ⟨M2, F2, eM, ws2, fq2, fr2⟩ := drp 1 (Nat.le_refl _)
    rw [show (1 : Int32) = nI 1 from rfl, ← eM]
    refine ⟨fun _ => ?_, fun z => absurd rfl z⟩
    refine zGRq hl ws2 (q := 42) (by decide) (zM_cv hl ws2.1.1 (zc187 (k := 10) (a := 0) (b := 0) hl ws2.1 hce (by decide) (by decide) (by decide) (fun M3 F3 p3 s3 t3 => zKI_v ?_)))
    have ws3 : zWS N M0 M3 F0 F3 Ts w most pd p (ce ++ [(10, 0, 0)]) lo := zWS_up ws2 s3 t3 p3 (zTbl_sm (zWS_t ws2) s3 (t3 21 (by decide)) (by decide)) (fun x V hx => by
      have := zCr_app (X := [(10, 0, 0)]) (Y := []) hx
      rw [List.append_nil] at this; exact this) (zSc4_sm (zWS_4 ws2) s3 (by decide)) (by decide) (by decide)
    refine zfs hl ws3 (by decide) hD (fun M4 ws4 fq4 at4 oth4 => ?_)
    obtain ⟨f1, f2, f3, f4, f5⟩ := zFr_sm fr2 s3 (by decide)
    refine ⟨fun z => absurd z (by decide), fun _ => ⟨fun _ => zM_cv hl ws4.1.1 (g2 c ca M4 F3 hca ws4 (zFq_t (zFq_t fq2 (zFq_sm s3 (by decide))) fq4) ⟨(oth4 38 D (by decide)).trans f1, (oth4 39 D (by decide)).trans f2, (oth4 41 D (by decide)).trans f3, at4, (oth4 43 D (by decide)).trans f5⟩), fun z => absurd rfl z⟩⟩
  · rw [c]
    refine ⟨fun _ => zM_pf hl ws1.1.1 ?_, fun z => absurd rfl z⟩
    obtain ⟨M2, F2, eM, ws2, fq2, fr2⟩ := drp 0 (by omega)
    rw [show (0 : Int32) = nI 0 from rfl, ← eM]
    exact ⟨fun z => absurd z (by decide), fun _ => ⟨fun z => absurd z (by decide), fun _ => ⟨fun z => absurd z (by decide), fun _ => ⟨fun _ => zM_cv hl ws2.1.1 (g3 c ca M2 F2 ws2 fq2 fr2), fun z => absurd rfl z⟩⟩⟩⟩
/-- again(): DIP -/
theorem zc202d (hl : 50 ≤ h.1.length) (hw : zWC N fr bits bound M0 F0) (hs : zWS N M0 M F0 F Ts vs most pd p ce lo) (hD : D < 12) (he : N[j]? = some e) (hc : eC e = 33) (hf : zFr M D (nI j) a39 a41 a42 a43) (hx : zCr ce lo a41 V) (hlen : vs.length < 16) (g : ∀ M' F' most', zWS N M0 M' F0 F' Ts (V :: vs) most' pd p ce lo → zFq (D + 1) M M' → Q (.inl (some (.int (-1)))) (zov h M')) : zG xs (d + 3) (202, 0, lv_args 0 [zo (some 10), .int (nI D)], []) (zov h M) Q := by
  obtain ⟨f1, f2, f3, f4, f5⟩ := hf
  apply zm_202
  refine zcod hl hw hs hD he f1 ?_
  rw [hc]
  refine ⟨fun _ => zfg hl hs (q := 41) (by decide) hD f3 (zpu_M (d := d + 2) hl hs hx hlen (fun M2 F2 ws2 sM2 => ?_)), fun z => absurd rfl z⟩
  exact ⟨fun z => absurd z (by decide), fun _ => ⟨fun z => absurd z (by decide), fun _ => ⟨fun z => absurd z (by decide), fun _ => ⟨fun z => absurd z (by decide), fun _ => g M2 F2 _ ws2 (zFq_sm sM2 (by decide))⟩⟩⟩⟩
/-- again(): two rows -/
theorem zc202t (hl : 50 ≤ h.1.length) (hw : zWC N fr bits bound M0 F0) (hs : zWS N M0 M F0 F Ts vs most pd p ce lo) (hD : D < 12) (he : N[j]? = some e) (hc : eC e = 58 ∨ eC e = 41 ∨ eC e = 44 ∨ eC e = 47) (hf : zFr M D (nI j) a39 a41 a42 a43) (g : Q (.inl (some (.int (-1)))) (zov h M)) : zG xs (d + 3) (202, 0, lv_args 0 [zo (some 10), .int (nI D)], []) (zov h M) Q := by
  apply zm_202
  refine zcod hl hw hs hD he hf.1 ?_
  have ne : ∀ q : Nat, q < 100 → q ≠ eC e → ¬ nI (eC e) = nI q := fun q hq hn z => hn ((nI_eq (by omega) (by omega)).mp z).symm
  exact ⟨fun z => absurd z (ne 33 (by omega) (by omega)), fun _ => ⟨fun z => absurd z (ne 50 (by omega) (by omega)), fun _ => ⟨fun z => absurd z (ne 49 (by omega) (by omega)), fun _ => ⟨fun z => absurd z (ne 50 (by omega) (by omega)), fun _ => ⟨fun z => absurd z (ne 59 (by omega) (by omega)), fun _ => g⟩⟩⟩⟩⟩
/-- again(): ITER, LOOP -/
theorem zc202r (hl : 50 ≤ h.1.length) (hw : zWC N fr bits bound M0 F0) (hs : zWS N M0 M F0 F Ts vs most pd p ce lo) (hD : D < 12) (he : N[j]? = some e) (hc : eC e = 49 ∨ eC e = 59) (hf : zFr M D (nI j) a39 a41 a42 a43) (g : zG xs (d + 2) (203, 0, lv_args 0 [zo (some 10), .int (nI D)], []) (zov h M) (zKq Q)) : zG xs (d + 3) (202, 0, lv_args 0 [zo (some 10), .int (nI D)], []) (zov h M) Q := by
  apply zm_202
  refine zcod hl hw hs hD he hf.1 ?_
  rcases hc with c | c
  · rw [c]
    exact ⟨fun z => absurd z (by decide), fun _ => ⟨fun z => absurd z (by decide), fun _ => ⟨fun _ => zM_cv hl hs.1.1 g, fun z => absurd rfl z⟩⟩⟩
  · rw [c]
    exact ⟨fun z => absurd z (by decide), fun _ => ⟨fun z => absurd z (by decide), fun _ => ⟨fun z => absurd z (by decide), fun _ => ⟨fun z => absurd z (by decide), fun _ => ⟨fun _ => zM_cv hl hs.1.1 g, fun z => absurd rfl z⟩⟩⟩⟩⟩
/-- again(): MAP -/
theorem zc202m (hg : zGd N) (hl : 50 ≤ h.1.length) (hw : zWC N fr bits bound M0 F0) (hs : zWS N M0 M F0 F Ts (V :: w) most pd p (ce0 ++ X) lo) (hD : D < 12) (he : N[j]? = some e) (hc : eC e = 50) (hce : (ce0 ++ X).length < 1400) (hf : zFr M D (nI j) a39 a41 (zMhd z0 ts) (zMtl ts)) (hm : zMch (ce0 ++ X) lo ce0.length z0 acc ts) (hV : zCv V) (hwv : ∀ v ∈ w, zCv v) (hacc : ∀ v ∈ acc, zCv v)
    (g : ∀ M' F' X' ts', zWS N M0 M' F0 F' Ts w most pd p (ce0 ++ X') lo → X'.length = X.length + 1 → zMch (ce0 ++ X') lo ce0.length z0 (acc ++ [V]) ts' → zFr M' D (nI j) a39 a41 (zMhd z0 ts') (zMtl ts') → zFq D M M' → zG xs (d + 2) (203, 0, lv_args 0 [zo (some 10), .int (nI D)], []) (zov h M') (zKq Q)) : zG xs (d + 3) (202, 0, lv_args 0 [zo (some 10), .int (nI D)], []) (zov h M) Q := by
  obtain ⟨f1, f2, f3, f4, f5⟩ := hf
  have hm' := hm
  obtain ⟨h1, h2, h3, h4, ⟨zx, zy, h5⟩, h6⟩ := hm'
  have hz0 := (List.getElem?_eq_some_iff.mp h5).1
  apply zm_202
  refine zcod hl hw hs hD he f1 ?_
  rw [hc]
  refine ⟨fun z => absurd z (by decide), fun _ => ⟨fun _ => ?_, fun z => absurd rfl z⟩⟩
  refine zfg hl hs (q := 43) (by decide) hD f5 ?_
  refine zM_cv hl hs.1.1 (zc173 (d := d + 2) (k := 0) hl hs.1.1 hs.1.2.1 hs.2.2.2.2.1 (by decide) (fun U y hU hy => zKI_v ?_) (fun z => absurd z (by rw [List.length_cons]; omega)))
  cases hU
  obtain ⟨cv, rfl, hcv⟩ := hy
  have cv14 := zRc_14 hs.1 hcv
  -- behind the new cell: the list masked at it, its size less by one
  have cell : ∀ (M1 : Nat → zE) (F1 : Nat → Value), zPo M1 F1 ((ce0 ++ X) ++ [(11, cv, z0)]) lo → zSm [10, 30, 31, 32] M M1 → zSm [27] F F1 → ∃ M2 F2, M2 = zub M1 10 (zMo (zub F1 49 (.int (nI (w.length + 1) - nI 1)))) ∧ F1 49 = .int (nI (w.length + 1)) ∧ zWS N M0 M2 F0 F2 Ts w most pd p ((ce0 ++ X) ++ [(11 + zmK, cv, z0)]) lo ∧ (∀ q k, q ∈ zfrs → zAt M2 q k = zAt M q k) ∧ zFq D M M2 := by
    intro M1 F1 p1 s1 t1
    have p1' := zPo_kind (w' := 11 + zmK) p1 zget_new (by rw [zmK_n])
    rw [zset_new] at p1'
    have ws1 : zWS N M0 M1 F0 F1 Ts (V :: w) most pd p ((ce0 ++ X) ++ [(11 + zmK, cv, z0)]) lo := zWS_up hs s1 t1 p1' (zTbl_sm (zWS_t hs) s1 (t1 21 (by decide)) (by decide)) (fun x V hx => by
      have := zCr_app (X := [(11 + zmK, cv, z0)]) (Y := []) hx
      rw [List.append_nil] at this; exact this) (zSc4_sm (zWS_4 hs) s1 (by decide)) (by decide) (by decide)
    have ws2 := zWS_dr (n := 1) ws1 (by rw [List.length_cons]; omega)
    have sM2 : zSm [10] M1 (zub M1 10 (zMo (zub F1 49 (.int (nI ((V :: w).length - 1)))))) := zSm_ub zSm_refl (by decide)
    have sm := zSm_trans (U := [10, 30, 31, 32]) s1 sM2 (fun _ z => z) (fun k hk => by rw [List.mem_singleton.mp hk]; decide)
    refine ⟨_, _, ?_, ws1.2.2.2.2.1.1, ws2, fun q k hq => zAt_sm sm ?_, zFq_sm sm (by decide)⟩
    · rw [List.length_cons, pk_sub (by omega)]
    · have all : ∀ q ∈ zfrs, ([10, 30, 31, 32] : List Nat).contains q = false := by decide
      exact all q hq
  have lnm : ((ce0 ++ X) ++ [(11 + zmK, cv, z0)]) = ce0 ++ (X ++ [(11 + zmK, cv, z0)]) := List.append_assoc _ _ _
  -- the tail is set, then more()
  have fin : ∀ (M3 : Nat → zE) (F3 : Nat → Value) (X' : List (Nat × Nat × Nat)) (ts' : List Nat), zWS N M0 M3 F0 F3 Ts w most pd p (ce0 ++ X') lo → X'.length = X.length + 1 → zMch (ce0 ++ X') lo ce0.length z0 (acc ++ [V]) ts' → zAt M3 38 D = some (nI j) → zAt M3 39 D = some a39 → zAt M3 41 D = some a41 → zAt M3 42 D = some (zMhd z0 ts') → zMtl ts' = nI (ce0 ++ X).length → zFq D M M3 → zw_202_107 xs (d + 3) Q (some 10) (nI D) (nI 50) (nI (ce0 ++ X).length) (zov h M3) := by
    intro M3 F3 X' ts' ws3 lx hm3 q38 q39 q41 q42 qt fq3
    refine zGRq hl ws3 (q := 43) (by decide) (zfs hl ws3 (by decide) hD (fun M4 ws4 fq4 at4 oth4 => ?_))
    refine ⟨fun z => absurd z (by decide), fun _ => ⟨fun _ => zM_cv hl ws4.1.1 (g M4 F3 X' ts' ws4 lx hm3 ⟨(oth4 38 D (by decide)).trans q38, (oth4 39 D (by decide)).trans q39, (oth4 41 D (by decide)).trans q41, (oth4 42 D (by decide)).trans q42, by rw [qt]; exact at4⟩ (zFq_t fq3 fq4)), fun z => absurd rfl z⟩⟩
  cases hts : ts[ts.length - 1]? with
  | none =>
    have t0 : ts = [] := by
      by_cases z : ts.length = 0
      · exact List.eq_nil_of_length_eq_zero z
      · rw [List.getElem?_eq_getElem (by omega)] at hts; cases hts
    subst t0
    have a0 : acc = [] := List.eq_nil_of_length_eq_zero h1.symm
    subst a0
    refine ⟨fun _ => ?_, fun z => absurd (by decide) z⟩
    refine zfg hl hs (q := 42) (by decide) hD f4 ?_
    refine zM_cv hl hs.1.1 (zc187 (k := 11) (a := cv) (b := z0) hl hs.1 hce (by decide) (by omega) (by omega) (fun M1 F1 p1 s1 t1 => zKI_v ?_))
    obtain ⟨M2, F2, eM, e49, ws2, frm, fq2⟩ := cell M1 F1 p1 s1 t1
    refine zM_gi hl p1.1 e49 (zM_pf hl p1.1 ?_)
    rw [show (1 : Int32) = nI 1 from rfl, ← eM]
    refine ⟨fun _ => ?_, fun z => absurd (by decide) z⟩
    refine zGRq hl ws2 (q := 42) (by decide) (zfs hl ws2 (by decide) hD (fun M3 ws3 fq3 at3 oth3 => ?_))
    have hm3 := zMch_one hm (by rw [List.length_append]; omega) hcv
    rw [lnm] at ws3 hm3
    exact fin M3 F2 _ [(ce0 ++ X).length] ws3 (by rw [List.length_append]; rfl) hm3 ((oth3 38 D (by decide)).trans ((frm 38 D (by decide)).trans f1)) ((oth3 39 D (by decide)).trans ((frm 39 D (by decide)).trans f2)) ((oth3 41 D (by decide)).trans ((frm 41 D (by decide)).trans f3)) at3 rfl (zFq_t fq2 fq3)
  | some tl =>
    have htl := (List.getElem?_eq_some_iff.mp hts).1
    obtain ⟨v, hv⟩ : ∃ v, acc[ts.length - 1]? = some v := ⟨_, List.getElem?_eq_getElem (by omega)⟩
    obtain ⟨hdl, g1, g2⟩ := h6 _ v tl hv hts
    rw [if_pos (by omega), List.getElem?_eq_none (l := ts) (by omega), Option.getD_none] at g1
    have hb3 := h3 tl (List.mem_of_getElem? hts)
    have etl : zMtl ts = nI tl := by unfold zMtl; rw [hts]
    rw [etl]
    refine ⟨fun z => absurd z (nI_pos (by omega)), fun _ => zM_body hl hs.1 g1 ?_⟩
    refine zM_cv hl hs.1.1 (zc187 (k := 11) (a := cv) (b := z0) hl hs.1 hce (by decide) (by omega) (by omega) (fun M1 F1 p1 s1 t1 => zKI_v ?_))
    obtain ⟨M2, F2, eM, e49, ws2, frm, fq2⟩ := cell M1 F1 p1 s1 t1
    refine zM_gi hl p1.1 e49 (zM_pf hl p1.1 ?_)
    rw [show (1 : Int32) = nI 1 from rfl, ← eM]
    refine ⟨fun z => absurd z (nI_pos (by omega)), fun _ => ?_⟩
    have g1' : ((ce0 ++ X) ++ [(11 + zmK, cv, z0)])[tl]? = some (11 + zmK, hdl, z0) := zget_app g1
    refine zPo_body hl ws2.1 g1' (by omega) (fun M3 p3 s3 => ?_)
    have p3' := zPo_kind (w' := 11) p3 (List.getElem?_set_self (by rw [List.length_append]; omega)) (by rw [zmK_n])
    rw [List.set_set] at p3'
    have ws3 := zWS_set hg ws2 hwv s3 (by decide) p3' g1' (by omega)
    have hm3 := zMch_snoc hm (by rw [List.length_append]; omega) hts g1 hcv hV hacc
    have fr3 : ∀ q k, q ∈ zfrs → zAt M3 q k = zAt M q k := fun q k hq => by
      have all : ∀ q ∈ zfrs, ([32] : List Nat).contains q = false := by decide
      rw [zAt_sm s3 (all q hq)]
      exact frm q k hq
    rw [lnm, List.set_append_right _ _ hb3.1] at ws3 hm3
    refine fin M3 F2 _ (ts ++ [(ce0 ++ X).length]) ws3 (by rw [List.length_set, List.length_append]; rfl) hm3 ((fr3 38 D (by decide)).trans f1) ((fr3 39 D (by decide)).trans f2) ((fr3 41 D (by decide)).trans f3) ?_ ?_ (zFq_t fq2 (zFq_sm s3 (by decide)))
    · rw [fr3 42 D (by decide), f4]
      unfold zMhd
      rw [List.getElem?_append_left (by omega)]
    · unfold zMtl
      generalize (ce0 ++ X).length = n
      rw [List.length_append, List.length_singleton, Nat.add_sub_cancel, zget_new]
end RN5
