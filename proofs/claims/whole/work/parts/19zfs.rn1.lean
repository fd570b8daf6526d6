/-! the reference at work: frames, and more() -/
def zFq (D : Nat) (M M' : Nat → zE) : Prop := ∀ q, q ∈ zfrs → ∀ k, k < D → zAt M' q k = zAt M q k
/-- the frame at D -/
def zFr (M : Nat → zE) (D : Nat) (a38 a39 a41 a42 a43 : Int32) : Prop := zAt M 38 D = some a38 ∧ zAt M 39 D = some a39 ∧ zAt M 41 D = some a41 ∧ zAt M 42 D = some a42 ∧ zAt M 43 D = some a43
section RN1
variable {xs : List Value} {d : Nat} {h : zH} {N : List zNt} {M0 M M' M2 : Nat → zE} {F0 F F' : Nat → Value} {Q : zO → zH → Prop} {ce : List (Nat × Nat × Nat)} {lo : List (Nat × Nat)} {Ts vs w : List Term} {pd : List Int32} {most p p' bits bound j fr q D : Nat} {x y a38 a39 a41 a42 a43 : Int32} {V : Term} {e : zNt} {E : Nat → zH → Prop} {KI : Int32 → Prop} {KH : zH → Prop} {S : List Nat}
theorem zFq_refl : zFq D M M := fun _ _ _ _ => rfl
theorem zFq_t (h1 : zFq D M M') (h2 : zFq D M' M2) : zFq D M M2 := fun q hq k hk => (h2 q hq k hk).trans (h1 q hq k hk)
theorem zFq_le {D' : Nat} (h1 : zFq D' M M') (hd : D ≤ D') : zFq D M M' := fun q hq k hk => h1 q hq k (by omega)
theorem zFq_sm (hM : zSm S M M') (hS : (S.all fun q => !(zfrs.contains q)) = true) : zFq D M M' := fun q hq k _ => zAt_sm hM (by
  cases hc : S.contains q with
  | false => rfl
  | true =>
    have := List.all_eq_true.mp hS q (List.contains_iff_mem.mp hc)
    rw [List.contains_iff_mem.mpr hq] at this
    cases this)
theorem zFr_q (h1 : zFr M D a38 a39 a41 a42 a43) (h2 : zFq (D + 1) M M') : zFr M' D a38 a39 a41 a42 a43 := by
  obtain ⟨b1, b2, b3, b4, b5⟩ := h1
  exact ⟨(h2 38 (by decide) D (by omega)).trans b1, (h2 39 (by decide) D (by omega)).trans b2, (h2 41 (by decide) D (by omega)).trans b3, (h2 42 (by decide) D (by omega)).trans b4, (h2 43 (by decide) D (by omega)).trans b5⟩
theorem zWS_c (hs : zWS N M0 M F0 F Ts vs most pd p ce lo) (hw : zWC N fr bits bound M0 F0) : zNr M F N fr ∧ zNx M N ∧ F 60 = .int (nI bound) ∧ N.length ≤ 100 := ⟨zNr_sm hw.1 hs.2.1 (hs.2.2.1 8 (by decide)) (by decide), zNx_sm hw.2.1 hs.2.1 (by decide), (hs.2.2.1 60 (by decide)).trans hw.2.2.2.2.2.2, hw.2.2.1.1.1⟩
/-- reading a frame -/
theorem zfg (hl : 50 ≤ h.1.length) (hs : zWS N M0 M F0 F Ts vs most pd p ce lo) (hq : q ∈ zfrs) (hD : D < 12) (hv : zAt M q D = some x) (k : KI x) : zGR (some 10) 12 q (zov h M) fun z => zIA xs z (nI D) (zov h M) KI := by
  obtain ⟨L, l1, l2⟩ := hs.2.2.2.2.2.2.2.2.1 q hq
  rw [zAt_i l1] at hv
  have hr : F q = .ref q := by
    have := hs.1.2.1
    have all : ∀ q ∈ zfrs, (q, q) ∈ zrfs := by decide
    exact this (q, q) (all q hq)
  have r : 10 ≤ q ∧ q ≤ 52 ∧ q < 67 := by
    have all : ∀ q ∈ zfrs, 10 ≤ q ∧ q ≤ 52 ∧ q < 67 := by decide
    exact all q hq
  exact zM_gr hl hs.1.1 hr (zM_ia' hl l1 hv k (by omega) r.1 r.2.1) r.2.2
/-- writing a frame -/
theorem zfs (hl : 50 ≤ h.1.length) (hs : zWS N M0 M F0 F Ts vs most pd p ce lo) (hq : q ∈ zfrs) (hD : D < 12) (k : ∀ M', zWS N M0 M' F0 F Ts vs most pd p ce lo → zFq D M M' → zAt M' q D = some y → (∀ q' k, q' ≠ q → zAt M' q' k = zAt M q' k) → KH (zov h M')) : zST 0 (some q) (nI D) (.int y) (zov h M) KH := by
  obtain ⟨a1, a2, a3, a4, a5, a6, a7, a8, a9, a10, a11, a12⟩ := hs
  obtain ⟨L, l1, l2⟩ := a9 q hq
  have r : 10 ≤ q ∧ q ≤ 52 ∧ q < 67 := by
    have all : ∀ q ∈ zfrs, 10 ≤ q ∧ q ≤ 52 ∧ q < 67 := by decide
    exact all q hq
  have sM : zSm [q] M (zub M q (zAi (L.set D y))) := zSm_ub zSm_refl List.mem_cons_self
  have dis : ∀ (T : List Nat), (∀ t ∈ T, t ∉ zfrs) → (T.all fun t => !([q].contains t)) = true := fun T hT => List.all_eq_true.mpr (fun t ht => by
    have : t ≠ q := fun z => hT t ht (by rw [z]; exact hq)
    simp [this])
  have n10 : q ≠ 10 := fun z => by rw [z] at hq; exact absurd hq (by decide)
  have n48 : [q].contains 48 = false := by
    have : q ≠ 48 := fun z => by rw [z] at hq; exact absurd hq (by decide)
    simp [Ne.symm this]
  refine zM_st' hl l1 (by omega) (by omega) (k _ ⟨zPo_sm a1 (by rw [zub_n (Ne.symm n10)]; exact a1.1) sM (T := []) zSm_refl (dis _ (by decide)) (by decide), zSm_trans a2 sM (fun _ z => z) (fun t ht => by
      rw [List.mem_singleton.mp ht]
      have all : ∀ q ∈ zfrs, q ∈ zwkS := by decide
      exact all q hq), a3, zTbl_sm a4 sM rfl (dis _ (by decide)), zSt_sm a5 sM (S' := []) zSm_refl n48 (by decide), a6, a7, zSc4_sm a8 sM (dis _ (by decide)), fun t ht => ?_, ?_, a11, a12⟩ (fun t ht i hi => ?_) ?_ (fun t i ht => ?_)) r.1 r.2.1
  · by_cases ht2 : t = q
    · subst ht2; exact ⟨_, zub_s, by rw [List.length_set]; exact l2⟩
    · obtain ⟨L2, m1, m2⟩ := a9 t ht
      exact ⟨L2, by rw [zub_n ht2]; exact m1, m2⟩
  · have : (52 : Nat) ≠ q := fun z => by rw [← z] at hq; exact absurd hq (by decide)
    rw [zub_n this]; exact a10
  · by_cases ht2 : t = q
    · subst ht2
      rw [zAt_i zub_s, zAt_i l1, List.getElem?_set_ne (by omega)]
    · exact zAt_sm sM (by simp [ht2])
  · rw [zAt_i zub_s, List.getElem?_set_self (by omega)]
  · exact zAt_sm sM (by simp [ht])
theorem zGRq (hl : 50 ≤ h.1.length) (hs : zWS N M0 M F0 F Ts vs most pd p ce lo) (hq : q ∈ zfrs) {KP : zP → Prop} (k : KP (some q)) : zGR (some 10) 12 q (zov h M) KP := by
  have hr : F q = .ref q := by
    have := hs.1.2.1
    have all : ∀ q ∈ zfrs, (q, q) ∈ zrfs := by decide
    exact this (q, q) (all q hq)
  have r : q < 67 := by
    have all : ∀ q ∈ zfrs, q < 67 := by decide
    exact all q hq
  exact zM_gr hl hs.1.1 hr k r
/-- the cost -/
theorem zWS_p (hs : zWS N M0 M F0 F Ts vs most pd p ce lo) (p' : Nat) : zWS N M0 (zub M 10 (zMo (zub F 59 (.int (nI p'))))) F0 (zub F 59 (.int (nI p'))) Ts vs most pd p' ce lo := by
  obtain ⟨a1, a2, a3, a4, a5, a6, a7, a8, a9, a10, a11, a12⟩ := hs
  have sM : zSm [10] M (zub M 10 (zMo (zub F 59 (.int (nI p'))))) := zSm_ub zSm_refl (by decide)
  have sF : zSm [59] F (zub F 59 (.int (nI p'))) := zSm_ub zSm_refl (by decide)
  exact ⟨zPo_sm a1 zub_s sM sF (by decide) (by decide), zSm_trans a2 sM (fun _ z => z) (fun k hk => by rw [List.mem_singleton.mp hk]; decide), zSm_trans a3 sF (fun _ z => z) (fun k hk => by rw [List.mem_singleton.mp hk]; decide), zTbl_sm a4 sM (sF 21 (by decide)) (by decide), zSt_sm a5 sM sF (by decide) (by decide), a6, zub_s, zSc4_sm a8 sM (by decide), zFw_sm a9 sM (by decide), (sM 52 (by decide)).trans a10, a11, a12⟩
theorem zFr_sm (hf : zFr M D a38 a39 a41 a42 a43) (hM : zSm S M M') (hS : (S.all fun q => !(zfrs.contains q)) = true) : zFr M' D a38 a39 a41 a42 a43 := zFr_q hf (zFq_sm hM hS)
/-- more(): the next element of a row -/
theorem zc203i {w hd bd at_ : Nat} (hl : 50 ≤ h.1.length) (hw : zWC N fr bits bound M0 F0) (hs : zWS N M0 M F0 F Ts vs most pd p ce lo) (hD : D < 12) (he : N[j]? = some e) (hc : eC e = 49 ∨ eC e = 50) (hf : zFr M D (nI j) a39 (nI at_) a42 a43) (hat : ce[at_]? = some (w, hd, bd)) (hlk : zlk w = true) (hw2 : w < 100) (hv : zRc ce lo V (.inl hd)) (hlen : vs.length < 16) (hb : bound ≤ 150 ∧ p ≤ 150)
    (q0 : ¬ p + 1 ≤ bound → ∀ M' F', zWS N M0 M' F0 F' Ts vs most pd (p + 1) ce lo → zFq (D + 1) M M' → Q (.inl (some (.int (-2)))) (zov h M'))
    (q1 : p + 1 ≤ bound → ∀ M' F' most', zWS N M0 M' F0 F' Ts (V :: vs) most' pd (p + 1) ce lo → zFq D M M' → zFr M' D (nI j) a39 (nI bd) a42 a43 → Q (.inl (some (.int (nI (j + 1))))) (zov h M')) : zG xs (d + 2) (203, 0, lv_args 0 [zo (some 10), .int (nI D)], []) (zov h M) Q := by
  obtain ⟨f1, f2, f3, f4, f5⟩ := hf
  obtain ⟨r1, r2, r3, r4⟩ := zWS_c hs hw
  have hjl := (List.getElem?_eq_some_iff.mp he).1
  have c59 : ¬ nI (eC e) = (59 : Int32) := fun z => absurd ((nI_eq (a := eC e) (b := 59) (by omega) (by omega)).mp z) (by omega)
  apply zm_203
  refine zfg hl hs (q := 38) (by decide) hD f1 (zM_nC hl hs.1.1 hs.1.2.1 r1 he (zfg hl hs (q := 41) (by decide) hD f3 ⟨fun z => absurd z c59, fun _ => ⟨fun z => absurd z c59, fun _ => ?_⟩⟩))
  refine zM_cv hl hs.1.1 (zc204 hl hs.1 hat hw2 (zKI_v ⟨fun z => absurd z (by rw [show ((w, hd, bd) : Nat × Nat × Nat).1 = w from rfl, hlk]; decide), fun _ => ⟨fun _ => ⟨fun _ => ?_, fun z => absurd rfl z⟩, fun z => absurd rfl z⟩⟩))
  refine zM_gi hl hs.1.1 hs.2.2.2.2.2.2.1 (zM_pf hl hs.1.1 ?_)
  rw [nI_1]
  have ws1 := zWS_p hs (p + 1)
  have sM1 : zSm [10] M (zub M 10 (zMo (zub F 59 (.int (nI (p + 1)))))) := zSm_ub zSm_refl (by decide)
  refine zM_gi hl ws1.1.1 ws1.2.2.2.2.2.2.1 (zM_gi hl ws1.1.1 (zWS_c ws1 hw).2.2.1 (pk_lt bound (p + 1) (fun hgt => q0 (by omega) _ _ ws1 (zFq_sm sM1 (by decide))) (fun hle => ⟨fun z => absurd z c59, fun _ => ?_⟩)))
  refine zM_head hl ws1.1 hat (zpu_M (d := d + 1) hl ws1 ⟨hd, rfl, hv⟩ hlen (fun M2 F2 ws2 sM2 => ⟨fun z => absurd z c59, fun _ => ?_⟩))
  refine zGRq hl ws2 (q := 41) (by decide) (zM_body hl ws2.1 hat (zfs hl ws2 (by decide) hD (fun M3 ws3 fq3 at3 oth3 => ?_)))
  have sm := zSm_trans (U := [10, 48]) sM1 sM2 (fun k hk => by rw [List.mem_singleton.mp hk]; decide) (fun _ z => z)
  have fr2 : ∀ q k, q ∈ zfrs → zAt M2 q k = zAt M q k := fun q k hq => zAt_sm sm (by
    have all : ∀ q ∈ zfrs, ([10, 48] : List Nat).contains q = false := by decide
    exact all q hq)
  rw [zw_203_174, nI_1]
  exact q1 hle M3 F2 _ ws3 (zFq_t (zFq_sm sm (by decide)) fq3) ⟨(oth3 38 D (by decide)).trans ((fr2 38 D (by decide)).trans f1), (oth3 39 D (by decide)).trans ((fr2 39 D (by decide)).trans f2), at3, (oth3 42 D (by decide)).trans ((fr2 42 D (by decide)).trans f4), (oth3 43 D (by decide)).trans ((fr2 43 D (by decide)).trans f5)⟩
/-- more(): a row is over -/
theorem zc203e {w hd bd at_ : Nat} (hl : 50 ≤ h.1.length) (hw : zWC N fr bits bound M0 F0) (hs : zWS N M0 M F0 F Ts vs most pd p ce lo) (hD : D < 12) (he : N[j]? = some e) (hc : eC e = 49 ∨ eC e = 50) (hf : zFr M D (nI j) a39 (nI at_) a42 a43) (hat : ce[at_]? = some (w, hd, bd)) (hlk : zlk w = false) (hw2 : w < 100) (hlen : vs.length < 16)
    (q1 : eC e = 49 → Q (.inl (some (.int (-1)))) (zov h M)) (q2 : eC e = 50 → ∃ V, zCr ce lo a42 V ∧ ∀ M' F' most', zWS N M0 M' F0 F' Ts (V :: vs) most' pd p ce lo → zFq (D + 1) M M' → Q (.inl (some (.int (-1)))) (zov h M')) : zG xs (d + 2) (203, 0, lv_args 0 [zo (some 10), .int (nI D)], []) (zov h M) Q := by
  obtain ⟨f1, f2, f3, f4, f5⟩ := hf
  obtain ⟨r1, r2, r3, r4⟩ := zWS_c hs hw
  have hjl := (List.getElem?_eq_some_iff.mp he).1
  have c59 : ¬ nI (eC e) = (59 : Int32) := fun z => absurd ((nI_eq (a := eC e) (b := 59) (by omega) (by omega)).mp z) (by omega)
  apply zm_203
  refine zfg hl hs (q := 38) (by decide) hD f1 (zM_nC hl hs.1.1 hs.1.2.1 r1 he (zfg hl hs (q := 41) (by decide) hD f3 ⟨fun z => absurd z c59, fun _ => ⟨fun z => absurd z c59, fun _ => ?_⟩⟩))
  refine zM_cv hl hs.1.1 (zc204 hl hs.1 hat hw2 (zKI_v ⟨fun _ => ⟨fun z => absurd z (by decide), fun _ => pk_eq (eC e) 50 (fun z50 => ?_) (fun z50 => ?_)⟩, fun z => absurd (by rw [show ((w, hd, bd) : Nat × Nat × Nat).1 = w from rfl, hlk]; rfl) z⟩))
  · obtain ⟨V, hV, k⟩ := q2 z50
    exact zfg hl hs (q := 42) (by decide) hD f4 (zpu_M (d := d + 1) hl hs hV hlen (fun M2 F2 ws2 sM2 => ⟨fun z => absurd z (by decide), fun _ => k M2 F2 _ ws2 (zFq_sm sM2 (by decide))⟩))
  · exact ⟨fun z => absurd z (by decide), fun _ => q1 (by omega)⟩
/-- more(): LOOP -/
theorem zc203l (hl : 50 ≤ h.1.length) (hw : zWC N fr bits bound M0 F0) (hs : zWS N M0 M F0 F Ts (V :: w) most pd p ce lo) (hD : D < 12) (he : N[j]? = some e) (hc : eC e = 59) (hf : zFr M D (nI j) a39 a41 a42 a43) (hV : V = .arg 21 ∨ V = .arg 22) (hb : bound ≤ 150 ∧ p ≤ 150)
    (q1 : V = .arg 21 → ∀ M' F', zWS N M0 M' F0 F' Ts w most pd p ce lo → zFq (D + 1) M M' → Q (.inl (some (.int (-1)))) (zov h M'))
    (q0 : V = .arg 22 → ¬ p + 1 ≤ bound → ∀ M' F', zWS N M0 M' F0 F' Ts w most pd (p + 1) ce lo → zFq (D + 1) M M' → Q (.inl (some (.int (-2)))) (zov h M'))
    (q2 : V = .arg 22 → p + 1 ≤ bound → ∀ M' F', zWS N M0 M' F0 F' Ts w most pd (p + 1) ce lo → zFq (D + 1) M M' → Q (.inl (some (.int (nI (j + 1))))) (zov h M')) : zG xs (d + 2) (203, 0, lv_args 0 [zo (some 10), .int (nI D)], []) (zov h M) Q := by
  obtain ⟨f1, f2, f3, f4, f5⟩ := hf
  obtain ⟨r1, r2, r3, r4⟩ := zWS_c hs hw
  have hjl := (List.getElem?_eq_some_iff.mp he).1
  apply zm_203
  refine zfg hl hs (q := 38) (by decide) hD f1 (zM_nC hl hs.1.1 hs.1.2.1 r1 he (zfg hl hs (q := 41) (by decide) hD f3 ?_))
  rw [hc]
  refine ⟨fun _ => ?_, fun z => absurd rfl z⟩
  have hst := hs.2.2.2.2.1
  obtain ⟨t1, t2, t3, t4, Sk, t5, t6, t7⟩ := hst
  obtain ⟨sx, sx1, cv, rfl, hcv⟩ := t7 0 V rfl
  have sx1 : Sk[w.length]? = some (nI cv) := by
    rw [List.length_cons, show w.length + 1 - 1 - 0 = w.length by omega] at sx1; exact sx1
  refine zM_gi hl hs.1.1 t1 (zM_pf hl hs.1.1 ?_)
  have ws1 := zWS_dr (n := 1) hs (by rw [List.length_cons]; omega)
  rw [show nI (V :: w).length - (1 : Int32) = nI ((V :: w).length - 1) from pk_sub (b := 1) (by rw [List.length_cons]; omega)]
  have sM1 : zSm [10] M (zub M 10 (zMo (zub F 49 (.int (nI ((V :: w).length - 1)))))) := zSm_ub zSm_refl (by decide)
  have ws1 : zWS N M0 (zub M 10 (zMo (zub F 49 (.int (nI ((V :: w).length - 1)))))) F0 (zub F 49 (.int (nI ((V :: w).length - 1)))) Ts w most pd p ce lo := ws1
  generalize zub M 10 (zMo (zub F 49 (.int (nI ((V :: w).length - 1))))) = M1 at ws1 sM1 ⊢
  generalize zub F 49 (.int (nI ((V :: w).length - 1))) = F1 at ws1
  refine ⟨fun _ => ?_, fun z => absurd rfl z⟩
  have h16 := ws1.2.2.2.2.1.2.2.2.1
  obtain ⟨p1, p2, p3, p4, p5, p6, W, H, B0, U, L0, b1, b2, b3, b4, b5, b6, b7, b8, b9, b10, b11, b12⟩ := ws1.1
  refine zM_gr hl p1 (p2 (30, 30) (by decide)) (zM_gr hl p1 (p2 (48, 48) (by decide)) (zM_gi hl p1 ws1.2.2.2.2.1.1 (zM_ia' hl ((sM1 48 (by decide)).trans t5) sx1 ?_)))
  have wcv : ∃ k x y, ce[cv]? = some (k, x, y) ∧ ((k = 1 ∧ V = .arg 21) ∨ (k = 2 ∧ V = .arg 22)) := by
    rcases hV with rfl | rfl
    · obtain ⟨x, y, e1⟩ := hcv; exact ⟨1, x, y, e1, Or.inl ⟨rfl, rfl⟩⟩
    · obtain ⟨x, y, e1⟩ := hcv; exact ⟨2, x, y, e1, Or.inr ⟨rfl, rfl⟩⟩
  obtain ⟨k, x, y, e1, hk⟩ := wcv
  have cvl := (List.getElem?_eq_some_iff.mp e1).1
  refine zM_ba hl b1 (b11 cv _ e1).1 ?_ (by omega)
  rcases hk with ⟨rfl, hv⟩ | ⟨rfl, hv⟩
  · exact ⟨fun _ => ⟨fun z => absurd z (by decide), fun _ => ⟨fun z => absurd z (by decide), fun _ => ⟨fun z => absurd z (by decide), fun _ => q1 hv M1 F1 ws1 (zFq_sm sM1 (by decide))⟩⟩⟩, fun z => absurd rfl z⟩
  · refine ⟨fun z => absurd (show nI 2 = 1 from z) (by decide), fun _ => ⟨fun _ => ⟨fun _ => ?_, fun z => absurd rfl z⟩, fun z => absurd rfl z⟩⟩
    refine zM_gi hl ws1.1.1 ws1.2.2.2.2.2.2.1 (zM_pf hl ws1.1.1 ?_)
    rw [nI_1]
    have ws2 := zWS_p ws1 (p + 1)
    have sM2 : zSm [10] M1 (zub M1 10 (zMo (zub F1 59 (.int (nI (p + 1)))))) := zSm_ub zSm_refl (by decide)
    refine zM_gi hl ws2.1.1 ws2.2.2.2.2.2.2.1 (zM_gi hl ws2.1.1 (zWS_c ws2 hw).2.2.1 (pk_lt bound (p + 1) (fun hgt => q0 hv (by omega) _ _ ws2 (zFq_sm (zSm_t sM1 sM2) (by decide))) (fun hle => ⟨fun _ => ⟨fun _ => ?_, fun z => absurd rfl z⟩, fun z => absurd rfl z⟩)))
    rw [zw_203_174, nI_1]
    exact q2 hv hle _ _ ws2 (zFq_sm (zSm_t sM1 sM2) (by decide))
end RN1
