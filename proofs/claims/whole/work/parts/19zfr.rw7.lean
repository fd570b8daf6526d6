/-! the reference at work: a plain instruction as a whole -/
def zAo (Q : zO → zH → Prop) (h : zH) (N : List zNt) (M0 M : Nat → zE) (F0 : Nat → Value) (Ts : List Term) (pd : List Int32) (p : Nat) (ce : List (Nat × Nat × Nat)) (lo : List (Nat × Nat)) (A : List Nat) (C : Nat) (l : List Term) : Prop := ∀ (M' : Nat → zE) (F' : Nat → Value) (Ts' : List Term) (most' : Nat) (pd' : List Int32) (X : List (Nat × Nat × Nat)) (Y : List (Nat × Nat)), zWS N M0 M' F0 F' Ts' l most' pd' p (ce ++ X) (lo ++ Y) → X.length + 2 * zpw N A pd' ≤ 4 * C + 2 * zpw N A pd → Y.length + zpw N A pd' ≤ 2 * C + zpw N A pd → Ts'.length + zpw N A pd' ≤ Ts.length + zpw N A pd → (∀ q, q ∈ zfrs → M' q = M q) → Q (.inl (some (.int 0))) (zov h M')
section RW7
variable {xs : List Value} {d : Nat} {h : zH} {N : List zNt} {M0 M M' : Nat → zE} {F0 F F' : Nat → Value} {Q : zO → zH → Prop} {ce : List (Nat × Nat × Nat)} {lo : List (Nat × Nat)} {Ts vs st : List Term} {pd : List Int32} {most p bits bound held C c j fr n m ca cb : Nat} {a b x : Int32} {K V T v w : Term} {A : List Nat} {s t : Bool} {e : zNt} {E : Nat → zH → Prop} {KV KH : zH → Prop}
theorem zWS_dr (hs : zWS N M0 M F0 F Ts vs most pd p ce lo) (hn : n ≤ vs.length) : zWS N M0 (zub M 10 (zMo (zub F 49 (.int (nI (vs.length - n)))))) F0 (zub F 49 (.int (nI (vs.length - n)))) Ts (vs.drop n) most pd p ce lo := by
  obtain ⟨a1, a2, a3, a4, a5, a6, a7, a8, a9, a10, a11, a12⟩ := hs
  have sM : zSm [10] M (zub M 10 (zMo (zub F 49 (.int (nI (vs.length - n)))))) := zSm_ub zSm_refl (by decide)
  have sF : zSm [49] F (zub F 49 (.int (nI (vs.length - n)))) := zSm_ub zSm_refl (by decide)
  refine ⟨zPo_sm a1 zub_s sM sF (by decide) (by decide), zSm_trans a2 sM (fun _ z => z) (fun k hk => by rw [List.mem_singleton.mp hk]; decide), zSm_trans a3 sF (fun _ z => z) (fun k hk => by rw [List.mem_singleton.mp hk]; decide), zTbl_sm a4 sM (sF 21 (by decide)) (by decide), zSt_drop a5 hn (sM 48 (by decide)) zub_s (sF 50 (by decide)) (sF 51 (by decide)), a6, (sF 59 (by decide)).trans a7, zSc4_sm a8 sM (by decide), zFw_sm a9 sM (by decide), (sM 52 (by decide)).trans a10, a11, a12⟩
theorem zWS_pu (hl : 50 ≤ h.1.length) (hs : zWS N M0 M F0 F Ts vs most pd p ce lo) (hx : zCr ce lo x V) (hlen : vs.length < 16) (q : ∀ M' F', zWS N M0 M' F0 F' Ts (V :: vs) (max most (vs.length + 1)) pd p ce lo → KV (zov h M')) : zCV xs (d + 1) 168 12 (some 10) [.int x] (zov h M) (zKV KV E) := by
  obtain ⟨a1, a2, a3, a4, a5, a6, a7, a8, a9, a10, a11, a12⟩ := hs
  refine zM_cv hl a1.1 (zc168 hl a1.1 a1.2.1 a5 hx hlen (by decide) (by omega) (fun M' F' u1 sM sF u2 => zKV_v ?_))
  refine q M' F' ⟨zPo_sm a1 u1 sM sF (by decide) (by decide), zSm_trans a2 sM (fun _ z => z) (fun k hk => by revert hk; revert k; decide), zSm_trans a3 sF (fun _ z => z) (fun k hk => by revert hk; revert k; decide), zTbl_sm a4 sM (sF 21 (by decide)) (by decide), u2, by omega, (sF 59 (by decide)).trans a7, zSc4_sm a8 sM (by decide), fun q hq => ?_, (sM 52 (by decide)).trans a10, a11, a12⟩
  obtain ⟨L, l1, l2⟩ := a9 q hq
  have all : ∀ q ∈ ([38, 39, 41, 42, 43] : List Nat), q ∉ ([10, 48] : List Nat) := by decide
  exact ⟨L, by rw [sM q (all q hq)]; exact l1, l2⟩
theorem zpu_M (hl : 50 ≤ h.1.length) (hs : zWS N M0 M F0 F Ts vs most pd p ce lo) (hx : zCr ce lo x V) (hlen : vs.length < 16) (q : ∀ M' F', zWS N M0 M' F0 F' Ts (V :: vs) (max most (vs.length + 1)) pd p ce lo → zSm [10, 48] M M' → KH (zov h M')) : zCV xs (d + 1) 168 12 (some 10) [.int x] (zov h M) (zKV KH E) := by
  obtain ⟨a1, a2, a3, a4, a5, a6, a7, a8, a9, a10, a11, a12⟩ := hs
  refine zM_cv hl a1.1 (zc168 hl a1.1 a1.2.1 a5 hx hlen (by decide) (by omega) (fun M' F' u1 sM sF u2 => zKV_v ?_))
  refine q M' F' ⟨zPo_sm a1 u1 sM sF (by decide) (by decide), zSm_trans a2 sM (fun _ z => z) (fun k hk => by revert hk; revert k; decide), zSm_trans a3 sF (fun _ z => z) (fun k hk => by revert hk; revert k; decide), zTbl_sm a4 sM (sF 21 (by decide)) (by decide), u2, by omega, (sF 59 (by decide)).trans a7, zSc4_sm a8 sM (by decide), fun q hq => ?_, (sM 52 (by decide)).trans a10, a11, a12⟩ sM
  obtain ⟨L, l1, l2⟩ := a9 q hq
  have all : ∀ q ∈ ([38, 39, 41, 42, 43] : List Nat), q ∉ ([10, 48] : List Nat) := by decide
  exact ⟨L, by rw [sM q (all q hq)]; exact l1, l2⟩
theorem zdone (hc : 30 ≤ c ∧ c < 60 ∧ c ≠ 30 ∧ c ≠ 32 ∧ c ≠ 34 ∧ c ≠ 33 ∧ c ≠ 41 ∧ c ≠ 44 ∧ c ≠ 47 ∧ c ≠ 49 ∧ c ≠ 50 ∧ c ≠ 58 ∧ c ≠ 59) (hl : 50 ≤ h.1.length) (hs : zWS N M0 M F0 F Ts vs most pd p ce lo) (hq : zPq bits p c held st vs) (hab : zAbs ce lo vs a b) (hC : zcst c vs ≤ C) (hce : ce.length + 4 * C ≤ 1400) (hlo : lo.length + 2 * C ≤ 600) (g : ∀ V, zrv bits c vs K = some V → zDo Q h N M0 M F0 Ts vs most pd p ce lo A C V) : zG xs (d + 6) (214, 0, lv_args 0 [zo (some 10), .int (nI j), .int (nI c), .int a, .int b], []) (zov h M) Q := by
  have h1 := zcst_1 c vs
  have c1 : 1 ≤ C := by omega
  have c2 : ce.length + 4 ≤ 1400 := by omega
  have c3 : lo.length + 2 ≤ 600 := by omega
  rcases (by omega : c = 31 ∨ c = 35 ∨ c = 36 ∨ c = 37 ∨ c = 38 ∨ c = 39 ∨ c = 40 ∨ c = 42 ∨ c = 43 ∨ c = 45 ∨ c = 46 ∨ c = 48 ∨ c = 51 ∨ c = 52 ∨ c = 53 ∨ c = 54 ∨ c = 55 ∨ c = 56 ∨ c = 57) with rfl | rfl | rfl | rfl | rfl | rfl | rfl | rfl | rfl | rfl | rfl | rfl | rfl | rfl | rfl | rfl | rfl | rfl | rfl
  · exact zd31 hl hs hq hab c1 c2 c3 g
  · exact zd35 hl hs hq hab c1 c2 c3 g
  · exact zd36 hl hs hq hab c1 c2 c3 g
  · exact zd37 hl hs hq hab c1 c2 c3 g
  · exact zd38 hl hs hq hab c1 c2 c3 g
  · exact zd39 hl hs hq hab c1 c2 c3 g
  · exact zd40 hl hs hq hab c1 c2 c3 g
  · exact zd42 hl hs hq hab c1 c2 c3 g
  · exact zd43 hl hs hq hab c1 c2 c3 g
  · exact zd45 hl hs hq hab c1 c2 c3 g
  · exact zd46 hl hs hq hab c1 c2 c3 g
  · exact zd48 hl hs hq hab c1 c2 c3 g
  · exact zd51 hl hs hq hab c1 c2 c3 g
  · exact zd52 hl hs hq hab c1 c2 g
  · exact zd53 hl hs hq hab hC hce g
  · exact zd54 hl hs hq hab c1 c2 g
  · exact zd55 hl hs hq hab c1 c2 c3 g
  · exact zd56 hl hs hq hab c1 c2 c3 g
  · exact zd57 hl hs hq hab c1 c2 c3 g
theorem zreck (hc : 60 ≤ c ∧ c < 76) (hl : 50 ≤ h.1.length) (hw : zWC N fr bits bound M0 F0) (hs : zWS N M0 M F0 F Ts vs most pd p ce lo) (hq : zPq bits p c held st vs) (hab : zAbs ce lo vs a b) (hC : zcst c vs ≤ C) (hce : ce.length + 4 * C ≤ 1400) (hlo : lo.length + 2 * C ≤ 600) (g : ∀ V, zrv bits c vs K = some V → zDo Q h N M0 M F0 Ts vs most pd p ce lo A C V) (g2 : zrv bits c vs K = none → zDx Q h N M0 F0 Ts vs most pd p) : zG xs (d + 6) (217, 0, lv_args 0 [zo (some 10), .int (nI c), .int a, .int b], []) (zov h M) Q := by
  have h1 := zcst_1 c vs
  have c1 : 1 ≤ C := by omega
  have c2 : ce.length + 4 ≤ 1400 := by omega
  have c3 : lo.length + 2 ≤ 600 := by omega
  by_cases h69 : 69 ≤ c ∧ c ≤ 74
  · exact ze69 h69 hl hs hq hab c1 c2 g
  · rcases (by omega : c = 60 ∨ c = 61 ∨ c = 62 ∨ c = 63 ∨ c = 64 ∨ c = 65 ∨ c = 66 ∨ c = 67 ∨ c = 68 ∨ c = 75) with rfl | rfl | rfl | rfl | rfl | rfl | rfl | rfl | rfl | rfl
    · exact ze60 hl hw hs hq hab c1 c2 c3 g g2
    · exact ze61 hl hw hs hq hab c1 c2 c3 g g2
    · exact ze62 hl hw hs hq hab c1 c2 c3 g g2
    · exact ze63 hl hw hs hq hab c1 c2 c3 g g2
    · exact ze64 hl hw hs hq hab c1 c2 c3 g g2
    · exact ze65 hl hw hs hq hab c1 c2 c3 g g2
    · exact ze66 hl hw hs hq hab c1 c2 c3 g g2
    · exact ze67 hl hw hs hq hab c1 c2 c3 g g2
    · exact ze68 hl hs hq hab c1 c2 c3 g
    · exact ze75 hl hs hq hab c1 c2 c3 g g2
theorem zc207 (hl : 50 ≤ h.1.length) (hw : zWC N fr bits bound M0 F0) (hs : zWS N M0 M F0 F Ts vs most pd p ce lo) (he : N[j]? = some e) (hI : zkI e = true) (hnn : eC e ≠ 33 ∧ eC e ≠ 58 ∧ eC e ≠ 41 ∧ eC e ≠ 44 ∧ eC e ≠ 47 ∧ eC e ≠ 49 ∧ eC e ≠ 50 ∧ eC e ≠ 59 ∧ eC e ≠ 76) (hq : zPq bits p (eC e) held st vs) (h34 : eC e = 34 → ∃ T, zTy N (j + 1) 0 = .inr T ∧ zMi N (znx N (j + 1)) false T = none) (hab : zAbs ce lo vs a b) (hC : zcst (eC e) vs ≤ C) (hjA : j ∈ A) (hrc : ce.length + 2 * zpw N A pd ≤ 1400) (hrl : lo.length + zpw N A pd ≤ 600) (hrt : Ts.length + zpw N A pd ≤ 220) (hce : ce.length + 4 * C ≤ 1400) (hlo : lo.length + 2 * C ≤ 600) (hln : ∀ l, zop bits (eC e) vs (zpcn N j) = some l → l.length ≤ 12)
    (g1 : ∀ l, zop bits (eC e) vs (zpcn N j) = some l → zAo Q h N M0 M F0 Ts pd p ce lo A C l) (g2 : zop bits (eC e) vs (zpcn N j) = none → ∀ M' F' ce' lo', zWS N M0 M' F0 F' Ts vs most pd p ce' lo' → Q (.inl (some (.int 3))) (zov h M')) : zG xs (d + 8) (207, 0, lv_args 0 [zo (some 10), .int (nI j), .int (nI (eC e)), .int a, .int b], []) (zov h M) Q := by
  obtain ⟨i1, i2, i3, i4⟩ := zkI_ok hI
  have hnb : zkbk (eC e) = false := by
    unfold zkbk
    simp only [Bool.or_eq_false_iff, beq_eq_false_iff_ne, ne_eq]
    omega
  have htk := zktk_le i2 i3 hnb hq.2.2.1
  have hvl : st.length = vs.length := zCfo_len hq.2.1
  rw [hvl] at htk
  generalize hce0 : eC e = c at *
  have n76 : ¬ nI c = (76 : Int32) := fun z => absurd ((nI_eq (a := c) (b := 76) (by omega) (by omega)).mp z) (by omega)
  have hops : c ≠ 30 → c ≠ 32 → zop bits c vs (zpcn N j) = (zrv bits c vs (zpcn N j)).map fun v => v :: vs.drop (zktk c) := fun h1 h2 => by unfold zop; rw [if_neg h1, if_neg h2]
  have vl16 : ∀ {M1 F1 Ts1 pd1 ce1 lo1}, zWS N M0 M1 F0 F1 Ts1 vs most pd1 p ce1 lo1 → vs.length ≤ 16 := fun hs => hs.2.2.2.2.1.2.2.2.1
  have n32 : c ≠ 32 → ¬ nI c = (32 : Int32) := fun hn z => hn ((nI_eq (a := c) (b := 32) (by omega) (by omega)).mp z)
  -- the value is put on the stack
  have fin : ∀ (V : Term), c ≠ 30 → c ≠ 32 → zrv bits c vs (zpcn N j) = some V → zDo (zKI (fun x3 h4 => zw_207_42 xs (d + 8) Q (some 10) (nI c) a x3 h4) (fun e h => Q (.inr e) h)) h N M0 M F0 Ts vs most pd p ce lo A C V := by
    intro V h1 h2 hV M1 F1 Ts1 pd1 X Y cc ws hcc r1 r2 r3 r4
    have c14 := zRc_14 ws.1 hcc
    have hl12 := hln (V :: vs.drop (zktk c)) (by rw [hops h1 h2, hV]; rfl)
    rw [List.length_cons] at hl12
    refine zKI_v ⟨fun z => absurd (show nI cc < 0 by rw [z]; decide) (nI_pos (by omega)), fun _ => ⟨fun z => absurd z n76, fun _ => zM_gi hl ws.1.1 ws.2.2.2.2.1.1 ⟨d + 7, rfl, zc194 (by omega) (zKI_v ?_)⟩⟩⟩
    refine zM_pf hl ws.1.1 ?_
    rw [pk_sub htk]
    have ws2 := zWS_dr ws htk
    refine ⟨fun z => absurd z (n32 h2), fun _ => ⟨fun z => absurd z (nI_pos (by omega)), fun _ => ?_⟩⟩
    refine zpu_M (d := d + 7) hl ws2 ⟨cc, rfl, hcc⟩ (by omega) (fun M2 F2 ws3 sm3 => ?_)
    exact g1 _ (by rw [hops h1 h2, hV]; rfl) M2 F2 Ts1 _ pd1 X Y ws3 r1 r2 r3 (fun q hq => (zfr_sm sm3 (by decide) q hq).trans ((zub_n (fun z => by rw [z] at hq; exact absurd hq (by decide))).trans (r4 q hq)))
  have finx : c ≠ 30 → c ≠ 32 → zrv bits c vs (zpcn N j) = none → zDx (zKI (fun x3 h4 => zw_207_42 xs (d + 8) Q (some 10) (nI c) a x3 h4) (fun e h => Q (.inr e) h)) h N M0 F0 Ts vs most pd p := by
    intro h1 h2 hV M1 F1 ce1 lo1 ws
    exact zKI_v ⟨fun _ => ⟨fun z => absurd z n76, fun _ => g2 (by rw [hops h1 h2, hV]; rfl) M1 F1 ce1 lo1 ws⟩, fun z => absurd rfl z⟩
  apply zm_207
  refine ⟨fun z => absurd z n76, fun _ => pk_lt c 60 (fun h60 => ?_) (fun h60 => ?_)⟩
  · by_cases c30 : c = 30
    · subst c30
      refine zM_cv hl hs.1.1 (zd30 (d := d + 1) (zKI_v ⟨fun z => absurd z (by decide), fun _ => ⟨fun z => absurd z n76, fun _ => zM_gi hl hs.1.1 hs.2.2.2.2.1.1 ⟨d + 7, rfl, zc194 (c := 30) (by decide) (zKI_v ?_)⟩⟩⟩))
      refine zM_pf hl hs.1.1 ?_
      rw [pk_sub htk]
      refine ⟨fun z => absurd z (by decide), fun _ => ⟨fun _ => ?_, fun z => absurd (by decide) z⟩⟩
      exact g1 _ rfl _ _ Ts most pd [] [] (by rw [List.append_nil, List.append_nil]; exact zWS_dr hs htk) (by simp) (by simp) (Nat.le_refl _) (fun q hq => zub_n (fun z => by rw [z] at hq; exact absurd hq (by decide)))
    · by_cases c32 : c = 32
      · subst c32
        have h2 : 2 ≤ vs.length := htk
        obtain ⟨v, w, r, rfl⟩ := zvs2 hq.2.1 (by omega)
        obtain ⟨ca, rfl, h0⟩ := hab.1 (Nat.succ_pos _)
        obtain ⟨cb, rfl, h1⟩ := hab.2 (Nat.succ_lt_succ (Nat.succ_pos _))
        have b14 := zRc_14 hs.1 h1
        have v16 := vl16 hs
        rw [List.length_cons, List.length_cons] at v16
        refine zM_cv hl hs.1.1 (zd32 (d := d + 1) (zKI_v ⟨fun z => absurd (show nI cb < 0 by rw [z]; decide) (nI_pos (by omega)), fun _ => ⟨fun z => absurd z n76, fun _ => zM_gi hl hs.1.1 hs.2.2.2.2.1.1 ⟨d + 7, rfl, zc194 (c := 32) (by decide) (zKI_v ?_)⟩⟩⟩))
        refine zM_pf hl hs.1.1 ?_
        rw [pk_sub htk]
        have ws2 := zWS_dr hs htk
        refine ⟨fun _ => ?_, fun z => absurd rfl z⟩
        refine zpu_M (d := d + 7) hl ws2 ⟨ca, rfl, h0⟩ (by show r.length < 16; omega) (fun M2 F2 ws3 sm3 => ?_)
        refine ⟨fun z => absurd z (nI_pos (by omega)), fun _ => ?_⟩
        refine zpu_M (d := d + 7) hl ws3 ⟨cb, rfl, h1⟩ (by show r.length + 1 < 16; omega) (fun M3 F3 ws4 sm4 => ?_)
        exact g1 _ rfl M3 F3 Ts _ pd [] [] (by rw [List.append_nil, List.append_nil]; exact ws4) (by simp) (by simp) (Nat.le_refl _) (fun q hq => (zfr_sm (zSm_t sm3 sm4) (by decide) q hq).trans (zub_n (fun z => by rw [z] at hq; exact absurd hq (by decide))))
      · by_cases c34 : c = 34
        · subst c34
          obtain ⟨T, t1, t2⟩ := h34 rfl
          have hM2 : eM e = 2 := by rw [i4]; rfl
          exact zM_cv hl hs.1.1 (zd34 (d := d + 1) hl hw hs he hce0 hM2 t1 t2 hjA hrc hrl hrt (fun V hV => fin V c30 c32 hV))
        · exact zM_cv hl hs.1.1 (zdone (d := d + 1) (by omega) hl hs hq hab hC hce hlo (fun V hV => fin V c30 c32 hV))
  · exact zM_cv hl hs.1.1 (zreck (d := d + 1) (by omega) hl hw hs hq hab hC hce hlo (fun V hV => fin V (by omega) (by omega) hV) (finx (by omega) (by omega)))
end RW7
