section RN9
variable {xs : List Value} {d : Nat} {h : zH} {N : List zNt} {M0 M M1 : Nat → zE} {F0 F F1 : Nat → Value} {Q : zO → zH → Prop} {ce : List (Nat × Nat × Nat)} {lo : List (Nat × Nat)} {Ts vs st : List Term} {pd : List Int32} {most p p1 bits bound j fr D t stop held a b g : Nat} {e : zNt} {A : List Nat} {x1 : zkcs}
theorem zFw_at (hs : zWS N M0 M F0 F Ts vs most pd p ce lo) {q : Nat} (hq : q ∈ zfrs) (hD : D < 12) : ∃ x, zAt M q D = some x := by
  obtain ⟨L, l1, l2⟩ := hs.2.2.2.2.2.2.2.2.1 q hq
  exact ⟨_, (zAt_i l1).trans (List.getElem?_eq_getElem (by omega))⟩
theorem zRs_up (hr : zRs N A Ts ce lo pd p) (hp : p ≤ p1) : zRs N A Ts ce lo pd p1 := by
  obtain ⟨a1, a2, a3⟩ := hr
  exact ⟨by omega, by omega, a3⟩
theorem zGw_p (hp : p ≤ p1) : zGw N A Ts ce lo pd p Ts ce lo pd p1 := ⟨by omega, by omega, Nat.le_refl _⟩
/-- DIP -/
theorem zw33 (hl : 50 ≤ h.1.length) (hw : zWC N fr bits bound M0 F0) (hb2 : bits ≤ 120) (hbd : bound ≤ 150) (IH : ∀ i, zWb xs d h N bits bound M0 F0 Q A g i) (hD : D + (g + 1) ≤ 12) (he : N[j]? = some e) (hI : zkI e = true) (hc : eC e = 33) (hrin : ∀ r, r ∈ zchn N (eM e) (j + 1) → zRin N A g r) (hok : zkok held st) (hb : b ≤ 12) (hs1 : zSs bound st vs p1) (hrd : zkrd (eC e) st held = true) (hE : zkE N (zkbl N) j e st held (a + 1) b = .inr x1) (ws : zWS N M0 M1 F0 F1 Ts vs most pd p1 ce lo) (hrs : zRs N A Ts ce lo pd p1) (fq : zFq D M M1) (h38 : zAt M1 38 D = some (nI j)) (h39 : zAt M1 39 D = some (nI stop)) (hp : p ≤ p1) (ht : t + 1 + (D + 1) ≤ 2 * p1) (kE : zErw xs d h N M0 F0 Q (zract N bits bound (zrbl N bits bound) j e vs p1)) (kC : zCow xs (d + 9) h N M0 F0 Q A (zract N bits bound (zrbl N bits bound) j e vs p1) D (znx N j) stop M Ts ce lo pd p) : zCV xs (d + 9) 206 12 (some 10) [Value.int (nI D)] (zov h M1) (zKI (fun x14 h15 => zw_201_185 xs (d + 9) Q (zC22 xs (d + 9) Q) (some 10) (nI D) (nI (znx N j)) (nI stop) (nI t) x14 (nI j) (nI (eC e)) h15) (fun e h => Q (.inr e) h)) := by
  have hg := hw.2.2.1
  obtain ⟨i1, i2, i3, i4⟩ := zkI_ok hI
  have hjl := (List.getElem?_eq_some_iff.mp he).1
  have hM1 : eM e = 1 := by rw [i4, hc]; rfl
  have hk2 := zGd_k hg he
  rw [hM1] at hk2 hrin
  have f1 := zful_lt hk2.1
  rw [hc] at hrd
  have h1 : 1 ≤ st.length := of_decide_eq_true hrd
  have hok1 := hok.1
  have hln := zCfo_len hs1.1
  obtain ⟨v, w, rfl⟩ := zvs1 hs1.1 h1
  unfold zkE at hE
  rw [if_pos hc] at hE
  obtain ⟨a42, q42⟩ := zFw_at ws (q := 42) (by decide) (show D < 12 by omega)
  cases hk : zkbl N (j + 1) (st.drop 1) (held + 1) (a + 1) b with
  | inl y => rw [hk] at hE; cases hE
  | inr y =>
    have hZ : zract N bits bound (zrbl N bits bound) j e (v :: w) p1 = (match zrbl N bits bound (j + 1) (w, p1) with
      | .inl x => .inl x
      | .inr (l, q) => .inr (v :: l, q)) := by unfold zract; rw [if_pos hc]; rfl
    rw [hZ] at kE kC
    have dl : (st.drop 1).length = st.length - 1 := List.length_drop
    have k1 : zkok (held + 1) (st.drop 1) := ⟨by omega, fun T hT => hok.2 T (List.mem_of_mem_drop hT)⟩
    have s1 : zSs bound (st.drop 1) w p1 := zSs_drop 1 hs1
    rw [List.length_cons] at hln
    refine zM_cv hl ws.1.1 (zc206a (d := d + 5) hl hw ws (by omega) he (Or.inl hc) (Or.inl hc) (by omega) h38 h39 q42 (fun row l M2 F2 most2 ca hsl ws2 hca fq2 fr2 => zKI_v (zw185b (by rw [hc]; rfl) (by omega) ?_)))
    have hsl : row = j + 1 ∧ l = w := by
      rcases hsl with ⟨_, q⟩ | ⟨q, _⟩ | ⟨q, _⟩ | ⟨q, _⟩ | ⟨q, _⟩ | ⟨q, _⟩ | ⟨q, _⟩ | ⟨q, _⟩ | ⟨q, _⟩
      · exact q
      all_goals omega
    obtain ⟨rfl, rfl⟩ := hsl
    refine zrow hl hw hb2 hbd (IH (j + 1)) (hrin (j + 1) List.mem_cons_self) f1.1 (by omega) k1 hb s1 hk ws2 hrs ht (zErw_of kE (fun e he => by rw [he])) fr2 hjl ?_
    intro vs' p' st' hR ho hs' hp' M3 F3 Ts3 most3 pd3 X Y t3 ws3 gw3 fq3 fr3 ht3 Q0 hQ0
    obtain ⟨y1, y2, y3⟩ := y
    have kkl := (zkbl_ok hg N.length (j + 1) (by omega) (zkbl_some hg hk) _ _ _ _ _ _ _ k1 hb hk).2.2.2 st' ho
    have kl := kkl.1
    have wl := zCfo_len hs'.1
    refine zc202d (d := d + 5) (V := v) hl hw ws3 (by omega) he hc fr3 ⟨ca, rfl, zRc_app _ _ hca⟩ (by omega) (fun M4 F4 most4 ws4 fq4 => ?_)
    have fr4 := zFr_q fr3 fq4
    refine hQ0 (-1) M4 F4 _ _ _ _ _ _ _ ws4 fr4.1 fr4.2.1 (zg225n ?_)
    exact kC (v :: vs') p' (by rw [hR]) (by omega) M4 F4 Ts3 most4 pd3 X Y (t3 + 1) ws4 (zGw_t (zGw_p hp) gw3) (zFq_t (zFq_t fq fq2) (zFq_le (zFq_t fq3 fq4) (by omega))) (by omega)
/-- IF, IFNONE, IFLEFT, IFCONS -/
theorem zw2r (hl : 50 ≤ h.1.length) (hw : zWC N fr bits bound M0 F0) (hb2 : bits ≤ 120) (hbd : bound ≤ 150) (IH : ∀ i, zWb xs d h N bits bound M0 F0 Q A g i) (hD : D + (g + 1) ≤ 12) (he : N[j]? = some e) (hI : zkI e = true) (hc : eC e = 58 ∨ eC e = 41 ∨ eC e = 44 ∨ eC e = 47) (hrin : ∀ r, r ∈ zchn N (eM e) (j + 1) → zRin N A g r) (hok : zkok held st) (hb : b ≤ 12) (hs1 : zSs bound st vs p1) (hrd : zkrd (eC e) st held = true) (hE : zkE N (zkbl N) j e st held (a + 1) b = .inr x1) (ws : zWS N M0 M1 F0 F1 Ts vs most pd p1 ce lo) (hrs : zRs N A Ts ce lo pd p1) (fq : zFq D M M1) (h38 : zAt M1 38 D = some (nI j)) (h39 : zAt M1 39 D = some (nI stop)) (hp : p ≤ p1) (ht : t + 1 + (D + 1) ≤ 2 * p1) (kE : zErw xs d h N M0 F0 Q (zract N bits bound (zrbl N bits bound) j e vs p1)) (kC : zCow xs (d + 9) h N M0 F0 Q A (zract N bits bound (zrbl N bits bound) j e vs p1) D (znx N j) stop M Ts ce lo pd p) : zCV xs (d + 9) 206 12 (some 10) [Value.int (nI D)] (zov h M1) (zKI (fun x14 h15 => zw_201_185 xs (d + 9) Q (zC22 xs (d + 9) Q) (some 10) (nI D) (nI (znx N j)) (nI stop) (nI t) x14 (nI j) (nI (eC e)) h15) (fun e h => Q (.inr e) h)) := by
  have hg := hw.2.2.1
  obtain ⟨i1, i2, i3, i4⟩ := zkI_ok hI
  have hjl := (List.getElem?_eq_some_iff.mp he).1
  have hM2 : eM e = 2 := by rw [i4]; rcases hc with z | z | z | z <;> rw [z] <;> rfl
  have hk2 := zGd_k hg he
  rw [hM2] at hk2 hrin
  obtain ⟨fu1, fu2, fu3⟩ := zfuls_2 hk2
  have f1 := zful_lt fu1
  have f2 := zful_lt fu2
  obtain ⟨k1, k2⟩ := zkf1_ok hok hrd hc
  obtain ⟨y1, y2, y3, hk, z, hkk2⟩ : ∃ y1 y2 y3, zkbl N (j + 1) (zkf1 (eC e) st) held (a + 1) b = .inr (y1, y2, y3) ∧ ∃ z, zkbl N (znx N (j + 1)) (zkf2 (eC e) st) held y2 y3 = .inr z := by
    unfold zkE at hE
    rw [if_neg (by omega), if_pos hc] at hE
    cases hk : zkbl N (j + 1) (zkf1 (eC e) st) held (a + 1) b with
    | inl x => rw [hk] at hE; cases hE
    | inr y =>
      obtain ⟨o1, a1, b1⟩ := y
      rw [hk] at hE
      dsimp only at hE
      cases hk2 : zkbl N (znx N (j + 1)) (zkf2 (eC e) st) held a1 b1 with
      | inl x => rw [hk2] at hE; cases hE
      | inr y => exact ⟨o1, a1, b1, rfl, _, hk2⟩
  have hb1 := (zkbl_ok hg N.length (j + 1) (by omega) (zkbl_some hg hk) _ _ _ _ _ _ _ k1 hb hk).1
  obtain ⟨a42, q42⟩ := zFw_at ws (q := 42) (by decide) (show D < 12 by omega)
  have hg1 := zkok_g hok
  have h0 : 0 < st.length := by
    rcases hc with c | c | c | c <;> rw [c] at hrd
    · exact (zkhs_c (k := 0) (c := 1) hrd).1
    · exact (zkhs_c (k := 0) (c := 6) hrd).1
    · exact (zkhs_c (k := 0) (c := 7) hrd).1
    · have hrd2 : (zkhs st 0 8 && decide (st.length + held < 12)) = true := hrd
      simp only [Bool.and_eq_true] at hrd2
      exact (zkhs_c hrd2.1).1
  have hok1 := hok.1
  have hln := zCfo_len hs1.1
  obtain ⟨v, w, rfl⟩ := zvs1 hs1.1 h0
  have hv : zVt (zkat st 0) v := zCfo_at 0 hs1.1 h0
  have hT := zkat_g hg1 0 h0
  have hm0 := zmr_at hs1.2.1 0
  rw [List.length_cons] at hln
  -- what is known of the top
  have hVc : zVc (eC e) v := by
    rcases hc with c | c | c | c <;> rw [c] at hrd ⊢
    · exact Or.inr (Or.inl ⟨rfl, zVt_bool hT.1 (zkhs_c (k := 0) (c := 1) hrd).2 hv⟩)
    · refine Or.inr (Or.inr (Or.inl ⟨rfl, ?_⟩))
      rcases zVt_opt hT.1 (zkhs_c (k := 0) (c := 6) hrd).2 hv with q | ⟨u, q, _⟩
      · exact Or.inl q
      · exact Or.inr ⟨u, q⟩
    · refine Or.inr (Or.inr (Or.inr (Or.inl ⟨rfl, ?_⟩)))
      rcases zVt_or hT.1 (zkhs_c (k := 0) (c := 7) hrd).2 hv with ⟨u, q, _⟩ | ⟨u, q, _⟩
      · exact Or.inl ⟨u, q⟩
      · exact Or.inr ⟨u, q⟩
    · refine Or.inr (Or.inr (Or.inr (Or.inr ⟨rfl, ?_⟩)))
      have hrd2 : (zkhs st 0 8 && decide (st.length + held < 12)) = true := hrd
      simp only [Bool.and_eq_true] at hrd2
      obtain ⟨L, rfl, hL⟩ := zVt_list hT.1 (zkhs_c hrd2.1).2 hv
      cases L with
      | nil => exact Or.inl rfl
      | cons u L => exact Or.inr ⟨u, zenc L, rfl, zgo_t (zTok_1 hT.1) (hL u List.mem_cons_self)⟩
  -- the row that is chosen, its stack
  have sel : ∀ row l, zSlc N j (eC e) v w row l → (row = j + 1 ∧ zSs bound (zkf1 (eC e) st) l p1 ∨ row = znx N (j + 1) ∧ zSs bound (zkf2 (eC e) st) l p1) ∧ zract N bits bound (zrbl N bits bound) j e (v :: w) p1 = zrbl N bits bound row (l, p1) := by
    intro row l hsl
    rcases hsl with ⟨q, _⟩ | ⟨q, rfl, rfl, rfl⟩ | ⟨q, rfl, rfl, rfl⟩ | ⟨q, rfl, rfl, rfl⟩ | ⟨q, u, rfl, rfl, rfl⟩ | ⟨q, u, rfl, rfl, rfl⟩ | ⟨q, u, rfl, rfl, rfl⟩ | ⟨q, rfl, rfl, rfl⟩ | ⟨q, u, L, rfl, rfl, rfl⟩
    · omega
    · exact ⟨Or.inl ⟨rfl, by rw [q]; exact zSs_drop 1 hs1⟩, by unfold zract; rw [if_neg (by omega), if_pos q]; rfl⟩
    · exact ⟨Or.inr ⟨rfl, by rw [q]; exact zSs_drop 1 hs1⟩, by unfold zract; rw [if_neg (by omega), if_pos q]; rfl⟩
    · exact ⟨Or.inl ⟨rfl, by rw [q]; exact zSs_drop 1 hs1⟩, by unfold zract; rw [if_neg (by omega), if_neg (by omega), if_pos q]; rfl⟩
    · refine ⟨Or.inr ⟨rfl, ?_⟩, by unfold zract; rw [if_neg (by omega), if_neg (by omega), if_pos q]; rfl⟩
      rw [q] at hrd ⊢
      rcases zVt_opt hT.1 (zkhs_c (k := 0) (c := 6) hrd).2 hv with q2 | ⟨u2, q2, hu⟩
      · cases q2
      · cases q2; exact zSs_cons (zSs_drop 1 hs1) hu hm0
    · refine ⟨Or.inl ⟨rfl, ?_⟩, by unfold zract; rw [if_neg (by omega), if_neg (by omega), if_neg (by omega), if_pos q]; rfl⟩
      rw [q] at hrd ⊢
      rcases zVt_or hT.1 (zkhs_c (k := 0) (c := 7) hrd).2 hv with ⟨u2, q2, hu⟩ | ⟨u2, q2, hu⟩
      · cases q2; exact zSs_cons (zSs_drop 1 hs1) hu hm0
      · cases q2
    · refine ⟨Or.inr ⟨rfl, ?_⟩, by unfold zract; rw [if_neg (by omega), if_neg (by omega), if_neg (by omega), if_pos q]; rfl⟩
      rw [q] at hrd ⊢
      rcases zVt_or hT.1 (zkhs_c (k := 0) (c := 7) hrd).2 hv with ⟨u2, q2, hu⟩ | ⟨u2, q2, hu⟩
      · cases q2
      · cases q2; exact zSs_cons (zSs_drop 1 hs1) hu hm0
    · exact ⟨Or.inr ⟨rfl, by rw [q]; exact zSs_drop 1 hs1⟩, by unfold zract; rw [if_neg (by omega), if_neg (by omega), if_neg (by omega), if_neg (by omega), if_pos q]; rfl⟩
    · refine ⟨Or.inl ⟨rfl, ?_⟩, by unfold zract; rw [if_neg (by omega), if_neg (by omega), if_neg (by omega), if_neg (by omega), if_pos q]; rfl⟩
      rw [q] at hrd ⊢
      have hrd2 : (zkhs st 0 8 && decide (st.length + held < 12)) = true := hrd
      simp only [Bool.and_eq_true] at hrd2
      have hr := zkhs_c hrd2.1
      have hTt := zsh1 hT.1 (Or.inr hr.2)
      rw [hr.2] at hTt
      obtain ⟨LL, zL, hL⟩ := zVt_list hT.1 hr.2 hv
      cases LL with
      | nil => cases zL
      | cons u2 LL =>
        cases zL
        have hm0 : max (zels (.rem u (zenc LL))).length (max (zmr u) (zmr (zenc LL))) ≤ 40 + p1 := hm0
        have hm1 : max ((zels (zenc LL)).length + 1) (max (zmr u) (zmr (zenc LL))) ≤ 40 + p1 := hm0
        have e0 := (zCfo_split 0 hs1.1 hr.1).1
        rw [List.drop_zero] at e0
        show zSs bound (zt1 (zkat st 0) :: st) _ _
        have hV : zVt (zkat st 0) (.old (zenc LL)) := by
          generalize zt1 (zkat st 0) = U at hTt hL
          rw [hTt]
          exact zVt_i8 (fun v hv' => hL v (List.mem_cons_of_mem _ hv'))
        have h2 : zSs bound (zkat st 0 :: st.drop 1) (.old (zenc LL) :: w) p1 := zSs_cons (zSs_drop 1 hs1) hV (by show max _ _ ≤ _; omega)
        rw [← e0] at h2
        exact zSs_cons h2 (hL u List.mem_cons_self) (by omega)
  refine zM_cv hl ws.1.1 (zc206a (d := d + 5) hl hw ws (by omega) he hVc (Or.inr f1.1) (by omega) h38 h39 q42 (fun row l M2 F2 most2 ca hsl ws2 hca fq2 fr2 => zKI_v (zw185b (by rcases hc with c | c | c | c <;> rw [c] <;> rfl) (by omega) ?_)))
  obtain ⟨s1, s2⟩ := sel row l hsl
  rw [s2] at kE kC
  have kC2 : ∀ {st1 x1}, (∀ vs' p' st', zrbl N bits bound row (l, p1) = .inr (vs', p') → x1 = some st' → zSs bound st' vs' p' → p1 ≤ p' → ∀ M' F' Ts' most' pd' X Y t', zWS N M0 M' F0 F' Ts' vs' most' pd' p' (ce ++ X) (lo ++ Y) → zGw N A Ts ce lo pd p1 Ts' (ce ++ X) (lo ++ Y) pd' p' → zFq (D + 1) M2 M' → zFr M' D (nI j) (nI stop) (nI ca) a42 (-1) → t' + (D + 1) ≤ 2 * p' → ∀ Q0 : zO → zH → Prop, (∀ (row : Int32) (M' : Nat → zE) (F' : Nat → Value) (Ts' vs' : List Term) (most' : Nat) (pd' : List Int32) (p' : Nat) (ce' : List (Nat × Nat × Nat)) (lo' : List (Nat × Nat)), zWS N M0 M' F0 F' Ts' vs' most' pd' p' ce' lo' → zAt M' 38 D = some (nI j) → zAt M' 39 D = some (nI stop) → zw_201_225 xs (d + 9) Q (zC22 xs (d + 9) Q) (some 10) (nI D) (nI (znx N j)) (nI stop) (nI t') row (zov h M') → Q0 (.inl (some (.int row))) (zov h M')) → zG xs (d + 8) (202, 0, lv_args 0 [zo (some 10), .int (nI D)], []) (zov h M') Q0) ∨ (st1 : List Term) ≠ st1 := fun {st1 x1} => Or.inl (by
    intro vs' p' st' hR ho hs' hp' M3 F3 Ts3 most3 pd3 X Y t3 ws3 gw3 fq3 fr3 ht3 Q0 hQ0
    refine zc202t (d := d + 5) hl hw ws3 (by omega) he hc fr3 (hQ0 (-1) M3 F3 _ _ _ _ _ _ _ ws3 fr3.1 fr3.2.1 (zg225n ?_))
    exact kC vs' p' hR (by omega) M3 F3 Ts3 most3 pd3 X Y (t3 + 1) ws3 (zGw_t (zGw_p hp) gw3) (zFq_t (zFq_t fq fq2) (zFq_le fq3 (by omega))) (by omega))
  rcases s1 with ⟨rfl, hss⟩ | ⟨rfl, hss⟩
  · exact zrow hl hw hb2 hbd (IH (j + 1)) (hrin (j + 1) List.mem_cons_self) f1.1 (by omega) k1 hb hss hk ws2 hrs ht kE fr2 hjl (by
      rcases kC2 (st1 := []) (x1 := (y1, y2, y3).1) with q | q
      · exact q
      · exact absurd rfl q)
  · exact zrow hl hw hb2 hbd (IH (znx N (j + 1))) (hrin (znx N (j + 1)) (List.mem_cons_of_mem _ List.mem_cons_self)) f2.1 (by omega) k2 hb1 hss hkk2 ws2 hrs ht kE fr2 hjl (by
      rcases kC2 (st1 := []) (x1 := z.1) with q | q
      · exact q
      · exact absurd rfl q)
/-- FAIL -/
theorem zw76 (hl : 50 ≤ h.1.length) (hcl : ce.length ≤ 1300) (he : N[j]? = some e) (hc : eC e = 76) (hok : zkok held st) (hs1 : zSs bound st vs p1) (hrd : zkrd (eC e) st held = true) (ws : zWS N M0 M1 F0 F1 Ts vs most pd p1 ce lo) (kE : zErw xs d h N M0 F0 Q (zract N bits bound (zrbl N bits bound) j e vs p1)) : zw_201_185 xs (d + 9) Q (zC22 xs (d + 9) Q) (some 10) (nI D) (nI (znx N j)) (nI stop) (nI t) (-1) (nI j) (nI (eC e)) (zov h M1) := by
  rw [hc] at hrd
  have hr : (ztsim (zkat st 0) || zkhs st 0 0) = true := hrd
  have h0 : 0 < st.length := by
    by_cases q : 0 < st.length
    · exact q
    · exfalso
      have z0 : st = [] := List.eq_nil_of_length_eq_zero (by omega)
      subst z0
      exact absurd hr (by decide)
  obtain ⟨u, w, rfl⟩ := zvs1 hs1.1 h0
  have hv : zVt (zkat st 0) u := zCfo_at 0 hs1.1 h0
  have hT := zkat_g (zkok_g hok) 0 h0
  have hd8 : ztdep (zkat st 0) ≤ 8 := by rw [zkat_lt h0]; exact (hok.2 _ (List.getElem_mem _)).2
  have hsim : ztsim (zkat st 0) = true ∨ ztc (zkat st 0) = 0 := by
    rcases Bool.or_eq_true _ _ ▸ hr with z | z
    · exact Or.inl z
    · exact Or.inr (zkhs_c z).2
  have hz : zract N bits bound (zrbl N bits bound) j e (u :: w) p1 = .inl (4, u) := by
    unfold zract; rw [if_neg (by omega), if_neg (by omega), if_neg (by omega), if_neg (by omega), if_neg (by omega), if_neg (by omega), if_neg (by omega), if_neg (by omega), if_pos hc]; rfl
  refine ⟨d + 8, rfl, zc179 (by omega) (zKI_v ?_)⟩
  rw [hc]
  refine ⟨fun _ => ?_, fun z => absurd (show zB (zkbk 76) = 0 from rfl) z⟩
  refine ztops (d := d + 8) (K := fun _ _ => True) hl ws (fun a0 b0 hab => ?_)
  obtain ⟨ca, rfl, hca⟩ := hab.1 (Nat.succ_pos _)
  refine zM_cv hl ws.1.1 (zG_mono (kE.2.2 u hz M1 F1 Ts w most pd p1 ce lo _ j ca b0 ws hcl hca hT hsim hd8 hv) (fun o h' hq => ?_))
  rw [hq.1]
  exact zKI_v ⟨fun z => absurd z (by decide), fun _ => hq.2⟩
end RN9
