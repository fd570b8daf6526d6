/-! the reference at work: opened(), again() -/
def zSlc (N : List zNt) (j c : Nat) (V : Term) (w : List Term) (row : Nat) (l : List Term) : Prop := (c = 33 ∧ row = j + 1 ∧ l = w) ∨ (c = 58 ∧ V = .arg 22 ∧ row = j + 1 ∧ l = w) ∨ (c = 58 ∧ V = .arg 21 ∧ row = znx N (j + 1) ∧ l = w) ∨ (c = 41 ∧ V = .arg 24 ∧ row = j + 1 ∧ l = w) ∨ (c = 41 ∧ ∃ v, V = .div (.arg 25) v ∧ row = znx N (j + 1) ∧ l = v :: w) ∨ (c = 44 ∧ ∃ v, V = .div (.arg 26) v ∧ row = j + 1 ∧ l = v :: w) ∨ (c = 44 ∧ ∃ v, V = .div (.arg 27) v ∧ row = znx N (j + 1) ∧ l = v :: w) ∨ (c = 47 ∧ V = .old .null ∧ row = znx N (j + 1) ∧ l = w) ∨ (c = 47 ∧ ∃ v L, V = .old (.rem v L) ∧ row = j + 1 ∧ l = v :: .old L :: w)
def zVc (c : Nat) (V : Term) : Prop := c = 33 ∨ (c = 58 ∧ (V = .arg 21 ∨ V = .arg 22)) ∨ (c = 41 ∧ (V = .arg 24 ∨ ∃ v, V = .div (.arg 25) v)) ∨ (c = 44 ∧ ((∃ v, V = .div (.arg 26) v) ∨ ∃ v, V = .div (.arg 27) v)) ∨ (c = 47 ∧ (V = .old .null ∨ ∃ v L, V = .old (.rem v L) ∧ zgo v = 0))
section RN4
variable {xs : List Value} {d : Nat} {h : zH} {N : List zNt} {M0 M M' : Nat → zE} {F0 F F' : Nat → Value} {Q : zO → zH → Prop} {ce ce0 X : List (Nat × Nat × Nat)} {lo : List (Nat × Nat)} {Ts vs w : List Term} {pd : List Int32} {most p bits bound j fr D b0 z0 : Nat} {a39 a41 a42 a43 : Int32} {V : Term} {e : zNt} {acc : List Term} {ts : List Nat} {E : Nat → zH → Prop} {KI : Int32 → Prop}
theorem zcod (hl : 50 ≤ h.1.length) (hw : zWC N fr bits bound M0 F0) (hs : zWS N M0 M F0 F Ts vs most pd p ce lo) (hD : D < 12) (he : N[j]? = some e) (h38 : zAt M 38 D = some (nI j)) (k : KI (nI (eC e))) : zGR (some 10) 12 11 (zov h M) fun x1 => zGR (some 10) 12 38 (zov h M) fun x3 => zIA xs x3 (nI D) (zov h M) fun x5 => zIA xs x1 x5 (zov h M) KI := by
  obtain ⟨r1, r2, r3, r4⟩ := zWS_c hs hw
  obtain ⟨_, hN, So, Fi, Co, Ma, Ab, Hi, Lo, c1, c2, c3, c4, c5, c6, c7, c8, c9, c10, c11, c12, c13, c14, rows⟩ := r1
  have := (List.getElem?_eq_some_iff.mp he).1
  exact zM_gr hl hs.1.1 (hs.1.2.1 (11, 15) (by decide)) (zfg hl hs (q := 38) (by decide) hD h38 (zM_ia' hl c3 (rows j e he).2.2.1 k))
theorem znxt (hl : 50 ≤ h.1.length) (hw : zWC N fr bits bound M0 F0) (hs : zWS N M0 M F0 F Ts vs most pd p ce lo) (hD : D < 12) (hj : j < N.length) (h38 : zAt M 38 D = some (nI j)) (k : KI (nI (znx N j))) : zGR (some 10) 12 13 (zov h M) fun x1 => zGR (some 10) 12 38 (zov h M) fun x3 => zIA xs x3 (nI D) (zov h M) fun x5 => zIA xs x1 x5 (zov h M) KI := by
  obtain ⟨r1, r2, r3, r4⟩ := zWS_c hs hw
  obtain ⟨Nx, Ow, Le, c1, c2, c3, c4, c5, c6, rows⟩ := r2
  exact zM_gr hl hs.1.1 (hs.1.2.1 (13, 17) (by decide)) (zfg hl hs (q := 38) (by decide) hD h38 (zM_ia' hl c1 (rows j hj).2 k))
/-- the beginning of opened() -/
theorem zc206p (hl : 50 ≤ h.1.length) (hw : zWC N fr bits bound M0 F0) (hs : zWS N M0 M F0 F Ts (V :: w) most pd p ce lo) (hD : D < 12) (he : N[j]? = some e) (h38 : zAt M 38 D = some (nI j)) (h39 : zAt M 39 D = some a39) (h42 : zAt M 42 D = some a42)
    (g : ∀ ca M', zRc ce lo V (.inl ca) → zWS N M0 M' F0 F Ts (V :: w) most pd p ce lo → zFq D M M' → zFr M' D (nI j) a39 (nI ca) a42 (-1) → (nI (eC e) = (59 : Int32) → zw_206_52 xs (d + 3) Q (some 10) (nI D) (nI j) (nI (eC e)) (nI ca) 0 (nI (w.length + 1)) (some 10) (zov h M')) ∧ (¬ nI (eC e) = (59 : Int32) → zw_206_52 xs (d + 3) Q (some 10) (nI D) (nI j) (nI (eC e)) (nI ca) 1 (nI (w.length + 1)) (some 10) (zov h M'))) : zG xs (d + 3) (206, 0, lv_args 0 [zo (some 10), .int (nI D)], []) (zov h M) Q := by
  obtain ⟨r1, r2, r3, r4⟩ := zWS_c hs hw
  apply zm_206
  refine zfg hl hs (q := 38) (by decide) hD h38 (zM_nC hl hs.1.1 hs.1.2.1 r1 he ?_)
  refine zM_cv hl hs.1.1 (zc173 (d := d + 2) (k := 0) hl hs.1.1 hs.1.2.1 hs.2.2.2.2.1 (by decide) (fun U y hU hy => zKI_v ?_) (fun z => absurd z (by rw [List.length_cons]; omega)))
  cases hU
  obtain ⟨ca, rfl, hca⟩ := hy
  refine zGRq hl hs (q := 41) (by decide) (zfs hl hs (by decide) hD (fun M1 ws1 fq1 at1 oth1 => ?_))
  refine zGRq hl ws1 (q := 43) (by decide) (zfs hl ws1 (by decide) hD (fun M2 ws2 fq2 at2 oth2 => ?_))
  refine zM_gi hl ws2.1.1 ws2.2.2.2.2.1.1 ?_
  exact g ca M2 hca ws2 (zFq_t fq1 fq2) ⟨(oth2 38 D (by decide)).trans ((oth1 38 D (by decide)).trans h38), (oth2 39 D (by decide)).trans ((oth1 39 D (by decide)).trans h39), (oth2 41 D (by decide)).trans at1, (oth2 42 D (by decide)).trans ((oth1 42 D (by decide)).trans h42), at2⟩
/-- opened(): DIP, and where there are two rows -/
theorem zc206a (hl : 50 ≤ h.1.length) (hw : zWC N fr bits bound M0 F0) (hs : zWS N M0 M F0 F Ts (V :: w) most pd p ce lo) (hD : D < 12) (he : N[j]? = some e) (hV : zVc (eC e) V) (hj1 : eC e = 33 ∨ j + 1 < N.length) (hlen : w.length < 14) (h38 : zAt M 38 D = some (nI j)) (h39 : zAt M 39 D = some a39) (h42 : zAt M 42 D = some a42)
    (g : ∀ row l M' F' most' ca, zSlc N j (eC e) V w row l → zWS N M0 M' F0 F' Ts l most' pd p ce lo → zRc ce lo V (.inl ca) → zFq D M M' → zFr M' D (nI j) a39 (nI ca) a42 (-1) → Q (.inl (some (.int (nI row)))) (zov h M')) : zG xs (d + 3) (206, 0, lv_args 0 [zo (some 10), .int (nI D)], []) (zov h M) Q := by
  have hc : eC e = 33 ∨ eC e = 58 ∨ eC e = 41 ∨ eC e = 44 ∨ eC e = 47 := by
    rcases hV with z | ⟨z, _⟩ | ⟨z, _⟩ | ⟨z, _⟩ | ⟨z, _⟩ <;> omega
  refine zc206p hl hw hs hD he h38 h39 h42 (fun ca M1 hca ws1 fq1 fr1 => ?_)
  have ne : ∀ q : Nat, q < 100 → q ≠ eC e → ¬ nI (eC e) = nI q := fun q hq hn z => hn ((nI_eq (by omega) (by omega)).mp z).symm
  refine ⟨fun z => absurd z (ne 59 (by omega) (by omega)), fun _ => zM_pf hl ws1.1.1 ?_⟩
  have ws2' := zWS_dr (n := 1) ws1 (by rw [List.length_cons]; omega)
  rw [show nI (w.length + 1) - (1 : Int32) = nI ((V :: w).length - 1) from by rw [List.length_cons]; exact pk_sub (b := 1) (by omega)]
  have sM2 : zSm [10] M1 (zub M1 10 (zMo (zub F 49 (.int (nI ((V :: w).length - 1)))))) := zSm_ub zSm_refl (by decide)
  have ws2 : zWS N M0 (zub M1 10 (zMo (zub F 49 (.int (nI ((V :: w).length - 1)))))) F0 (zub F 49 (.int (nI ((V :: w).length - 1)))) Ts w most pd p ce lo := ws2'
  clear ws2'
  generalize zub M1 10 (zMo (zub F 49 (.int (nI ((V :: w).length - 1))))) = M2 at ws2 sM2 ⊢
  generalize zub F 49 (.int (nI ((V :: w).length - 1))) = F2 at ws2
  have fq2 := zFq_t fq1 (zFq_sm (D := D) sM2 (by decide))
  have fr2 := zFr_sm fr1 sM2 (by decide)
  have rr := zWS_c ws2 hw
  refine ⟨fun z => absurd z (ne 50 (by omega) (by omega)), fun _ => ⟨fun z => absurd z (ne 49 (by omega) (by omega)), fun _ => ⟨fun z => absurd z (ne 50 (by omega) (by omega)), fun _ => ⟨fun z => absurd z (ne 59 (by omega) (by omega)), fun _ => ?_⟩⟩⟩⟩
  obtain ⟨⟨kk, xx, yy⟩, hcell⟩ : ∃ q, ce[ca]? = some q := ⟨_, List.getElem?_eq_getElem (zRc_lt _ _ hca ca (Or.inl rfl))⟩
  refine zM_what hl ws2.1 hcell ?_
  -- the first row
  have fst : ∀ (l : List Term) (M3 : Nat → zE) (F3 : Nat → Value) (most3 : Nat), zSlc N j (eC e) V w (j + 1) l → zWS N M0 M3 F0 F3 Ts l most3 pd p ce lo → zFq D M M3 → zFr M3 D (nI j) a39 (nI ca) a42 (-1) → zw_206_211 xs (d + 3) Q (nI j) (zov h M3) := fun l M3 F3 most3 q1 q2 q3 q4 => by
    show Q (.inl (some (.int (nI j + 1)))) (zov h M3)
    rw [nI_1]
    exact g (j + 1) l M3 F3 most3 ca q1 q2 hca q3 q4
  have snd : ∀ (l : List Term) (M3 : Nat → zE) (F3 : Nat → Value) (most3 : Nat), eC e ≠ 33 → zSlc N j (eC e) V w (znx N (j + 1)) l → zWS N M0 M3 F0 F3 Ts l most3 pd p ce lo → zFq D M M3 → zFr M3 D (nI j) a39 (nI ca) a42 (-1) → zCV xs (d + 3) 164 12 (some 10) [Value.int (nI j), Value.int (1 : Int32)] (zov h M3) (zKI (fun x1 h2 => zw_206_223 xs (d + 3) Q x1 h2) (fun e h => Q (.inr e) h)) := fun l M3 F3 most3 q0 q1 q2 q3 q4 => by
    have rr3 := zWS_c q2 hw
    exact zM_cv hl q2.1.1 (zc164 hl q2.1.1 q2.1.2.1 rr3.2.1 (by omega) rr3.2.2.2 (zKI_v (g _ l M3 F3 most3 ca q1 q2 hca q3 q4)))
  rcases hV with c33 | ⟨cc, hV⟩ | ⟨cc, hV⟩ | ⟨cc, hV⟩ | ⟨cc, hV⟩
  · rw [c33] at ne ⊢
    exact ⟨fun z => absurd z (ne 47 (by decide) (by decide)), fun _ => ⟨fun _ => ⟨fun _ => fst w M2 F2 most (Or.inl ⟨c33, rfl, rfl⟩) ws2 fq2 fr2, fun z => absurd rfl z⟩, fun z => absurd rfl z⟩⟩
  · rw [cc] at ne ⊢
    rcases hV with rfl | rfl
    · obtain ⟨x, y, e1⟩ := hca
      rw [hcell] at e1
      cases e1
      exact ⟨fun z => absurd z (by decide), fun _ => ⟨fun z => absurd z (by decide), fun _ => ⟨fun z => absurd (show nI 1 = 7 from z) (by decide), fun _ => ⟨fun z => absurd (show nI 1 = 8 from z) (by decide), fun _ => ⟨fun z => absurd (show nI 1 = 9 from z) (by decide), fun _ => ⟨fun z => absurd (show nI 1 = 11 from z) (by decide), fun _ => ⟨fun z => absurd z (by decide), fun _ => ⟨fun z => absurd (show nI 1 = 6 from z) (by decide), fun _ => ⟨fun z => absurd (show nI 1 = 8 from z) (by decide), fun _ => ⟨fun z => absurd (show nI 1 = 11 from z) (by decide), fun _ => ⟨fun z => absurd (show nI 1 = 2 from z) (by decide), fun _ => snd w M2 F2 most (by omega) (Or.inr (Or.inr (Or.inl ⟨cc, rfl, rfl, rfl⟩))) ws2 fq2 fr2⟩⟩⟩⟩⟩⟩⟩⟩⟩⟩⟩
    · obtain ⟨x, y, e1⟩ := hca
      rw [hcell] at e1
      cases e1
      exact ⟨fun z => absurd z (by decide), fun _ => ⟨fun z => absurd z (by decide), fun _ => ⟨fun z => absurd (show nI 2 = 7 from z) (by decide), fun _ => ⟨fun z => absurd (show nI 2 = 8 from z) (by decide), fun _ => ⟨fun z => absurd (show nI 2 = 9 from z) (by decide), fun _ => ⟨fun z => absurd (show nI 2 = 11 from z) (by decide), fun _ => ⟨fun z => absurd z (by decide), fun _ => ⟨fun z => absurd (show nI 2 = 6 from z) (by decide), fun _ => ⟨fun z => absurd (show nI 2 = 8 from z) (by decide), fun _ => ⟨fun z => absurd (show nI 2 = 11 from z) (by decide), fun _ => ⟨fun _ => fst w M2 F2 most (Or.inr (Or.inl ⟨cc, rfl, rfl, rfl⟩)) ws2 fq2 fr2, fun z => absurd rfl z⟩⟩⟩⟩⟩⟩⟩⟩⟩⟩⟩
  · rw [cc] at ne ⊢
    rcases hV with rfl | ⟨v, rfl⟩
    · obtain ⟨x, y, e1⟩ := hca
      rw [hcell] at e1
      cases e1
      exact ⟨fun z => absurd z (by decide), fun _ => ⟨fun z => absurd z (by decide), fun _ => ⟨fun z => absurd (show nI 6 = 7 from z) (by decide), fun _ => ⟨fun z => absurd (show nI 6 = 8 from z) (by decide), fun _ => ⟨fun z => absurd (show nI 6 = 9 from z) (by decide), fun _ => ⟨fun z => absurd (show nI 6 = 11 from z) (by decide), fun _ => ⟨fun z => absurd z (by decide), fun _ => ⟨fun _ => fst w M2 F2 most (Or.inr (Or.inr (Or.inr (Or.inl ⟨cc, rfl, rfl, rfl⟩)))) ws2 fq2 fr2, fun z => absurd rfl z⟩⟩⟩⟩⟩⟩⟩⟩
    · have hca' := hca
      obtain ⟨jj, y, e1, hv⟩ := hca'
      rw [hcell] at e1
      cases e1
      refine ⟨fun z => absurd z (by decide), fun _ => ⟨fun z => absurd z (by decide), fun _ => ⟨fun _ => ?_, fun z => absurd rfl z⟩⟩⟩
      refine zM_head hl ws2.1 hcell (zpu_M (d := d + 2) hl ws2 ⟨xx, rfl, hv⟩ (by omega) (fun M3 F3 ws3 sM3 => ?_))
      exact ⟨fun z => absurd z (by decide), fun _ => ⟨fun z => absurd (show nI 7 = 6 from z) (by decide), fun _ => ⟨fun z => absurd (show nI 7 = 8 from z) (by decide), fun _ => ⟨fun z => absurd (show nI 7 = 11 from z) (by decide), fun _ => ⟨fun z => absurd (show nI 7 = 2 from z) (by decide), fun _ => snd (v :: w) M3 F3 _ (by omega) (Or.inr (Or.inr (Or.inr (Or.inr (Or.inl ⟨cc, v, rfl, rfl, rfl⟩))))) ws3 (zFq_t fq2 (zFq_sm sM3 (by decide))) (zFr_sm fr2 sM3 (by decide))⟩⟩⟩⟩⟩
  · rw [cc] at ne ⊢
    rcases hV with ⟨v, rfl⟩ | ⟨v, rfl⟩
    · have hca' := hca
      obtain ⟨jj, y, e1, hv⟩ := hca'
      rw [hcell] at e1
      cases e1
      refine ⟨fun z => absurd z (by decide), fun _ => ⟨fun z => absurd z (by decide), fun _ => ⟨fun z => absurd (show nI 8 = 7 from z) (by decide), fun _ => ⟨fun _ => ?_, fun z => absurd rfl z⟩⟩⟩⟩
      refine zM_head hl ws2.1 hcell (zpu_M (d := d + 2) hl ws2 ⟨xx, rfl, hv⟩ (by omega) (fun M3 F3 ws3 sM3 => ?_))
      exact ⟨fun z => absurd z (by decide), fun _ => ⟨fun z => absurd (show nI 8 = 6 from z) (by decide), fun _ => ⟨fun _ => fst (v :: w) M3 F3 _ (Or.inr (Or.inr (Or.inr (Or.inr (Or.inr (Or.inl ⟨cc, v, rfl, rfl, rfl⟩)))))) ws3 (zFq_t fq2 (zFq_sm sM3 (by decide))) (zFr_sm fr2 sM3 (by decide)), fun z => absurd rfl z⟩⟩⟩
    · have hca' := hca
      obtain ⟨jj, y, e1, hv⟩ := hca'
      rw [hcell] at e1
      cases e1
      refine ⟨fun z => absurd z (by decide), fun _ => ⟨fun z => absurd z (by decide), fun _ => ⟨fun z => absurd (show nI 9 = 7 from z) (by decide), fun _ => ⟨fun z => absurd (show nI 9 = 8 from z) (by decide), fun _ => ⟨fun _ => ?_, fun z => absurd rfl z⟩⟩⟩⟩⟩
      refine zM_head hl ws2.1 hcell (zpu_M (d := d + 2) hl ws2 ⟨xx, rfl, hv⟩ (by omega) (fun M3 F3 ws3 sM3 => ?_))
      exact ⟨fun z => absurd z (by decide), fun _ => ⟨fun z => absurd (show nI 9 = 6 from z) (by decide), fun _ => ⟨fun z => absurd (show nI 9 = 8 from z) (by decide), fun _ => ⟨fun z => absurd (show nI 9 = 11 from z) (by decide), fun _ => ⟨fun z => absurd (show nI 9 = 2 from z) (by decide), fun _ => snd (v :: w) M3 F3 _ (by omega) (Or.inr (Or.inr (Or.inr (Or.inr (Or.inr (Or.inr (Or.inl ⟨cc, v, rfl, rfl, rfl⟩))))))) ws3 (zFq_t fq2 (zFq_sm sM3 (by decide))) (zFr_sm fr2 sM3 (by decide))⟩⟩⟩⟩⟩
  · rw [cc] at ne ⊢
    rcases hV with rfl | ⟨v, L, rfl, hgo⟩
    · obtain ⟨x, y, e1⟩ := hca
      rw [hcell] at e1
      cases e1
      exact ⟨fun _ => ⟨fun z => absurd (show nI 10 = 11 from z) (by decide), fun _ => ⟨fun z => absurd z (by decide), fun _ => ⟨fun z => absurd (show nI 10 = 7 from z) (by decide), fun _ => ⟨fun z => absurd (show nI 10 = 8 from z) (by decide), fun _ => ⟨fun z => absurd (show nI 10 = 9 from z) (by decide), fun _ => ⟨fun z => absurd (show nI 10 = 11 from z) (by decide), fun _ => ⟨fun z => absurd z (by decide), fun _ => ⟨fun z => absurd (show nI 10 = 6 from z) (by decide), fun _ => ⟨fun z => absurd (show nI 10 = 8 from z) (by decide), fun _ => ⟨fun z => absurd (show nI 10 = 11 from z) (by decide), fun _ => ⟨fun z => absurd (show nI 10 = 2 from z) (by decide), fun _ => snd w M2 F2 most (by omega) (Or.inr (Or.inr (Or.inr (Or.inr (Or.inr (Or.inr (Or.inr (Or.inl ⟨cc, rfl, rfl, rfl⟩)))))))) ws2 fq2 fr2⟩⟩⟩⟩⟩⟩⟩⟩⟩⟩⟩, fun z => absurd rfl z⟩
    · have hca' := hca
      obtain ⟨hd, bd, e1, hv, hL⟩ := hca'
      rw [hcell, hgo] at e1
      cases e1
      refine ⟨fun _ => ⟨fun _ => ?_, fun z => absurd rfl z⟩, fun z => absurd rfl z⟩
      refine zM_body hl ws2.1 hcell (zpu_M (d := d + 2) (V := .old L) hl ws2 ⟨yy, rfl, hL⟩ (by omega) (fun M3 F3 ws3 sM3 => ?_))
      refine ⟨fun z => absurd z (by decide), fun _ => ⟨fun z => absurd (show nI 11 = 7 from z) (by decide), fun _ => ⟨fun z => absurd (show nI 11 = 8 from z) (by decide), fun _ => ⟨fun z => absurd (show nI 11 = 9 from z) (by decide), fun _ => ⟨fun _ => ?_, fun z => absurd rfl z⟩⟩⟩⟩⟩
      refine zM_head hl ws3.1 hcell (zpu_M (d := d + 2) hl ws3 ⟨xx, rfl, hv⟩ (by rw [List.length_cons]; omega) (fun M4 F4 ws4 sM4 => ?_))
      have sM34 := zSm_t sM3 sM4
      exact ⟨fun z => absurd z (by decide), fun _ => ⟨fun z => absurd (show nI 11 = 6 from z) (by decide), fun _ => ⟨fun z => absurd (show nI 11 = 8 from z) (by decide), fun _ => ⟨fun _ => fst (v :: .old L :: w) M4 F4 _ (Or.inr (Or.inr (Or.inr (Or.inr (Or.inr (Or.inr (Or.inr (Or.inr ⟨cc, v, L, rfl, rfl, rfl⟩)))))))) ws4 (zFq_t fq2 (zFq_sm sM34 (by decide))) (zFr_sm fr2 sM34 (by decide)), fun z => absurd rfl z⟩⟩⟩⟩
end RN4
