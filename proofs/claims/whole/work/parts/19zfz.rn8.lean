/-! the reference at work: instructions -/
def zWb (xs : List Value) (d : Nat) (h : zH) (N : List zNt) (bits bound : Nat) (M0 : Nat → zE) (F0 : Nat → Value) (Q : zO → zH → Prop) (A : List Nat) (g i : Nat) : Prop := ∀ (D t : Nat) (st vs : List Term) (held a b : Nat) (x : zkcs) (p most : Nat) (pd : List Int32) (M : Nat → zE) (F : Nat → Value) (Ts : List Term) (ce : List (Nat × Nat × Nat)) (lo : List (Nat × Nat)), zRin N A g i → D + g ≤ 12 → zkok held st → b ≤ 12 → zSs bound st vs p → zkbl N i st held a b = .inr x → zWS N M0 M F0 F Ts vs most pd p ce lo → zRs N A Ts ce lo pd p → t + D ≤ 2 * p → zErw xs d h N M0 F0 Q (zrbl N bits bound i (vs, p)) → zCow xs (d + 9) h N M0 F0 Q A (zrbl N bits bound i (vs, p)) D (znx N i) (znx N i) M Ts ce lo pd p → zC22 xs (d + 9) Q (some 10) (nI D) (nI (i + 1)) (nI (znx N i)) (nI t) (zov h M)
section RN8
variable {xs : List Value} {d : Nat} {h : zH} {N : List zNt} {M0 M M1 : Nat → zE} {F0 F F1 : Nat → Value} {Q : zO → zH → Prop} {ce : List (Nat × Nat × Nat)} {lo : List (Nat × Nat)} {Ts vs st st1 l1 : List Term} {pd : List Int32} {most p p1 bits bound j fr D t stop held held1 a b a1 b1 g row : Nat} {e : zNt} {A : List Nat} {x x1 : zkcs} {a41 a42 a43 : Int32} {V : Term}
/-- a row is gone into; at its end comes again() -/
theorem zrow (hl : 50 ≤ h.1.length) (hw : zWC N fr bits bound M0 F0) (hb2 : bits ≤ 120) (hbd : bound ≤ 150) (IH : zWb xs d h N bits bound M0 F0 Q A g row) (hrin : zRin N A g row) (hrow : row < N.length) (hD : D + 1 + g ≤ 12) (hok1 : zkok held1 st1) (hb1 : b1 ≤ 12) (hs1 : zSs bound st1 l1 p1) (hk1 : zkbl N row st1 held1 a1 b1 = .inr x1) (ws : zWS N M0 M1 F0 F1 Ts l1 most pd p1 ce lo) (hrs : zRs N A Ts ce lo pd p1) (ht : t + 1 + (D + 1) ≤ 2 * p1) (kE : zErw xs d h N M0 F0 Q (zrbl N bits bound row (l1, p1))) (hf : zFr M1 D (nI j) (nI stop) a41 a42 a43) (hj : j < N.length)
    (kC : ∀ vs' p' st', zrbl N bits bound row (l1, p1) = .inr (vs', p') → x1.1 = some st' → zSs bound st' vs' p' → p1 ≤ p' → ∀ M' F' Ts' most' pd' X Y t', zWS N M0 M' F0 F' Ts' vs' most' pd' p' (ce ++ X) (lo ++ Y) → zGw N A Ts ce lo pd p1 Ts' (ce ++ X) (lo ++ Y) pd' p' → zFq (D + 1) M1 M' → zFr M' D (nI j) (nI stop) a41 a42 a43 → t' + (D + 1) ≤ 2 * p' → ∀ Q0 : zO → zH → Prop, (∀ (row : Int32) (M' : Nat → zE) (F' : Nat → Value) (Ts' vs' : List Term) (most' : Nat) (pd' : List Int32) (p' : Nat) (ce' : List (Nat × Nat × Nat)) (lo' : List (Nat × Nat)), zWS N M0 M' F0 F' Ts' vs' most' pd' p' ce' lo' → zAt M' 38 D = some (nI j) → zAt M' 39 D = some (nI stop) → zw_201_225 xs (d + 9) Q (zC22 xs (d + 9) Q) (some 10) (nI D) (nI (znx N j)) (nI stop) (nI t') row (zov h M') → Q0 (.inl (some (.int row))) (zov h M')) → zG xs (d + 8) (202, 0, lv_args 0 [zo (some 10), .int (nI D)], []) (zov h M') Q0) : zw_201_225 xs (d + 9) Q (zC22 xs (d + 9) Q) (some 10) (nI D) (nI (znx N j)) (nI stop) (nI t) (nI row) (zov h M1) := by
  have hg := hw.2.2.1
  refine zg225r hl hw ws hrow (IH (D + 1) (t + 1) st1 l1 held1 a1 b1 x1 p1 most pd M1 F1 Ts ce lo hrin hD hok1 hb1 hs1 hk1 ws hrs ht kE ?_)
  intro vs' p' hR _ M' F' Ts' most' pd' X Y t' ws' rs' fq' ht'
  obtain ⟨o1, o2, o3⟩ := x1
  obtain ⟨st', u1, u2, u3⟩ := zrbl_s hg hb2 hbd N.length row (by omega) _ _ _ _ _ _ _ _ _ _ _ hok1 hb1 hs1 hk1 hR
  have hp' := u2.2.2
  exact zclose (d := d + 5) hl hw ws' (by omega) hj (by omega) (kC vs' p' st' hR u1 u2 u3 M' F' Ts' most' pd' X Y t' ws' rs' fq' (zFr_q hf fq') ht')
theorem zw185b (hb : zkbk (eC e) = true) (hc : eC e < 256) {row : Int32} {h' : zH} (q : zw_201_225 xs (d + 9) Q (zC22 xs (d + 9) Q) (some 10) (nI D) (nI (znx N j)) (nI stop) (nI t) row h') : zw_201_185 xs (d + 9) Q (zC22 xs (d + 9) Q) (some 10) (nI D) (nI (znx N j)) (nI stop) (nI t) row (nI j) (nI (eC e)) h' := by
  refine ⟨d + 8, rfl, zc179 hc (zKI_v ?_)⟩
  rw [hb]
  exact ⟨fun z => absurd z (by decide), fun _ => ⟨fun _ => q, fun z => absurd rfl z⟩⟩
/-- top(0), top(1) -/
theorem ztops {K : Int32 → zH → Prop} {E : Nat → zH → Prop} {E2 : Nat → zH → Prop} {KK : Int32 → Int32 → zH → Prop} (hl : 50 ≤ h.1.length) (hs : zWS N M0 M F0 F Ts vs most pd p ce lo) (k : ∀ a b, zAbs ce lo vs a b → KK a b (zov h M)) : zCV xs (d + 1) 173 12 (some 10) [Value.int (0 : Int32)] (zov h M) (zKI (fun x3 h4 => zCV xs (d + 1) 173 12 (some 10) [Value.int (1 : Int32)] h4 (zKI (fun x5 h6 => KK x3 x5 h6) E)) E2) := by
  have nx : ∀ a, (0 < vs.length → zCr ce lo a (zkat vs 0)) → zCV xs (d + 1) 173 12 (some 10) [Value.int (1 : Int32)] (zov h M) (zKI (fun x5 h6 => KK a x5 h6) E) := fun a ha => zM_cv hl hs.1.1 (zc173 (k := 1) hl hs.1.1 hs.1.2.1 hs.2.2.2.2.1 (by decide) (fun U y hU hy => zKI_v (k a y ⟨ha, fun h1 => by rw [zkat_lt h1, (List.getElem?_eq_some_iff.mp hU).2]; exact hy⟩)) (fun z => zKI_v (k a (-1) ⟨ha, fun h1 => absurd h1 (by omega)⟩)))
  exact zM_cv hl hs.1.1 (zc173 (k := 0) hl hs.1.1 hs.1.2.1 hs.2.2.2.2.1 (by decide) (fun U y hU hy => zKI_v (nx y (fun h1 => by rw [zkat_lt h1, (List.getElem?_eq_some_iff.mp hU).2]; exact hy))) (fun z => zKI_v (nx (-1) (fun h1 => absurd h1 (by omega)))))
/-- a plain instruction -/
theorem zwpl (hl : 50 ≤ h.1.length) (hw : zWC N fr bits bound M0 F0) (hb2 : 1 ≤ bits ∧ bits ≤ 120) (hbd : bound ≤ 150) {C : Nat} (he : N[j]? = some e) (hI : zkI e = true) (hA : j ∈ A) (hnn : eC e ≠ 33 ∧ eC e ≠ 58 ∧ eC e ≠ 41 ∧ eC e ≠ 44 ∧ eC e ≠ 47 ∧ eC e ≠ 49 ∧ eC e ≠ 50 ∧ eC e ≠ 59 ∧ eC e ≠ 76) (hok : zkok held st) (hb : b ≤ 12) (hs1 : zSs bound st vs (p + C)) (hmr : ∀ v ∈ vs, zmr v + 1 ≤ 40 + (p + C)) (hrd : zkrd (eC e) st held = true) (hE : zkE N (zkbl N) j e st held (a + 1) b = .inr x1) (hk : zkpo (eF e) held x1 = .inr x) (hC : C = zcst (eC e) vs) (ws : zWS N M0 M1 F0 F1 Ts vs most pd (p + C) ce lo) (hrs : zRs N A Ts ce lo pd p) (fq : zFq D M M1) (ht : t + D ≤ 2 * p) (kE : zErw xs d h N M0 F0 Q (zract N bits bound (zrbl N bits bound) j e vs (p + C))) (kC : zCow xs (d + 9) h N M0 F0 Q A (zract N bits bound (zrbl N bits bound) j e vs (p + C)) D (znx N j) stop M Ts ce lo pd p) : zw_201_185 xs (d + 9) Q (zC22 xs (d + 9) Q) (some 10) (nI D) (nI (znx N j)) (nI stop) (nI t) (-1) (nI j) (nI (eC e)) (zov h M1) := by
  have hg := hw.2.2.1
  obtain ⟨i1, i2, i3, i4⟩ := zkI_ok hI
  have hC1 := zcst_1 (eC e) vs
  rw [← hC] at hC1
  have hpb := hs1.2.2
  obtain ⟨q1, q2, q3⟩ := hrs
  have hnb : zkbk (eC e) = false := by
    unfold zkbk
    simp only [Bool.or_eq_false_iff, beq_eq_false_iff_ne, ne_eq]
    omega
  have hz := zract_p (N := N) (bits := bits) (bound := bound) (j := j) (vs := vs) (p := p + C) hnn (zrbl N bits bound)
  have hln : ∀ l, zop bits (eC e) vs (zpcn N j) = some l → l.length ≤ 12 := fun l hl => by
    rw [hl] at hz
    obtain ⟨o2, a2, b2⟩ := x1
    obtain ⟨st', t1, t2, t3⟩ := zSi_p hg hb2.2 hbd hI hnn st vs held (a + 1) b o2 a2 b2 _ _ hok hb hs1 ⟨by omega, hmr⟩ hrd hE hz
    subst t1
    unfold zkpo at hk
    dsimp only at hk
    split at hk
    · rename_i q
      have : st'.length = l.length := zCfo_len t2.1
      have q1 := q.1
      omega
    · cases hk
  have h34 : eC e = 34 → ∃ T, zTy N (j + 1) 0 = .inr T ∧ zMi N (znx N (j + 1)) false T = none := fun c34 => by
    unfold zkE at hE
    rw [if_neg (by omega), if_neg (by omega), if_neg (by omega), if_pos (Or.inl c34)] at hE
    unfold zkty at hE
    cases hT : zTy N (j + 1) 0 with
    | inl y => rw [hT] at hE; cases hE
    | inr T =>
      rw [hT] at hE
      dsimp only at hE
      rw [if_pos c34] at hE
      cases hM : zMi N (znx N (j + 1)) false T with
      | some y => rw [hM] at hE; cases hE
      | none => exact ⟨T, rfl, hM⟩
  refine ⟨d + 8, rfl, zc179 (by omega) (zKI_v ?_)⟩
  rw [hnb]
  refine ⟨fun _ => ?_, fun z => absurd rfl z⟩
  refine ztops (d := d + 8) (K := fun _ _ => True) hl ws (fun a0 b0 hab => ?_)
  refine zM_cv hl ws.1.1 (zc207 (A := A) (C := C) hl hw ws he hI hnn ⟨hok.2, hs1.1, hrd, hb2, hmr, by omega⟩ h34 hab (by omega) hA (by omega) (by omega) q3 (by omega) (by omega) hln (fun l hl' M' F' Ts' most' pd' X Y ws' r1 r2 r3 r4 => zKI_v ?_) (fun hn M' F' ce' lo' ws' => zKI_v ?_))
  · refine ⟨fun _ => zg225n (kC l (p + C) (by rw [hz, hl']) (by omega) M' F' Ts' most' pd' X Y (t + 1) ws' ⟨by rw [List.length_append]; omega, by rw [List.length_append]; omega, by omega⟩ (zFq_t fq (fun q hq k _ => by unfold zAt; rw [r4 q hq])) (by omega)), fun z => absurd rfl z⟩
  · exact ⟨fun z => absurd z (by decide), fun _ => kE.2.1 _ (by rw [hz, hn]) M' F' _ _ _ _ _ ce' lo' ws'⟩
end RN8
