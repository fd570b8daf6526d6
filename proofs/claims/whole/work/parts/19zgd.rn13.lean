section RN13
variable {xs : List Value} {d : Nat} {h : zH} {N : List zNt} {M0 M M1 : Nat → zE} {F0 F F1 : Nat → Value} {Q Q0 : zO → zH → Prop} {ce X : List (Nat × Nat × Nat)} {lo Y : List (Nat × Nat)} {Ts vs st l0 : List Term} {pd : List Int32} {most p p1 bits bound j fr D t stop held a b g at_ k : Nat} {e : zNt} {A : List Nat} {x : zkcs} {R R1 : zro} {a41 a42 a43 : Int32} {U T : Term} {f : Term → Term}
/-- an instruction is done -/
theorem zwin (hl : 50 ≤ h.1.length) (hw : zWC N fr bits bound M0 F0) (hb2 : 1 ≤ bits ∧ bits ≤ 120) (hbd : bound ≤ 150) (IH : ∀ i, zWb xs d h N bits bound M0 F0 Q A g i) (hD : D + (g + 1) ≤ 12) (he : N[j]? = some e) (hA : j ∈ A) (hrin : zkbk (eC e) = true → ∀ r, r ∈ zchn N (eM e) (j + 1) → zRin N A g r) (hok : zkok held st) (hb : b ≤ 12) (hs : zSs bound st vs p) (hk : zkin N (zkbl N) held j (some st, a, b) = .inr x) (ws : zWS N M0 M F0 F Ts vs most pd p ce lo) (hrs : zRs N A Ts ce lo pd p) (ht : t + D ≤ 2 * p) (hjs : j < stop) (hst : stop ≤ 100) (kE : zErw xs d h N M0 F0 Q (zrst N bits bound (zrbl N bits bound) j (vs, p))) (kC : zCow xs (d + 9) h N M0 F0 Q A (zrst N bits bound (zrbl N bits bound) j (vs, p)) D (znx N j) stop M Ts ce lo pd p) : zC22 xs (d + 9) Q (some 10) (nI D) (nI j) (nI stop) (nI t) (zov h M) := by
  rw [zkin_s he] at hk
  split at hk
  · rename_i q
    simp only [Bool.and_eq_true] at q
    obtain ⟨hI, hrd⟩ := q
    cases hE : zkE N (zkbl N) j e st held (a + 1) b with
    | inl y => rw [hE] at hk; cases hk
    | inr y =>
      rw [hE] at hk
      have hk : zkpo (eF e) held y = .inr x := hk
      have hC1 := zcst_1 (eC e) vs
      have hpb := hs.2.2
      have hz : zrst N bits bound (zrbl N bits bound) j (vs, p) = if p + zcst (eC e) vs ≤ bound then zract N bits bound (zrbl N bits bound) j e vs (p + zcst (eC e) vs) else .inl (2, .null) := by unfold zrst; rw [he]
      rw [hz] at kE kC
      refine zhead hl hw ws (by omega) he hI hok hs hrd hbd (by omega) hjs hst (fun hn M' F' ws' => ?_) (fun hle M' F' ws' fq' q38 q39 => ?_)
      · rw [if_neg hn] at kE
        exact kE.1 _ rfl M' F' _ _ _ _ _ _ _ ws'
      · rw [if_pos hle] at kE kC
        have hs1 := zSs_up hs (Nat.le_add_right p (zcst (eC e) vs)) hle
        have ht1 : t + 1 + (D + 1) ≤ 2 * (p + zcst (eC e) vs) := by omega
        have hp1 : p + 1 ≤ p + zcst (eC e) vs := by omega
        have hrs1 : zRs N A Ts ce lo pd (p + zcst (eC e) vs) := zRs_up hrs (by omega)
        by_cases h33 : eC e = 33
        · exact ⟨(fun z => by rw [h33] at z; cases z), fun z => zw33 hl hw hb2.2 hbd IH hD he hI h33 (hrin z) hok hb hs1 hrd hE ws' hrs1 fq' q38 q39 (by omega) ht1 kE kC⟩
        by_cases h2r : eC e = 58 ∨ eC e = 41 ∨ eC e = 44 ∨ eC e = 47
        · exact ⟨(fun z => by rcases h2r with c | c | c | c <;> (rw [c] at z; cases z)), fun z => zw2r hl hw hb2.2 hbd IH hD he hI h2r (hrin z) hok hb hs1 hrd hE ws' hrs1 fq' q38 q39 (by omega) ht1 kE kC⟩
        by_cases h3r : eC e = 49 ∨ eC e = 50 ∨ eC e = 59
        · exact ⟨(fun z => by rcases h3r with c | c | c <;> (rw [c] at z; cases z)), fun z => zwrp hl hw hb2.2 hbd IH hD he hI h3r (hrin z) hok hb hs1 hrd hE ws' hrs fq' q38 q39 hp1 ht1 kE kC⟩
        by_cases h76 : eC e = 76
        · exact ⟨fun _ => zw76 hl (by have := hrs.1; omega) he h76 hok hs1 hrd ws' kE, fun z => by rw [h76] at z; cases z⟩
        · have hnn : eC e ≠ 33 ∧ eC e ≠ 58 ∧ eC e ≠ 41 ∧ eC e ≠ 44 ∧ eC e ≠ 47 ∧ eC e ≠ 49 ∧ eC e ≠ 50 ∧ eC e ≠ 59 ∧ eC e ≠ 76 := by omega
          refine ⟨fun _ => zwpl hl hw hb2 hbd he hI hA hnn hok hb hs1 (fun v hv => by have := hs.2.1 v hv; omega) hrd hE hk rfl ws' hrs fq' ht kE kC, fun z => ?_⟩
          unfold zkbk at z
          simp only [Bool.or_eq_true, beq_iff_eq] at z
          omega
  · cases hk
/-- a row of instructions is done -/
theorem zwrl (hl : 50 ≤ h.1.length) (hw : zWC N fr bits bound M0 F0) (hb2 : 1 ≤ bits ∧ bits ≤ 120) (hbd : bound ≤ 150) (IH : ∀ i, zWb xs d h N bits bound M0 F0 Q A g i) (hD : D + (g + 1) ≤ 12) (hst : stop ≤ 100) : ∀ (c k : Nat) (st vs : List Term) (a b : Nat) (x : zkcs) (p most t : Nat) (pd : List Int32) (M : Nat → zE) (F : Nat → Value) (Ts : List Term) (ce : List (Nat × Nat × Nat)) (lo : List (Nat × Nat)), zfuls N c k stop → (∀ j, j ∈ zchn N c k → j ∈ A ∧ ∀ ej, N[j]? = some ej → zkbk (eC ej) = true → ∀ r, r ∈ zchn N (eM ej) (j + 1) → zRin N A g r) → zkok held st → b ≤ 12 → zSs bound st vs p → zkfo (zkin N (zkbl N) held) (zchn N c k) (some st, a, b) = .inr x → zWS N M0 M F0 F Ts vs most pd p ce lo → zRs N A Ts ce lo pd p → t + D ≤ 2 * p → zErw xs d h N M0 F0 Q (zrfo (zrst N bits bound (zrbl N bits bound)) (zchn N c k) (vs, p)) → zCow xs (d + 9) h N M0 F0 Q A (zrfo (zrst N bits bound (zrbl N bits bound)) (zchn N c k) (vs, p)) D stop stop M Ts ce lo pd p → zC22 xs (d + 9) Q (some 10) (nI D) (nI k) (nI stop) (nI t) (zov h M)
  | 0, k, st, vs, a, b, x, p, most, t, pd, M, F, Ts, ce, lo, hf, _, _, _, _, _, ws, _, ht, _, kC => by
    have hf : k = stop := hf
    subst hf
    exact kC vs p rfl (Nat.le_refl _) M F Ts most pd [] [] t (by rw [List.append_nil, List.append_nil]; exact ws) (by rw [List.append_nil, List.append_nil]; exact zGw_p (Nat.le_refl _)) zFq_refl ht
  | c + 1, k, st, vs, a, b, x, p, most, t, pd, M, F, Ts, ce, lo, hf, hin, hok, hb, hs, hk, ws, hrs, ht, kE, kC => by
    have hg := hw.2.2.1
    have hpl := zful_lt hf.1
    have hle := zfuls_le _ _ _ hf.2
    obtain ⟨e, he⟩ : ∃ e, N[k]? = some e := ⟨_, List.getElem?_eq_getElem hpl.1⟩
    have hz : zrfo (zrst N bits bound (zrbl N bits bound)) (zchn N (c + 1) k) (vs, p) = (match zrst N bits bound (zrbl N bits bound) k (vs, p) with
      | .inl e => .inl e
      | .inr s' => zrfo (zrst N bits bound (zrbl N bits bound)) (zchn N c (znx N k)) s') := rfl
    rw [hz] at kE kC
    rw [show zchn N (c + 1) k = k :: zchn N c (znx N k) from rfl] at hk
    unfold zkfo at hk
    cases hk1 : zkin N (zkbl N) held k (some st, a, b) with
    | inl y => rw [hk1] at hk; cases hk
    | inr y =>
      rw [hk1] at hk
      obtain ⟨o1, a1, b1⟩ := y
      obtain ⟨u1, u2⟩ := hin k List.mem_cons_self
      refine zwin hl hw hb2 hbd IH hD he u1 (u2 e he) hok hb hs hk1 ws hrs ht (by omega) hst (zErw_of kE (fun e he => by rw [he])) ?_
      intro vs' p' hR hp' M' F' Ts' most' pd' X Y t' ws' gw' fq' ht'
      rw [hR] at kE kC
      obtain ⟨st1, r1, r2, r3⟩ := zrst_s hg hb2.2 hbd he (fun i hi => zrbl_s hg hb2.2 hbd N.length i (by omega)) hok hb hs hk1 hR
      subst r1
      obtain ⟨t1, _, _, t4⟩ := zkin_ok hg he (fun i h1 h2 => zkbl_ok hg N.length i (by omega) h2) hok hb hk1
      refine zwrl hl hw hb2 hbd IH hD hst c (znx N k) st1 vs' a1 b1 x p' most' t' pd' M' F' Ts' (ce ++ X) (lo ++ Y) hf.2 (fun j hj => hin j (List.mem_cons_of_mem _ hj)) (t4 _ rfl) t1 r2 hk ws' (zGw_r gw' hrs) ht' kE ?_
      intro vs2 p2 hR2 hp2 M2 F2 Ts2 most2 pd2 X2 Y2 t2 ws2 gw2 fq2 ht2
      rw [List.append_assoc, List.append_assoc] at ws2 gw2
      exact kC vs2 p2 hR2 (by omega) M2 F2 Ts2 most2 pd2 _ _ t2 ws2 (zGw_t gw' gw2) (zFq_t fq' fq2) ht2
/-- a row of code is done -/
theorem zwbl (hl : 50 ≤ h.1.length) (hw : zWC N fr bits bound M0 F0) (hb2 : 1 ≤ bits ∧ bits ≤ 120) (hbd : bound ≤ 150) : ∀ (g i : Nat), zWb xs d h N bits bound M0 F0 Q A g i
  | 0, i => fun D t st vs held a b x p most pd M F Ts ce lo hr => hr.elim
  | g + 1, i => by
    intro D t st vs held a b x p most pd M F Ts ce lo hr hD hok hb hs hk ws hrs ht kE kC
    have hg := hw.2.2.1
    obtain ⟨e, he, hch⟩ := hr
    have hil := (List.getElem?_eq_some_iff.mp he).1
    have hiz := zful_lt (hg.2.2 i hil)
    have hN := hg.1.1
    have hkd := hok.1
    rw [zkbl_eq hg.1.1] at hk
    rw [zrbl_eq hg.1.1] at kE kC
    unfold zkB at hk
    unfold zrB at kE kC
    rw [he] at hk kE kC
    dsimp only at hk kE kC
    split at hk
    · exact zwrl hl hw hb2 hbd (zwbl hl hw hb2 hbd g) (by omega) (by omega) (eM e) (i + 1) st vs _ _ x p most t pd M F Ts ce lo (zGd_k hg he) hch hok (by omega) hs hk ws hrs ht kE kC
    · cases hk
end RN13
