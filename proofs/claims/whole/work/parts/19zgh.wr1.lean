/-! the reference writes -/
def zWr (M : Nat → zE) (F : Nat → Value) (O : List Nat) : Prop := F 4 = .int (nI O.length) ∧ O.length ≤ 2800 ∧ ∃ A, M 12 = zAi A ∧ A.length = 2800 ∧ ∀ (i b : Nat), O[i]? = some b → A[i]? = some (nI b)
def zWd (M M' : Nat → zE) (F F' : Nat → Value) (O : List Nat) : Prop := M' 10 = zMo F' ∧ zSm [10, 12] M M' ∧ zSm [4] F F' ∧ zWr M' F' O
section WR1
variable {xs : List Value} {d : Nat} {h : zH} {M M1 M' M2 : Nat → zE} {F F1 F' F2 : Nat → Value} {Q : zO → zH → Prop} {ce : List (Nat × Nat × Nat)} {lo : List (Nat × Nat)} {O O1 O2 : List Nat} {b n : Nat}
theorem zWd_t (h1 : zWd M M1 F F1 O1) (h2 : zWd M1 M2 F1 F2 O2) : zWd M M2 F F2 O2 := ⟨h2.1, zSm_t h1.2.1 h2.2.1, zSm_t h1.2.2.1 h2.2.2.1, h2.2.2.2⟩
theorem zWd_r (h1 : M 10 = zMo F) (h2 : zWr M F O) : zWd M M F F O := ⟨h1, zSm_refl, zSm_refl, h2⟩
theorem zWd_f (hr : zRf F) (h1 : zWd M M1 F F1 O1) : zRf F1 := zRf_sm hr h1.2.2.1 (by decide)
theorem zWd_p (hp : zPo M F ce lo) (h1 : zWd M M1 F F1 O1) : zPo M1 F1 ce lo := zPo_sm hp h1.1 h1.2.1 h1.2.2.1 (by decide) (by decide)
theorem zWr_add {A : List Int32} (hA : A.length = 2800) (hv : ∀ (i b : Nat), O[i]? = some b → A[i]? = some (nI b)) (hO : O.length < 2800) : ∀ (i c : Nat), (O ++ [b])[i]? = some c → (A.set O.length (nI b))[i]? = some (nI c) := by
  intro i c hc
  by_cases hi : i < O.length
  · rw [List.getElem?_append_left hi] at hc
    rw [List.getElem?_set_ne (by omega)]
    exact hv i c hc
  · by_cases hi2 : i = O.length
    · subst hi2
      rw [List.getElem?_append_right (Nat.le_refl _), Nat.sub_self] at hc
      obtain rfl : b = c := Option.some.inj hc
      exact List.getElem?_set_self (by omega)
    · rw [List.getElem?_eq_none (by rw [List.length_append, List.length_singleton]; omega)] at hc
      cases hc
theorem zwst {K : zH → Prop} {v : Int32} (hl : 50 ≤ h.1.length) (h10 : M 10 = zMo F) (hw : zWr M F O) (hO : O.length < 2800) (hb : v = nI b) (k : ∀ M' F', zWd M M' F F' (O ++ [b]) → K (zov h M')) : zST 0 (some 12) (nI O.length) (.int v) (zov h (zub M 10 (zMo (zub F 4 (.int (nI O.length + 1)))))) K := by
  obtain ⟨w1, w2, A, a1, a2, a3⟩ := hw
  subst hb
  refine zM_st' hl (show zub M 10 (zMo (zub F 4 (.int (nI O.length + 1)))) 12 = zAi A by rw [zub_n (by decide)]; exact a1) (by omega) (by omega) (k _ (zub F 4 (.int (nI O.length + 1))) ⟨?_, zSm_ub (zSm_ub zSm_refl (by decide)) (by decide), zSm_ub zSm_refl (by decide), ?_, ?_, _, zub_s, by rw [List.length_set]; exact a2, zWr_add a2 a3 hO⟩)
  · rw [zub_n (by decide), zub_s]
  · rw [zub_s, nI_1, List.length_append]; rfl
  · rw [List.length_append, List.length_singleton]; omega
/-- one byte -/
theorem zwb1 {K : zH → Prop} {v : Int32} (hl : 50 ≤ h.1.length) (h10 : M 10 = zMo F) (hr : zRf F) (hw : zWr M F O) (hO : O.length < 2800) (hb : v = nI b) (k : ∀ M' F', zWd M M' F F' (O ++ [b]) → K (zov h M')) : zGR (some 10) 12 2 (zov h M) fun x1 => zGI (some 10) 12 4 (zov h M) fun x3 => zPF (some 10) 12 4 (Value.int (x3 + (1 : Int32))) (zov h M) fun h5 => zST 0 x1 x3 (Value.int v) h5 K :=
  zM_gr hl h10 (hr (2, 12) (by decide)) (zM_gi hl h10 hw.1 (zM_pf hl h10 (zwst hl h10 hw hO hb k)))
theorem zc211 {a b : Nat} {x y : Int32} (hl : 50 ≤ h.1.length) (h10 : M 10 = zMo F) (hr : zRf F) (hw : zWr M F O) (hO : O.length + 2 ≤ 2800) (ha : x = nI a) (hb : y = nI b) (k : ∀ M' F', zWd M M' F F' (O ++ [a, b]) → Q (.inl none) (zov h M')) : zG xs d (211, 0, lv_args 0 [zo (some 10), .int x, .int y], []) (zov h M) Q := by
  apply zm_211
  refine zwb1 hl h10 hr hw (by omega) ha (fun M1 F1 d1 => ?_)
  refine zwb1 hl d1.1 (zWd_f hr d1) d1.2.2.2 (by rw [List.length_append, List.length_singleton]; omega) hb (fun M2 F2 d2 => k M2 F2 ?_)
  have := zWd_t d1 d2
  rw [List.append_assoc] at this
  exact this
/-- a number -/
theorem zc210 {s : Bool} {sg : Int32} (hl : 50 ≤ h.1.length) (h10 : M 10 = zMo F) (hr : zRf F) (hw : zWr M F O) (hn : n < 2 ^ 120) (hO : O.length + 1 + (znum s n).length ≤ 2800) (hsg : sg = nI s.toNat) (k : ∀ M' F', zWd M M' F F' (O ++ 0 :: znum s n) → Q (.inl none) (zov h M')) : zG xs d (210, 0, lv_args 0 [zo (some 10), .long (lN (n / 1152921504606846976)), .long (lN (n % 1152921504606846976)), .int sg], []) (zov h M) Q := by
  have sh6 : ∀ s : Bool, nI s.toNat <<< ((6 : Int32) &&& 31) = nI (64 * s.toNat) := by decide
  have h64 : ∀ b, b < 64 → ∀ e, e < 2 → nI b ||| nI (64 * e) = nI (b + 64 * e) := by decide
  have h0 : ∀ b, b < 128 → nI b ||| 0 = nI b := by decide
  have hz : ∀ x : Int32, x ||| 0 = x := fun x => by
    apply Int32.toBitVec_inj.mp
    rw [Int32.toBitVec_or]
    exact BitVec.or_zero
  subst hsg
  refine zm_210 (fun m l0 l5 l6 l8 l10 l11 l12 h0 => ∃ v kb i O1 M1 F1, m = 20 - i ∧ l0 = some 10 ∧ l5 = nI s.toNat ∧ l6 = lN (v / 1152921504606846976) ∧ l8 = lN (v % 1152921504606846976) ∧ l10 = nI kb ∧ l12 = nI i ∧ h0 = zov h M1 ∧ zWd M M1 F F1 O1 ∧ ((l11 = 0 ∧ i ≤ 20 ∧ O1 = O ++ 0 :: znum s n) ∨ (l11 = 1 ∧ v < 2 ^ 120 ∧ (kb = 6 ∧ i = 0 ∧ v = n ∧ O1 = O ++ [0] ∨ kb = 7 ∧ 0 < i ∧ v < 2 ^ (121 - 7 * i) ∧ 0 < v ∧ ∃ f, v < 128 * 128 ^ f ∧ O1 ++ zn7 f v = O ++ 0 :: znum s n)))) ?_ ?_
  · rintro m l0 l5 l6 l8 l10 l11 l12 h0' ⟨v, kb, i, O1, M1, F1, rfl, rfl, rfl, rfl, rfl, rfl, rfl, rfl, d1, hc⟩
    have r1 := zWd_f hr d1
    rcases hc with ⟨rfl, hi, rfl⟩ | ⟨rfl, hv, hc⟩
    · exact pk_lt i 20 (fun _ => ⟨fun _ => k M1 F1 d1, fun z => absurd rfl z⟩) (fun _ => k M1 F1 d1)
    · have hkb : kb = 6 ∨ kb = 7 := by rcases hc with ⟨h, _⟩ | ⟨h, _⟩ <;> omega
      have hi : i ≤ 17 := by
        rcases hc with ⟨_, h, _⟩ | ⟨_, _, h, h2, _⟩
        · omega
        · by_cases q : i ≤ 17
          · exact q
          · rw [show 121 - 7 * i = 0 by omega] at h
            omega
      obtain ⟨s1, s2⟩ := zshn hkb hv
      refine pk_lt i 20 (fun _ => ⟨fun z => absurd z (by decide), fun _ => ?_⟩) (fun z => absurd z (by omega))
      intro x3 hx3 x6 hx6 x9 hx9
      rw [s1] at hx6
      rw [s2] at hx9
      subst hx6 hx9
      have hx3 : x3 = nI (v % 2 ^ kb) := by
        rw [hx3]
        rcases hkb with rfl | rfl
        · rw [show ((1 : Int64) <<< ((nI 6).toInt64 &&& 63)) - (1 : Int64) = lN (2 ^ 6 - 1) by decide, wb_mask (by omega) (by decide), lN_i]
          congr 1; omega
        · rw [show ((1 : Int64) <<< ((nI 7).toInt64 &&& 63)) - (1 : Int64) = lN (2 ^ 7 - 1) by decide, wb_mask (by omega) (by decide), lN_i]
          congr 1; omega
      subst hx3
      have hd : v / 2 ^ kb ≤ v := Nat.div_le_self _ _
      -- the byte
      have byt : ∀ (mo : Nat) (J : zP → Int32 → Int64 → Int64 → Int32 → Int32 → Int32 → zH → Prop), mo ≤ 1 → O1.length < 2800 → (∀ M2 F2, zWd M M2 F F2 (O1 ++ [v % 2 ^ kb + (if i = 0 then 64 * s.toNat else 0) + 128 * mo]) → J (some 10) (nI s.toNat) (lN (v / 2 ^ kb / 1152921504606846976)) (lN (v / 2 ^ kb % 1152921504606846976)) 7 (nI mo) (nI (i + 1)) (zov h M2)) → zw_210_103 xs d Q J (some 10) (nI s.toNat) (lN (v / 2 ^ kb / 1152921504606846976)) (lN (v / 2 ^ kb % 1152921504606846976)) (nI i) (nI (v % 2 ^ kb)) (nI mo) (zov h M1) := by
        intro mo J hmo hO1 kk
        refine zM_gr hl d1.1 (r1 (2, 12) (by decide)) (zM_gi hl d1.1 d1.2.2.2.1 (zM_pf hl d1.1 ?_))
        have put : ∀ (e : Nat), e = (if i = 0 then 64 * s.toNat else 0) → zw_210_136 xs d Q J (some 10) (nI s.toNat) (lN (v / 2 ^ kb / 1152921504606846976)) (lN (v / 2 ^ kb % 1152921504606846976)) (nI mo) (nI i) (nI e) (nI (v % 2 ^ kb)) (nI O1.length) (some 12) (zov h (zub M1 10 (zMo (zub F1 4 (.int (nI O1.length + 1)))))) := by
          intro e he
          rw [← he] at kk
          have hb : nI (v % 2 ^ kb) ||| nI e = nI (v % 2 ^ kb + e) ∧ v % 2 ^ kb + e < 128 := by
            rcases hc with ⟨rfl, hi0, _⟩ | ⟨rfl, hi0, _⟩
            · rw [if_pos hi0] at he
              subst he
              have : s.toNat < 2 := by cases s <;> decide
              exact ⟨h64 _ (by omega) _ this, by omega⟩
            · rw [if_neg (by omega)] at he
              subst he
              exact ⟨h0 _ (by omega), by omega⟩
          have st : ∀ y : Int32, nI (v % 2 ^ kb + e) ||| y = nI (v % 2 ^ kb + e + 128 * mo) → zw_210_149 xs d Q J (some 10) (nI s.toNat) (lN (v / 2 ^ kb / 1152921504606846976)) (lN (v / 2 ^ kb % 1152921504606846976)) (nI mo) (nI i) y (nI (v % 2 ^ kb + e)) (nI O1.length) (some 12) (zov h (zub M1 10 (zMo (zub F1 4 (.int (nI O1.length + 1)))))) := by
            intro y hy
            refine zwst hl d1.1 d1.2.2.2 hO1 hy (fun M2 F2 d2 => ?_)
            intro x hx
            rw [hx, nI_1]
            exact kk M2 F2 (zWd_t d1 d2)
          unfold zw_210_136
          rw [hb.1]
          rcases (show mo = 0 ∨ mo = 1 by omega) with rfl | rfl
          · exact ⟨fun _ => st 0 (by rw [hz]; rfl), fun z => absurd rfl z⟩
          · exact ⟨fun z => absurd z (by decide), fun _ => st 128 (by rw [zor128 _ hb.2])⟩
        refine pk_eq i 0 (fun z => ?_) (fun z => put 0 (by rw [if_neg z]))
        have := put (64 * s.toNat) (by rw [if_pos z])
        rw [← sh6 s] at this
        exact this
      -- nothing is left
      have fin : v / 2 ^ kb = 0 → zw_210_103 xs d Q (fun l0 l5 l6 l8 l10 l11 l12 h0 => ∃ n1, n1 < 20 - i ∧ ∃ v kb i O1 M1 F1, n1 = 20 - i ∧ l0 = some 10 ∧ l5 = nI s.toNat ∧ l6 = lN (v / 1152921504606846976) ∧ l8 = lN (v % 1152921504606846976) ∧ l10 = nI kb ∧ l12 = nI i ∧ h0 = zov h M1 ∧ zWd M M1 F F1 O1 ∧ ((l11 = 0 ∧ i ≤ 20 ∧ O1 = O ++ 0 :: znum s n) ∨ (l11 = 1 ∧ v < 2 ^ 120 ∧ (kb = 6 ∧ i = 0 ∧ v = n ∧ O1 = O ++ [0] ∨ kb = 7 ∧ 0 < i ∧ v < 2 ^ (121 - 7 * i) ∧ 0 < v ∧ ∃ f, v < 128 * 128 ^ f ∧ O1 ++ zn7 f v = O ++ 0 :: znum s n)))) (some 10) (nI s.toNat) (lN (v / 2 ^ kb / 1152921504606846976)) (lN (v / 2 ^ kb % 1152921504606846976)) (nI i) (nI (v % 2 ^ kb)) (nI 0) (zov h M1) := by
        intro hz0
        have hO1 : O1 ++ [v % 2 ^ kb + (if i = 0 then 64 * s.toNat else 0) + 128 * 0] = O ++ 0 :: znum s n := by
          rcases hc with ⟨rfl, hi0, rfl, rfl⟩ | ⟨rfl, hi0, _, hv0, f, hf, hO'⟩
          · rw [if_pos hi0, List.append_assoc]
            unfold znum
            rw [if_pos (by omega), show v % 2 ^ 6 + 64 * s.toNat + 128 * 0 = v + 64 * s.toNat by omega]
            rfl
          · have hv128 : v < 128 := by omega
            have hz7 : zn7 f v = [v] := by
              cases f with
              | zero => unfold zn7; rw [Nat.mod_eq_of_lt hv128]
              | succ f => unfold zn7; rw [if_pos hv128]
            rw [hz7] at hO'
            rw [if_neg (by omega), show v % 2 ^ 7 + 0 + 128 * 0 = v by omega, hO']
        have hlen : O1.length + 1 = O.length + ((znum s n).length + 1) := by have := congrArg List.length hO1; rw [List.length_append, List.length_append, List.length_singleton] at this; exact this
        refine byt 0 _ (by omega) (by omega) (fun M2 F2 d2 => ?_)
        rw [hO1] at d2
        exact ⟨20 - (i + 1), by omega, v / 2 ^ kb, 7, i + 1, _, M2, F2, rfl, rfl, rfl, rfl, rfl, rfl, rfl, rfl, d2, Or.inl ⟨rfl, by omega, rfl⟩⟩
      have more : v / 2 ^ kb ≠ 0 → zw_210_103 xs d Q (fun l0 l5 l6 l8 l10 l11 l12 h0 => ∃ n1, n1 < 20 - i ∧ ∃ v kb i O1 M1 F1, n1 = 20 - i ∧ l0 = some 10 ∧ l5 = nI s.toNat ∧ l6 = lN (v / 1152921504606846976) ∧ l8 = lN (v % 1152921504606846976) ∧ l10 = nI kb ∧ l12 = nI i ∧ h0 = zov h M1 ∧ zWd M M1 F F1 O1 ∧ ((l11 = 0 ∧ i ≤ 20 ∧ O1 = O ++ 0 :: znum s n) ∨ (l11 = 1 ∧ v < 2 ^ 120 ∧ (kb = 6 ∧ i = 0 ∧ v = n ∧ O1 = O ++ [0] ∨ kb = 7 ∧ 0 < i ∧ v < 2 ^ (121 - 7 * i) ∧ 0 < v ∧ ∃ f, v < 128 * 128 ^ f ∧ O1 ++ zn7 f v = O ++ 0 :: znum s n)))) (some 10) (nI s.toNat) (lN (v / 2 ^ kb / 1152921504606846976)) (lN (v / 2 ^ kb % 1152921504606846976)) (nI i) (nI (v % 2 ^ kb)) (nI 1) (zov h M1) := by
        intro hz0
        obtain ⟨f, hO1, hf, hlt⟩ : ∃ f, (O1 ++ [v % 2 ^ kb + (if i = 0 then 64 * s.toNat else 0) + 128 * 1]) ++ zn7 f (v / 2 ^ kb) = O ++ 0 :: znum s n ∧ v / 2 ^ kb < 128 * 128 ^ f ∧ v / 2 ^ kb < 2 ^ (121 - 7 * (i + 1)) := by
          rcases hc with ⟨rfl, hi0, rfl, rfl⟩ | ⟨rfl, hi0, hv1, hv0, f, hf, hO'⟩
          · have hv64 : ¬ v < 64 := by omega
            refine ⟨20, ?_, by omega, ?_⟩
            · rw [if_pos hi0, List.append_assoc, List.append_assoc]
              unfold znum
              rw [if_neg hv64]
              rfl
            · subst hi0
              show v / 2 ^ 6 < 2 ^ 114
              omega
          · have hv128 : ¬ v < 128 := by omega
            refine (fun (q : v / 2 ^ 7 < 2 ^ (121 - 7 * (i + 1))) => ?_) ?_
            · cases f with
              | zero => rw [Nat.pow_zero] at hf; omega
              | succ f =>
                unfold zn7 at hO'
                rw [if_neg hv128] at hO'
                refine ⟨f, ?_, ?_, q⟩
                · rw [if_neg (by omega), List.append_assoc, show v % 2 ^ 7 + 0 + 128 * 1 = v % 128 + 128 by omega]; exact hO'
                · rw [Nat.pow_succ] at hf; omega
            · by_cases hi6 : i ≤ 16
              · rw [show 121 - 7 * i = 121 - 7 * (i + 1) + 7 by omega, Nat.pow_add] at hv1
                omega
              · rw [show i = 17 by omega] at hv1
                omega
        have hlen : O1.length + 1 + (zn7 f (v / 2 ^ kb)).length = O.length + ((znum s n).length + 1) := by
          have := congrArg List.length hO1
          rw [List.length_append, List.length_append, List.length_append, List.length_singleton] at this
          exact this
        have := (zn7_len f (v / 2 ^ kb)).1
        refine byt 1 _ (by omega) (by omega) (fun M2 F2 d2 => ?_)
        exact ⟨20 - (i + 1), by omega, v / 2 ^ kb, 7, i + 1, _, M2, F2, rfl, rfl, rfl, rfl, rfl, rfl, rfl, rfl, d2, Or.inr ⟨rfl, by omega, Or.inr ⟨rfl, by omega, hlt, Nat.pos_of_ne_zero hz0, f, hf, hO1⟩⟩⟩
      refine ⟨fun z => ⟨fun z2 => fin ?_, fun z2 => more ?_⟩, fun z => more ?_⟩
      · rw [zL0 (by omega)] at z z2; omega
      · rw [zL0 (by omega)] at z2; omega
      · rw [zL0 (by omega)] at z; omega
  · refine zwb1 (b := 0) hl h10 hr hw (by omega) rfl (fun M1 F1 d1 => ?_)
    exact ⟨20, n, 6, 0, _, M1, F1, rfl, rfl, rfl, rfl, rfl, rfl, rfl, rfl, d1, Or.inr ⟨rfl, hn, Or.inl ⟨rfl, rfl, rfl, rfl⟩⟩⟩
end WR1
