/-! the reference reads -/
/-- these bytes stand in the memory from fr on, and are what is read -/
def zMm (M : Nat → zE) (F : Nat → Value) (B : List Nat) (fr : Nat) : Prop := M 10 = zMo F ∧ zRf F ∧ F 6 = .int (nI fr) ∧ F 7 = .int (nI (fr + B.length)) ∧ fr + B.length ≤ 8660 ∧ ∃ Lm, M 11 = zAi Lm ∧ Lm.length = 8660 ∧ ∀ (i b : Nat), B[i]? = some b → b < 256 ∧ Lm[fr + i]? = some (nI b)
theorem zMm_sm {M M' : Nat → zE} {F F' : Nat → Value} {B : List Nat} {fr : Nat} {S T : List Nat} (hm : zMm M F B fr) (h10 : M' 10 = zMo F') (hM : zSm S M M') (hF : zSm T F F') (hS : S.contains 11 = false) (hT : ((6, 6) :: (7, 7) :: zrfs).all (fun q => !(T.contains q.1)) = true) : zMm M' F' B fr := by
  obtain ⟨a1, a2, a3, a4, a5, Lm, b1, b2, b3⟩ := hm
  have t0 : ∀ q : Nat × Nat, q ∈ ((6, 6) :: (7, 7) :: zrfs) → F' q.1 = F q.1 := fun q hq => hF q.1 (by simpa using List.all_eq_true.mp hT q hq)
  refine ⟨h10, fun q hq => ?_, ?_, ?_, a5, Lm, ?_, b2, b3⟩
  · rw [t0 q (List.mem_cons_of_mem _ (List.mem_cons_of_mem _ hq))]; exact a2 q hq
  · rw [t0 (6, 6) (by simp)]; exact a3
  · rw [t0 (7, 7) (by simp)]; exact a4
  · rw [hM 11 (by simpa using hS)]; exact b1
section MRD
variable {xs : List Value} {d : Nat} {h : zH} {M : Nat → zE} {F : Nat → Value} {Q : zO → zH → Prop} {B : List Nat} {fr : Nat}
/-- refused at place e -/
theorem zc158b {e : Nat} (hl : 50 ≤ h.1.length) (hm : zMm M F B fr) (k : ∀ M' F', M' 10 = zMo F' → zSm [10] M M' → zSm [5] F F' → F' 5 = .int (nI e) → Q (.inl (some (.int (-1)))) (zov h M')) : zG xs d (158, 0, lv_args 0 [zo (some 10), .int (nI (fr + e))], []) (zov h M) Q := by
  refine zc158 hl hm.1 hm.2.2.1 (k _ _ zub_s (zSm_ub zSm_refl (by decide)) (zSm_ub zSm_refl (by decide)) ?_)
  rw [zub_s, pk_sub (by omega), show fr + e - fr = e by omega]
theorem zMm_at {p b : Nat} {K : Int32 → Prop} (hl : 50 ≤ h.1.length) (hm : zMm M F B fr) (hb : B[p]? = some b) (k : b < 256 → K (nI b)) : zGR (some 10) 12 1 (zov h M) fun x => zIA xs x (nI (fr + p)) (zov h M) K := by
  obtain ⟨a1, a2, a3, a4, a5, Lm, b1, b2, b3⟩ := hm
  obtain ⟨c1, c2⟩ := b3 p b hb
  have hpl := (List.getElem?_eq_some_iff.mp hb).1
  exact zM_gr hl a1 (a2 (1, 11) (by decide)) (zM_ia' hl b1 c2 (k c1))
theorem zshl1 {k : Nat} (hk : k < 64) : (1 : Int64) <<< ((nI k).toInt64 &&& 63) = lN (2 ^ k) := (wb_shl 1 hk).trans (by rw [Nat.one_mul])
set_option maxRecDepth 100000 in
theorem zbitI : ∀ b, b < 256 → ∀ i, i < 8 → (nI b >>> (nI i &&& 31)) &&& 1 = nI (b / 2 ^ i % 2) := by decide
theorem zc160 {n p : Nat} {Hi Lo : List Int64} {Co : List Int32} (hl : 50 ≤ h.1.length) (hm : zMm M F B fr) (hn : n < 100) (hH : M 21 = zAl Hi) (hL : M 22 = zAl Lo) (hC : M 15 = zAi Co) (lH : Hi.length = 100) (lL : Lo.length = 100) (lC : Co.length = 100) (h0 : Hi[n]? = some 0) (l0 : Lo[n]? = some 0) (hp : p ≤ B.length) (hB : B.length ≤ 2000)
    (k0 : ∀ e, zpnu B p = .inl e → ∀ M' F', M' 10 = zMo F' → zSm [10, 15, 21, 22] M M' → (∃ Hi' Lo' Co', M' 21 = zAl Hi' ∧ M' 22 = zAl Lo' ∧ M' 15 = zAi Co' ∧ Hi'.length = 100 ∧ Lo'.length = 100 ∧ Co'.length = 100) → zSm [5] F F' → F' 5 = .int (nI e) → Q (.inl (some (.int (-1)))) (zov h M'))
    (k1 : ∀ p' s v, zpnu B p = .inr (p', s, v) → ∀ M', zSm [15, 21, 22] M M' → M' 21 = zAl (Hi.set n (lN (v / 1152921504606846976))) → M' 22 = zAl (Lo.set n (lN (v % 1152921504606846976))) → M' 15 = zAi (Co.set n (nI s)) → Q (.inl (some (.int (nI (fr + p'))))) (zov h M')) : zG xs (d + 1) (160, 0, lv_args 0 [zo (some 10), .int (nI n), .int (nI (fr + p))], []) (zov h M) Q := by
  have hBf : fr + B.length ≤ 8660 := hm.2.2.2.2.1
  have bad : ∀ (e : Nat) (M1 : Nat → zE) (Hi' Lo' : List Int64) (Co' : List Int32), zSm [15, 21, 22] M M1 → M1 21 = zAl Hi' → M1 22 = zAl Lo' → M1 15 = zAi Co' → Hi'.length = 100 → Lo'.length = 100 → Co'.length = 100 → zpnu B p = .inl e → zG xs d (158, 0, lv_args 0 [zo (some 10), .int (nI (fr + e))], []) (zov h M1) (zKI (fun x h => Q (.inl (some (.int x))) h) (fun e h => Q (.inr e) h)) := by
    intro e M1 Hi' Lo' Co' s1 a1 a2 a3 a4 a5 a6 he
    refine zc158b hl (zMm_sm hm (by rw [s1 10 (by decide)]; exact hm.1) s1 (zSm_refl (S := [])) (by decide) (by decide)) (fun M' F' b1 b2 b3 b4 => zKI_v ?_)
    exact k0 e he M' F' b1 (zSm_trans s1 b2 (by decide) (by decide)) ⟨Hi', Lo', Co', by rw [b2 21 (by decide)]; exact a1, by rw [b2 22 (by decide)]; exact a2, by rw [b2 15 (by decide)]; exact a3, a4, a5, a6⟩ b3 b4
  -- the state: byte a, shift sh, amount v; C: the codes so far
  refine zm_160 (fun m l0 l1 l2 l3 l4 h1 => ∃ M1 a sh v C, m = 20 * (B.length - a) + 10 ∧ l0 = some 10 ∧ l1 = nI n ∧ l2 = nI (fr + p) ∧ l3 = nI sh ∧ l4 = nI (fr + a) ∧ h1 = zov h M1 ∧ zSm [15, 21, 22] M M1 ∧ M1 21 = zAl (Hi.set n (lN (v / 1152921504606846976))) ∧ M1 22 = zAl (Lo.set n (lN (v % 1152921504606846976))) ∧ M1 15 = zAi C ∧ C.length = 100 ∧ a ≤ B.length ∧ v < 2 ^ 120 ∧ v < 2 ^ sh ∧ ((a = p ∧ sh = 0 ∧ C = Co) ∨ (p < a ∧ sh = 6 + 7 * (a - p - 1) ∧ ∃ s, C = Co.set n (nI s) ∧ zpnu B p = match zpmo B (B.length - (a - p - 1)) a sh v with | .inl e => .inl e | .inr (p2, v2) => .inr (p2, s, v2))))
    (fun m l0 l1 l2 l3 l4 l5 l6 l7 h1 => ∃ M1 a sh v C b i wd, m = 20 * (B.length - a) + (wd - i) ∧ l0 = some 10 ∧ l1 = nI n ∧ l2 = nI (fr + p) ∧ l3 = nI sh ∧ l4 = nI (fr + a) ∧ l5 = nI b ∧ l6 = nI wd ∧ l7 = nI i ∧ h1 = zov h M1 ∧ zSm [15, 21, 22] M M1 ∧ M1 21 = zAl (Hi.set n (lN ((v + b % 2 ^ i * 2 ^ sh) / 1152921504606846976))) ∧ M1 22 = zAl (Lo.set n (lN ((v + b % 2 ^ i * 2 ^ sh) % 1152921504606846976))) ∧ M1 15 = zAi C ∧ C.length = 100 ∧ B[a]? = some b ∧ b < 256 ∧ i ≤ wd ∧ b % 2 ^ i * 2 ^ sh < 2 ^ 120 ∧ v < 2 ^ 120 ∧ v < 2 ^ sh ∧ sh < 20000 ∧ ((a = p ∧ sh = 0 ∧ wd = 6 ∧ C = Co ∧ b ≠ 64) ∨ (p < a ∧ sh = 6 + 7 * (a - p - 1) ∧ wd = 7 ∧ b ≠ 0 ∧ ∃ s, C = Co.set n (nI s) ∧ zpnu B p = match zpmo B (B.length - (a - p - 1)) a sh v with | .inl e => .inl e | .inr (p2, v2) => .inr (p2, s, v2)))) ?_ ?_ ?_
  · rintro m l0 l1 l2 l3 l4 h1 ⟨M1, a, sh, v, C, rfl, rfl, rfl, rfl, rfl, rfl, rfl, s1, a1, a2, a3, a4, a5, a6, a7, hc⟩
    have m10 : M1 10 = zMo F := by rw [s1 10 (by decide)]; exact hm.1
    have hm1 := zMm_sm hm m10 s1 (zSm_refl (S := []) (A := F)) (by decide) (by decide)
    have lH1 : (Hi.set n (lN (v / 1152921504606846976))).length = 100 := by rw [List.length_set]; exact lH
    have lL1 : (Lo.set n (lN (v % 1152921504606846976))).length = 100 := by rw [List.length_set]; exact lL
    refine zM_gi hl m10 hm.2.2.2.1 ⟨fun z => ?_, fun z => ?_⟩
    · have ha : a < B.length := by have := (nI_ltI (by omega) (by omega)).mp z; omega
      obtain ⟨b, hb⟩ : ∃ b, B[a]? = some b := ⟨_, List.getElem?_eq_getElem ha⟩
      have bad1 : zpnu B p = .inl a → ∀ J1 J2, zw_160_59 xs (d + 1) Q J1 J2 (some 10) (nI (fr + a)) (zov h M1) := fun he J1 J2 => zM_cv hl m10 (bad a M1 _ _ _ s1 a1 a2 a3 lH1 lL1 a4 he)
      refine zMm_at hl hm1 hb (fun hb256 => ?_)
      have eap : nI (fr + a) = nI (fr + p) ↔ a = p := by rw [nI_eq (by omega) (by omega)]; omega
      have e64 : nI b = 64 ↔ b = 64 := nI_eq (b := 64) (by omega) (by decide)
      have e00 : nI b = 0 ↔ b = 0 := nI_eq (b := 0) (by omega) (by decide)
      refine ⟨fun z2 => ⟨fun _ => ⟨fun z3 => ?_, fun z3 => ?_⟩, fun z3 => absurd z2 z3⟩, fun z2 => ⟨fun z3 => absurd z3 z2, fun _ => ⟨fun z3 => ?_, fun z3 => ?_⟩⟩⟩
      · have hap := eap.mp z2
        subst hap
        refine bad1 ?_ _ _
        unfold zpnu
        rw [hb]
        exact if_pos (e64.mp z3)
      · have hap := eap.mp z2
        rcases hc with ⟨c1, c2, c3⟩ | ⟨c1, _⟩
        · refine ⟨20 * (B.length - a) + (6 - 0), by omega, M1, a, sh, v, C, b, 0, 6, rfl, rfl, rfl, rfl, rfl, rfl, rfl, rfl, rfl, rfl, s1, ?_, ?_, a3, a4, hb, hb256, by omega, ?_, a6, a7, by omega, Or.inl ⟨c1, c2, rfl, c3, fun z4 => z3 (e64.mpr z4)⟩⟩
          · rw [Nat.pow_zero, Nat.mod_one, Nat.zero_mul, Nat.add_zero]; exact a1
          · rw [Nat.pow_zero, Nat.mod_one, Nat.zero_mul, Nat.add_zero]; exact a2
          · rw [Nat.pow_zero, Nat.mod_one, Nat.zero_mul]; decide
        · omega
      · have hap : a ≠ p := fun q => z2 (eap.mpr q)
        rcases hc with ⟨c1, _⟩ | ⟨c1, c2, s, c3, c4⟩
        · exact absurd c1 hap
        · rw [show B.length - (a - p - 1) = (B.length - (a - p - 1) - 1) + 1 by omega, zpmo, hb] at c4
          dsimp only at c4
          rw [if_pos (Or.inl (e00.mp z3))] at c4
          exact bad1 c4 _ _
      · have hap : a ≠ p := fun q => z2 (eap.mpr q)
        rcases hc with ⟨c1, _⟩ | ⟨c1, c2, s, c3, c4⟩
        · exact absurd c1 hap
        · refine ⟨20 * (B.length - a) + (7 - 0), by omega, M1, a, sh, v, C, b, 0, 7, rfl, rfl, rfl, rfl, rfl, rfl, rfl, rfl, rfl, rfl, s1, ?_, ?_, a3, a4, hb, hb256, by omega, ?_, a6, a7, by omega, Or.inr ⟨c1, c2, rfl, fun z4 => z3 (e00.mpr z4), s, c3, c4⟩⟩
          · rw [Nat.pow_zero, Nat.mod_one, Nat.zero_mul, Nat.add_zero]; exact a1
          · rw [Nat.pow_zero, Nat.mod_one, Nat.zero_mul, Nat.add_zero]; exact a2
          · rw [Nat.pow_zero, Nat.mod_one, Nat.zero_mul]; decide
    · have ha : a = B.length := by
        have := mt (nI_ltI (a := fr + a) (b := fr + B.length) (by omega) (by omega)).mpr z
        omega
      have hn : B[a]? = none := List.getElem?_eq_none (by omega)
      refine zM_gi hl m10 hm.2.2.2.1 (zM_cv hl m10 (bad B.length M1 _ _ _ s1 a1 a2 a3 lH1 lL1 a4 ?_))
      rcases hc with ⟨c1, _⟩ | ⟨c1, c2, s, c3, c4⟩
      · subst c1
        unfold zpnu
        rw [hn]
      · rw [show B.length - (a - p - 1) = (B.length - (a - p - 1) - 1) + 1 by omega, zpmo, hn] at c4
        exact c4
  · rintro m l0 l1 l2 l3 l4 l5 l6 l7 h1 ⟨M1, a, sh, v, C, b, i, wd, rfl, rfl, rfl, rfl, rfl, rfl, rfl, rfl, rfl, rfl, s1, a1, a2, a3, a4, hb, hb256, hi, hr, hv, hvs, hsh, hc⟩
    have m10 : M1 10 = zMo F := by rw [s1 10 (by decide)]; exact hm.1
    have ha : a < B.length := (List.getElem?_eq_some_iff.mp hb).1
    have hwd : wd = 6 ∨ wd = 7 := by rcases hc with ⟨_, _, c, _⟩ | ⟨_, _, c, _⟩ <;> omega
    have hpa : p ≤ a := by rcases hc with ⟨c, _⟩ | ⟨c, _⟩ <;> omega
    refine ⟨fun z => ?_, fun z => ?_⟩
    · have hiw : i < wd := (nI_ltI (by omega) (by omega)).mp z
      have hbit : b % 2 ^ (i + 1) = b % 2 ^ i + b / 2 ^ i % 2 * 2 ^ i := by
        rw [Nat.pow_succ, Nat.mod_mul, Nat.mul_comm]
      have hb2 : b / 2 ^ i % 2 < 2 := Nat.mod_lt _ (by decide)
      have hvi : v + b % 2 ^ i * 2 ^ sh < 2 ^ (sh + i) := by
        have : b % 2 ^ i + 1 ≤ 2 ^ i := Nat.mod_lt _ (Nat.two_pow_pos _)
        have := Nat.mul_le_mul_right (2 ^ sh) this
        rw [Nat.add_mul, Nat.one_mul, ← Nat.pow_add, Nat.add_comm i sh] at this
        omega
      have hv120 : v + b % 2 ^ i * 2 ^ sh < 2 ^ 120 := (zor_hl (c := b % 2 ^ i) hvs (by omega) hr hv).2.2
      rw [zbitI b hb256 i (by omega), show nI (b / 2 ^ i % 2) = 0 ↔ b / 2 ^ i % 2 = 0 from nI_eq (b := 0) (by omega) (by decide)]
      refine ⟨fun z2 => ?_, fun z2 => ?_⟩
      · intro x hx
        rw [z2, Nat.zero_mul, Nat.add_zero] at hbit
        refine ⟨20 * (B.length - a) + (wd - (i + 1)), by omega, M1, a, sh, v, C, b, i + 1, wd, rfl, rfl, rfl, rfl, rfl, rfl, rfl, rfl, by rw [hx, nI_1], rfl, s1, by rw [hbit]; exact a1, by rw [hbit]; exact a2, a3, a4, hb, hb256, hiw, by rw [hbit]; exact hr, hv, hvs, hsh, hc⟩
      · have hb1 : b / 2 ^ i % 2 = 1 := by omega
        rw [hb1, Nat.one_mul] at hbit
        have hadd : b % 2 ^ (i + 1) * 2 ^ sh = b % 2 ^ i * 2 ^ sh + 1 * 2 ^ (sh + i) := by rw [hbit, Nat.add_mul, Nat.one_mul, ← Nat.pow_add, Nat.add_comm i sh]
        rw [nI_add]
        refine ⟨fun z3 => ?_, fun z3 => ?_⟩
        · have hs120 : sh + i < 120 := (nI_ltI (b := 120) (by omega) (by decide)).mp z3
          have hpow : 1 * 2 ^ (sh + i) < 2 ^ 120 := by rw [Nat.one_mul]; exact Nat.pow_lt_pow_right (by decide) hs120
          obtain ⟨o1, o2, o3⟩ := zor_hl (c := 1) hvi (by omega) hpow hv120
          have hsum : v + b % 2 ^ i * 2 ^ sh + 1 * 2 ^ (sh + i) = v + b % 2 ^ (i + 1) * 2 ^ sh := by rw [hadd]; omega
          have hlt : b % 2 ^ (i + 1) * 2 ^ sh < 2 ^ 120 := by omega
          rw [hsum] at o1 o2
          have or0 : ∀ x : Int64, x ||| lN 0 = x := fun x => Int64.or_zero
          refine ⟨fun z4 => ?_, fun z4 => ?_⟩
          · have h60 : sh + i < 60 := (nI_ltI (b := 60) (by omega) (by decide)).mp z4
            have hp60 : 1 * 2 ^ (sh + i) < 1152921504606846976 := by rw [Nat.one_mul]; exact Nat.pow_lt_pow_right (by decide) h60
            rw [Nat.div_eq_of_lt hp60, or0] at o1
            rw [Nat.mod_eq_of_lt hp60, Nat.one_mul] at o2
            refine zM_gr hl m10 (hm.2.1 (18, 22) (by decide)) (zM_la (L := Lo.set n (lN ((v + b % 2 ^ i * 2 ^ sh) % 1152921504606846976))) (j := n) hl a2 (List.getElem?_set_self (by omega)) ?_)
            rw [zshl1 (by omega), o2]
            refine zM_stl (L := Lo.set n (lN ((v + b % 2 ^ i * 2 ^ sh) % 1152921504606846976))) hl a2 (by rw [List.length_set]; omega) (by rw [List.length_set]; omega) ?_
            rw [List.set_set]
            intro x hx
            refine ⟨20 * (B.length - a) + (wd - (i + 1)), by omega, _, a, sh, v, C, b, i + 1, wd, rfl, rfl, rfl, rfl, rfl, rfl, rfl, rfl, by rw [hx, nI_1], rfl, zSm_ub s1 (by decide), by rw [zub_n (by decide), ← o1]; exact a1, zub_s, by rw [zub_n (by decide)]; exact a3, a4, hb, hb256, hiw, hlt, hv, hvs, hsh, hc⟩
          · have h60 : ¬ sh + i < 60 := fun q => z4 ((nI_ltI (b := 60) (by omega) (by decide)).mpr q)
            have hpe : 1 * 2 ^ (sh + i) = 2 ^ (sh + i - 60) * 1152921504606846976 := by rw [Nat.one_mul, show (1152921504606846976 : Nat) = 2 ^ 60 by decide, ← Nat.pow_add]; congr 1; omega
            rw [hpe, Nat.mul_div_cancel _ (by decide)] at o1
            rw [hpe, Nat.mul_mod_left, or0] at o2
            refine zM_gr hl m10 (hm.2.1 (17, 21) (by decide)) (zM_la (L := Hi.set n (lN ((v + b % 2 ^ i * 2 ^ sh) / 1152921504606846976))) (j := n) hl a1 (List.getElem?_set_self (by omega)) ?_)
            rw [show nI (sh + i) - 60 = nI (sh + i - 60) from pk_sub (b := 60) (by omega), zshl1 (by omega), o1]
            refine zM_stl (L := Hi.set n (lN ((v + b % 2 ^ i * 2 ^ sh) / 1152921504606846976))) hl a1 (by rw [List.length_set]; omega) (by rw [List.length_set]; omega) ?_
            rw [List.set_set]
            intro x hx
            refine ⟨20 * (B.length - a) + (wd - (i + 1)), by omega, _, a, sh, v, C, b, i + 1, wd, rfl, rfl, rfl, rfl, rfl, rfl, rfl, rfl, by rw [hx, nI_1], rfl, zSm_ub s1 (by decide), zub_s, by rw [zub_n (by decide), ← o2]; exact a2, by rw [zub_n (by decide)]; exact a3, a4, hb, hb256, hiw, hlt, hv, hvs, hsh, hc⟩
        · have hs120 : ¬ sh + i < 120 := fun q => z3 ((nI_ltI (b := 120) (by omega) (by decide)).mpr q)
          refine zM_cv hl m10 (bad a M1 _ _ _ s1 a1 a2 a3 (by rw [List.length_set]; exact lH) (by rw [List.length_set]; exact lL) a4 ?_)
          rcases hc with ⟨_, c2, _⟩ | ⟨c1, c2, c3, c4, s, c5, c6⟩
          · omega
          · rw [show B.length - (a - p - 1) = (B.length - (a - p - 1) - 1) + 1 by omega, zpmo, hb] at c6
            dsimp only at c6
            rw [if_pos (Or.inr ?_)] at c6
            · exact c6
            · have h1 : 2 ^ 120 ≤ 2 ^ (sh + i) := Nat.pow_le_pow_right (by decide) (by omega)
              have h2 : 2 ^ i ≤ b % 128 := by
                have h3 : b % 2 ^ (i + 1) ≤ b % 128 := by
                  have : b % 2 ^ (i + 1) = b % 128 % 2 ^ (i + 1) := by
                    rw [Nat.mod_mod_of_dvd]
                    exact ⟨2 ^ (6 - i), by rw [← Nat.pow_add, show i + 1 + (6 - i) = 7 by omega]⟩
                  rw [this]
                  exact Nat.mod_le _ _
                omega
              have h4 := Nat.mul_le_mul_right (2 ^ sh) h2
              rw [← Nat.pow_add, Nat.add_comm i sh] at h4
              omega
    · have hiw : i = wd := by
        have := mt (nI_ltI (a := i) (b := wd) (by omega) (by omega)).mpr z
        omega
      subst hiw
      have hv120 := zor_hl (c := b % 2 ^ i) hvs (by omega) hr hv
      have hvn : v + b % 2 ^ i * 2 ^ sh < 2 ^ (sh + i) := by
        have : b % 2 ^ i + 1 ≤ 2 ^ i := Nat.mod_lt _ (Nat.two_pow_pos _)
        have := Nat.mul_le_mul_right (2 ^ sh) this
        rw [Nat.add_mul, Nat.one_mul, ← Nat.pow_add, Nat.add_comm i sh] at this
        omega
      -- behind the byte
      have aft : ∀ (M2 : Nat → zE) (s : Nat), zSm [15, 21, 22] M M2 → M2 21 = zAl (Hi.set n (lN ((v + b % 2 ^ i * 2 ^ sh) / 1152921504606846976))) → M2 22 = zAl (Lo.set n (lN ((v + b % 2 ^ i * 2 ^ sh) % 1152921504606846976))) → M2 15 = zAi (Co.set n (nI s)) → sh + i = 6 + 7 * (a - p) → (b < 128 → zpnu B p = .inr (a + 1, s, v + b % 2 ^ i * 2 ^ sh)) → (¬ b < 128 → zpnu B p = match zpmo B (B.length - (a - p)) (a + 1) (sh + i) (v + b % 2 ^ i * 2 ^ sh) with | .inl e => .inl e | .inr (p2, v2) => .inr (p2, s, v2)) →
          ∀ J69, zw_160_175 xs (d + 1) Q (fun l0 l1 l2 l3 l4 h1 => ∃ n1, n1 < 20 * (B.length - a) + (i - i) ∧ ∃ M1 a sh v C, n1 = 20 * (B.length - a) + 10 ∧ l0 = some 10 ∧ l1 = nI n ∧ l2 = nI (fr + p) ∧ l3 = nI sh ∧ l4 = nI (fr + a) ∧ h1 = zov h M1 ∧ zSm [15, 21, 22] M M1 ∧ M1 21 = zAl (Hi.set n (lN (v / 1152921504606846976))) ∧ M1 22 = zAl (Lo.set n (lN (v % 1152921504606846976))) ∧ M1 15 = zAi C ∧ C.length = 100 ∧ a ≤ B.length ∧ v < 2 ^ 120 ∧ v < 2 ^ sh ∧ ((a = p ∧ sh = 0 ∧ C = Co) ∨ (p < a ∧ sh = 6 + 7 * (a - p - 1) ∧ ∃ s, C = Co.set n (nI s) ∧ zpnu B p = match zpmo B (B.length - (a - p - 1)) a sh v with | .inl e => .inl e | .inr (p2, v2) => .inr (p2, s, v2)))) J69 (some 10) (nI n) (nI (fr + p)) (nI sh) (nI (fr + a)) (nI b) (nI i) (zov h M2) := by
        intro M2 s t1 t2 t3 t4 t5 t6 t7 J69
        intro x hx
        refine ⟨fun z2 => ?_, fun z2 => ?_⟩
        · have hb128 : b < 128 := (nI_ltI (b := 128) (by omega) (by decide)).mp z2
          rw [nI_1, show fr + a + 1 = fr + (a + 1) by omega]
          exact k1 (a + 1) s _ (t6 hb128) M2 t1 t2 t3 t4
        · have hb128 : ¬ b < 128 := fun q => z2 ((nI_ltI (b := 128) (by omega) (by decide)).mpr q)
          intro y hy
          refine ⟨20 * (B.length - (a + 1)) + 10, by omega, M2, a + 1, sh + i, v + b % 2 ^ i * 2 ^ sh, Co.set n (nI s), rfl, rfl, rfl, rfl, by rw [hx, nI_add], by rw [hy, nI_1]; rfl, rfl, t1, t2, t3, t4, by rw [List.length_set]; exact lC, ha, hv120.2.2, hvn, Or.inr ⟨by omega, by omega, s, rfl, ?_⟩⟩
          rw [show a + 1 - p - 1 = a - p by omega]
          exact t7 hb128
      have eap : nI (fr + a) = nI (fr + p) ↔ a = p := by rw [nI_eq (by omega) (by omega)]; omega
      rcases hc with ⟨c1, c2, c3, c4, c5⟩ | ⟨c1, c2, c3, c4, s, c5, c6⟩
      · subst c1 c2 c3 c4
        refine ⟨fun _ => ?_, fun z2 => absurd rfl z2⟩
        refine zM_gr hl m10 (hm.2.1 (11, 15) (by decide)) ?_
        rw [show (6 : Int32) = nI 6 from rfl, zbitI b hb256 6 (by decide)]
        refine zM_st' (L := C) hl a3 (by omega) (by omega) ?_
        have e0 : zpnu B a = if b < 128 then .inr (a + 1, b / 64 % 2, b % 64) else match zpmo B B.length (a + 1) 6 (b % 64) with
          | .inl e => .inl e
          | .inr (p, v) => .inr (p, b / 64 % 2, v) := by
          unfold zpnu
          rw [hb]
          exact if_neg c5
        have v0 : v = 0 := by rw [Nat.pow_zero] at hvs; omega
        subst v0
        have ev : 0 + b % 2 ^ 6 * 2 ^ 0 = b % 64 := by rw [Nat.pow_zero, Nat.mul_one, Nat.zero_add]
        refine aft _ (b / 2 ^ 6 % 2) (zSm_ub s1 (by decide)) (by rw [zub_n (by decide)]; exact a1) (by rw [zub_n (by decide)]; exact a2) zub_s (by omega) (fun hlt => ?_) (fun hlt => ?_) _
        · rw [ev, e0, if_pos hlt]
        · rw [ev, e0, if_neg hlt, Nat.sub_self]
          rfl
      · refine ⟨fun z2 => absurd (eap.mp z2) (by omega), fun _ => ?_⟩
        subst c3 c5
        rw [show B.length - (a - p - 1) = (B.length - (a - p - 1) - 1) + 1 by omega, zpmo, hb] at c6
        dsimp only at c6
        have e128 : (2 : Nat) ^ 7 = 128 := rfl
        rw [e128] at hr
        rw [if_neg (by omega)] at c6
        refine aft M1 s s1 a1 a2 a3 (by omega) (fun hlt => ?_) (fun hlt => ?_) _
        · rw [if_pos hlt] at c6
          exact c6
        · rw [if_neg hlt] at c6
          rw [c6, show B.length - (a - p) = B.length - (a - p - 1) - 1 by omega]
  · refine ⟨20 * (B.length - p) + 10, M, p, 0, 0, Co, rfl, rfl, rfl, rfl, rfl, rfl, rfl, zSm_refl, ?_, ?_, hC, lC, hp, by decide, by decide, Or.inl ⟨rfl, rfl, rfl⟩⟩
    · rw [hH]
      congr 1
      apply List.ext_getElem?
      intro i
      by_cases hi : n = i
      · subst hi; rw [List.getElem?_set_self (by omega), h0]; rfl
      · rw [List.getElem?_set_ne hi]
    · rw [hL]
      congr 1
      apply List.ext_getElem?
      intro i
      by_cases hi : n = i
      · subst hi; rw [List.getElem?_set_self (by omega), l0]; rfl
      · rw [List.getElem?_set_ne hi]
end MRD
/-- the head of a node: behind it (a number's or a text's whole), and its row of the list -/
def zhd (B : List Nat) (p par : Nat) : Nat ⊕ (Nat × zNt) := match B[p]? with
  | none => .inl B.length
  | some k =>
    if k = 3 ∨ 7 < k then .inl p
    else if k = 0 then (match zpnu B (p + 1) with
      | .inl e => .inl e
      | .inr (p', s, v) => .inr (p', (0, p, s, 0, v / 1152921504606846976, v % 1152921504606846976, par)))
    else match B[p + 1]? with
      | none => .inl B.length
      | some c =>
        if k = 1 then (if 8 < c then .inl (p + 1) else match zptx B c 0 (p + 2) 0 with
          | .inl e => .inl e
          | .inr v => .inr (p + 2 + c, (1, p, c, 0, 0, v, par)))
        else if k = 2 then (if 40 < c then .inl (p + 1) else .inr (p + 2, (2, p, c, c, 0, 0, par)))
        else .inr (p + 2, (3, p, c, k - 4, 0, 0, par))
theorem zpn_hd {B : List Nat} {f par p : Nat} {N : List zNt} : zpn B (f + 1) par p N = match B[p]? with
  | none => .inl B.length
  | some _ => if 100 ≤ N.length then .inl p else match zhd B p par with
    | .inl e => .inl e
    | .inr (p', e) => zpns (zpn B f N.length) (eM e) p' (N ++ [e]) := by
  rw [zpn]
  unfold zhd
  cases hb : B[p]? with
  | none => rfl
  | some k =>
    dsimp only
    split
    · rfl
    · by_cases h3 : k = 3 ∨ 7 < k
      · rw [if_neg (by omega), if_pos h3, if_pos h3]
      · rw [if_neg h3, if_neg h3]
        by_cases h0 : k = 0
        · rw [if_pos h0, if_pos h0]
          cases zpnu B (p + 1) with
          | inl e => rfl
          | inr q => rfl
        · rw [if_neg h0, if_neg h0]
          cases hc : B[p + 1]? with
          | none => rfl
          | some c =>
            dsimp only
            by_cases h1 : k = 1
            · rw [if_pos h1, if_pos h1]
              by_cases h8 : 8 < c
              · rw [if_pos h8, if_pos h8]
              · rw [if_neg h8, if_neg h8]
                cases zptx B c 0 (p + 2) 0 with
                | inl e => rfl
                | inr v => rfl
            · rw [if_neg h1, if_neg h1]
              by_cases h2 : k = 2
              · rw [if_pos h2, if_pos h2]
                by_cases h40 : 40 < c
                · rw [if_pos h40, if_pos h40]
                · rw [if_neg h40, if_neg h40]
                  rfl
              · rw [if_neg h2, if_neg h2]
                rfl
/-- the reference's rows of nodes -/
def zNr (M : Nat → zE) (F : Nat → Value) (N : List zNt) (fr : Nat) : Prop := F 8 = .int (nI N.length) ∧ N.length ≤ 100 ∧ ∃ (So Fi Co Ma Ab : List Int32) (Hi Lo : List Int64), M 13 = zAi So ∧ M 14 = zAi Fi ∧ M 15 = zAi Co ∧ M 16 = zAi Ma ∧ M 18 = zAi Ab ∧ M 21 = zAl Hi ∧ M 22 = zAl Lo ∧ So.length = 100 ∧ Fi.length = 100 ∧ Co.length = 100 ∧ Ma.length = 100 ∧ Ab.length = 100 ∧ Hi.length = 100 ∧ Lo.length = 100 ∧ ∀ (i : Nat) (e : zNt), N[i]? = some e → So[i]? = some (nI (eS e)) ∧ Fi[i]? = some (nI (fr + eF e)) ∧ Co[i]? = some (nI (eC e)) ∧ Ma[i]? = some (nI (eM e)) ∧ Ab[i]? = some (nI (eA e)) ∧ Hi[i]? = some (lN (eH e)) ∧ Lo[i]? = some (lN (eL e))
/-- the shapes of the arrays that reading fills -/
def zNs (M : Nat → zE) : Prop := ∃ (So Fi Co Ma Ab : List Int32) (Hi Lo : List Int64), M 13 = zAi So ∧ M 14 = zAi Fi ∧ M 15 = zAi Co ∧ M 16 = zAi Ma ∧ M 18 = zAi Ab ∧ M 21 = zAl Hi ∧ M 22 = zAl Lo ∧ So.length = 100 ∧ Fi.length = 100 ∧ Co.length = 100 ∧ Ma.length = 100 ∧ Ab.length = 100 ∧ Hi.length = 100 ∧ Lo.length = 100
/-- one more character -/
theorem ztxt_or {v b i : Nat} (hi8 : i < 8) (h126 : ¬ 126 < b) (hv : v % 2 ^ (8 * (8 - i)) = 0) (hv63 : v < 2 ^ 63) : lN v ||| lN (b * 2 ^ (8 * (7 - i))) = lN (v + b * 2 ^ (8 * (7 - i))) ∧ (v + b * 2 ^ (8 * (7 - i))) % 2 ^ (8 * (8 - (i + 1))) = 0 ∧ v + b * 2 ^ (8 * (7 - i)) < 2 ^ 63 := by
  have hpw : 2 ^ (8 * (8 - i)) = 256 * 2 ^ (8 * (7 - i)) := by rw [show 8 * (8 - i) = 8 * (7 - i) + 8 by omega, Nat.pow_add, Nat.mul_comm]
  have hpw2 : 2 ^ (8 * (7 - i)) ≤ 2 ^ 56 := Nat.pow_le_pow_right (by decide) (by omega)
  have hbm : b * 2 ^ (8 * (7 - i)) ≤ 126 * 2 ^ (8 * (7 - i)) := Nat.mul_le_mul_right _ (by omega)
  have hpos : 0 < 2 ^ (8 * (7 - i)) := Nat.two_pow_pos _
  have hdv : v = v / 2 ^ (8 * (8 - i)) * 2 ^ (8 * (8 - i)) := by
    have := Nat.div_add_mod v (2 ^ (8 * (8 - i)))
    rw [hv, Nat.add_zero, Nat.mul_comm] at this
    exact this.symm
  have hlt : b * 2 ^ (8 * (7 - i)) < 2 ^ (8 * (8 - i)) := by rw [hpw]; omega
  have hv2 : v + b * 2 ^ (8 * (7 - i)) < 2 ^ 63 := by
    by_cases h0 : i = 0
    · subst h0
      have : v = 0 := by
        rw [show 8 * (8 - 0) = 64 from rfl] at hdv hv
        omega
      rw [this]
      have : b * 2 ^ (8 * (7 - 0)) = b * 72057594037927936 := rfl
      omega
    · have hm63 : (2 ^ 63) % 2 ^ (8 * (8 - i)) = 0 := by
        rw [show 63 = (63 - 8 * (8 - i)) + 8 * (8 - i) by omega, Nat.pow_add, Nat.mul_mod_left]
      have hd63 : 2 ^ 63 = 2 ^ 63 / 2 ^ (8 * (8 - i)) * 2 ^ (8 * (8 - i)) := by
        have := Nat.div_add_mod (2 ^ 63) (2 ^ (8 * (8 - i)))
        rw [hm63, Nat.add_zero, Nat.mul_comm] at this
        exact this.symm
      have hq : v / 2 ^ (8 * (8 - i)) < 2 ^ 63 / 2 ^ (8 * (8 - i)) := by
        rw [hdv, hd63] at hv63
        exact Nat.lt_of_mul_lt_mul_right hv63
      have := Nat.mul_le_mul_right (2 ^ (8 * (8 - i))) hq
      rw [Nat.succ_mul, ← hd63, ← hdv] at this
      omega
  refine ⟨?_, ?_, hv2⟩
  · rw [hdv, g_or (k := 8 * (8 - i)) rfl hlt (by rw [← hdv]; omega)]
  · rw [show 8 - (i + 1) = 7 - i by omega, Nat.add_mul_mod_self_right]
    rw [hdv, hpw, ← Nat.mul_assoc, Nat.mul_mod_left]
section MRD2
variable {xs : List Value} {d : Nat} {h : zH} {M : Nat → zE} {F : Nat → Value} {Q : zO → zH → Prop} {B : List Nat} {fr : Nat} {N : List zNt}
theorem zc159 {p par k : Nat} {Ab : List Int32} (hl : 50 ≤ h.1.length) (hm : zMm M F B fr) (hN : zNr M F N fr) (hn : N.length < 100) (hB : B.length ≤ 2000) (hk : B[p]? = some k) (hA : M 18 = zAi Ab) (hA2 : Ab[N.length]? = some (nI par))
    (k0 : ∀ e, zhd B p par = .inl e → ∀ M' F', M' 10 = zMo F' → zSm [10, 13, 14, 15, 16, 21, 22] M M' → zNs M' → zSm [5, 8] F F' → F' 5 = .int (nI e) → Q (.inl (some (.int (-1)))) (zov h M'))
    (k1 : ∀ p' e, zhd B p par = .inr (p', e) → ∀ M' F', M' 10 = zMo F' → zNr M' F' (N ++ [e]) fr → zSm [10, 13, 14, 15, 16, 21, 22] M M' → zSm [8] F F' → Q (.inl (some (.int (nI (fr + p'))))) (zov h M')) : zG xs (d + 2) (159, 0, lv_args 0 [zo (some 10), .int (nI N.length), .int (nI (fr + p))], []) (zov h M) Q := by
  obtain ⟨n8, nle, So, Fi, Co, Ma, Ab', Hi, Lo, m13, m14, m15, m16, m18, m21, m22, l13, l14, l15, l16, l18, l21, l22, rows⟩ := hN
  have hBf : fr + B.length ≤ 8660 := hm.2.2.2.2.1
  have hpl : p < B.length := (List.getElem?_eq_some_iff.mp hk).1
  have m10 := hm.1
  have hR := hm.2.1
  -- refused
  have bad : ∀ (e : Nat) (M1 : Nat → zE) (F1 : Nat → Value), zMm M1 F1 B fr → zSm [10, 13, 14, 15, 16, 21, 22] M M1 → zNs M1 → zSm [5, 8] F F1 → zhd B p par = .inl e → zG xs (d + 1) (158, 0, lv_args 0 [zo (some 10), .int (nI (fr + e))], []) (zov h M1) (zKI (fun x h => Q (.inl (some (.int x))) h) (fun e h => Q (.inr e) h)) := by
    intro e M1 F1 a1 a2 a3 a4 he
    refine zc158b hl a1 (fun M' F' b1 b2 b3 b4 => zKI_v (k0 e he M' F' b1 (zSm_trans a2 b2 (by decide) (by decide)) ?_ (zSm_trans a4 b3 (by decide) (by decide)) b4))
    obtain ⟨So, Fi, Co, Ma, Ab, Hi, Lo, c1, c2, c3, c4, c5, c6, c7, c8⟩ := a3
    exact ⟨So, Fi, Co, Ma, Ab, Hi, Lo, by rw [b2 13 (by decide)]; exact c1, by rw [b2 14 (by decide)]; exact c2, by rw [b2 15 (by decide)]; exact c3, by rw [b2 16 (by decide)]; exact c4, by rw [b2 18 (by decide)]; exact c5, by rw [b2 21 (by decide)]; exact c6, by rw [b2 22 (by decide)]; exact c7, c8⟩
  have shp : zNs M := ⟨So, Fi, Co, Ma, Ab', Hi, Lo, m13, m14, m15, m16, m18, m21, m22, l13, l14, l15, l16, l18, l21, l22⟩
  -- what the node's row comes to
  have row : ∀ (e : zNt) (M1 : Nat → zE) (F1 : Nat → Value), F1 8 = .int (nI (N.length + 1)) → eA e = par → M1 13 = zAi (So.set N.length (nI (eS e))) → M1 14 = zAi (Fi.set N.length (nI (fr + eF e))) → M1 15 = zAi (Co.set N.length (nI (eC e))) → M1 16 = zAi (Ma.set N.length (nI (eM e))) → M1 18 = zAi Ab → M1 21 = zAl (Hi.set N.length (lN (eH e))) → M1 22 = zAl (Lo.set N.length (lN (eL e))) → zNr M1 F1 (N ++ [e]) fr := by
    intro e M1 F1 f8 eA1 t13 t14 t15 t16 t18 t21 t22
    have eAb : Ab' = Ab := by
      have : zAi Ab' = zAi Ab := m18.symm.trans hA
      unfold zAi at this
      injection this with this
      injection this with _ this
      exact (List.map_inj_right (fun a b hab => by injection hab)).mp this
    subst eAb
    refine ⟨by rw [f8, List.length_append, List.length_singleton], by rw [List.length_append, List.length_singleton]; omega, _, _, _, _, _, _, _, t13, t14, t15, t16, t18, t21, t22, by rw [List.length_set]; exact l13, by rw [List.length_set]; exact l14, by rw [List.length_set]; exact l15, by rw [List.length_set]; exact l16, l18, by rw [List.length_set]; exact l21, by rw [List.length_set]; exact l22, fun i e' hi => ?_⟩
    by_cases hil : i < N.length
    · rw [List.getElem?_append_left hil] at hi
      obtain ⟨c1, c2, c3, c4, c5, c6, c7⟩ := rows i e' hi
      rw [List.getElem?_set_ne (by omega), List.getElem?_set_ne (by omega), List.getElem?_set_ne (by omega), List.getElem?_set_ne (by omega), List.getElem?_set_ne (by omega), List.getElem?_set_ne (by omega)]
      exact ⟨c1, c2, c3, c4, c5, c6, c7⟩
    · have hil2 := (List.getElem?_eq_some_iff.mp hi).1
      rw [List.length_append, List.length_singleton] at hil2
      obtain rfl : i = N.length := by omega
      rw [List.getElem?_append_right (Nat.le_refl _), Nat.sub_self] at hi
      obtain rfl : e = e' := Option.some.inj hi
      rw [List.getElem?_set_self (by omega), List.getElem?_set_self (by omega), List.getElem?_set_self (by omega), List.getElem?_set_self (by omega), List.getElem?_set_self (by omega), List.getElem?_set_self (by omega), eA1]
      exact ⟨rfl, rfl, rfl, rfl, hA2, rfl, rfl⟩
  -- behind the first stores
  obtain ⟨M1, eM1⟩ : ∃ M1 : Nat → Nat → zE, M1 = fun so => zub (zub (zub (zub (zub (zub (zub M 13 (zAi (So.set N.length (nI so)))) 14 (zAi (Fi.set N.length (nI (fr + p))))) 15 (zAi (Co.set N.length 0))) 16 (zAi (Ma.set N.length 0))) 21 (zAl (Hi.set N.length 0))) 22 (zAl (Lo.set N.length 0))) 10 (zMo (zub F 8 (.int (nI (N.length + 1))))) := ⟨_, rfl⟩
  have x13 : ∀ so, M1 so 13 = zAi (So.set N.length (nI so)) := fun so => by rw [eM1]; simp [zub]
  have x14 : ∀ so, M1 so 14 = zAi (Fi.set N.length (nI (fr + p))) := fun so => by rw [eM1]; simp [zub]
  have x15 : ∀ so, M1 so 15 = zAi (Co.set N.length 0) := fun so => by rw [eM1]; simp [zub]
  have x16 : ∀ so, M1 so 16 = zAi (Ma.set N.length 0) := fun so => by rw [eM1]; simp [zub]
  have x18 : ∀ so, M1 so 18 = zAi Ab := fun so => by rw [eM1]; simp [zub, hA]
  have x21 : ∀ so, M1 so 21 = zAl (Hi.set N.length 0) := fun so => by rw [eM1]; simp [zub]
  have x22 : ∀ so, M1 so 22 = zAl (Lo.set N.length 0) := fun so => by rw [eM1]; simp [zub]
  have x10 : ∀ so, M1 so 10 = zMo (zub F 8 (.int (nI (N.length + 1)))) := fun so => by rw [eM1]; simp [zub]
  have sF : zSm [8] F (zub F 8 (.int (nI (N.length + 1)))) := zSm_ub zSm_refl (by decide)
  have sM : ∀ so, zSm [10, 13, 14, 15, 16, 21, 22] M (M1 so) := fun so => by
    rw [eM1]
    exact zSm_ub (zSm_ub (zSm_ub (zSm_ub (zSm_ub (zSm_ub (zSm_ub zSm_refl (by decide)) (by decide)) (by decide)) (by decide)) (by decide)) (by decide)) (by decide)
  have mm : ∀ so, zMm (M1 so) (zub F 8 (.int (nI (N.length + 1)))) B fr := fun so => zMm_sm hm (x10 so) (sM so) sF (by decide) (by decide)
  have ns : ∀ so, zNs (M1 so) := fun so => ⟨_, _, _, _, _, _, _, x13 so, x14 so, x15 so, x16 so, x18 so, x21 so, x22 so, by rw [List.length_set]; exact l13, by rw [List.length_set]; exact l14, by rw [List.length_set]; exact l15, by rw [List.length_set]; exact l16, by
    have eAb : Ab' = Ab := by
      have : zAi Ab' = zAi Ab := m18.symm.trans hA
      unfold zAi at this
      injection this with this
      injection this with _ this
      exact (List.map_inj_right (fun a b hab => by injection hab)).mp this
    rw [← eAb]; exact l18, by rw [List.length_set]; exact l21, by rw [List.length_set]; exact l22⟩
  have R1 := zRf_sm hR sF (by decide)
  -- the text's characters: i of c so far, v
  refine zm_159 (fun m l0 l1 l2 l3 l4 l5 h1 => ∃ M2 c i v, m = c - i ∧ l0 = some 10 ∧ l1 = nI N.length ∧ l2 = nI (fr + p) ∧ l3 = nI k ∧ l4 = nI c ∧ l5 = nI i ∧ h1 = zov h M2 ∧ i ≤ c ∧ c < 256 ∧ M2 10 = zMo (zub F 8 (.int (nI (N.length + 1)))) ∧ zSm [10, 13, 14, 15, 16, 21, 22] M M2 ∧ zNs M2 ∧ ((k = 1 ∧ c ≤ 8 ∧ zhd B p par = (match zptx B (c - i) i (p + 2 + i) v with | .inl e => .inl e | .inr v => .inr (p + 2 + c, (1, p, c, 0, 0, v, par))) ∧ v % 2 ^ (8 * (8 - i)) = 0 ∧ v < 2 ^ 63 ∧ p + 2 + i ≤ B.length ∧ M2 13 = zAi (So.set N.length (nI 1)) ∧ M2 14 = zAi (Fi.set N.length (nI (fr + p))) ∧ M2 15 = zAi (Co.set N.length (nI c)) ∧ M2 16 = zAi (Ma.set N.length (nI 0)) ∧ M2 18 = zAi Ab ∧ M2 21 = zAl (Hi.set N.length (lN 0)) ∧ M2 22 = zAl (Lo.set N.length (lN v))) ∨ (k ≠ 1 ∧ ∃ e, zhd B p par = .inr (p + 2, e) ∧ zNr M2 (zub F 8 (.int (nI (N.length + 1)))) (N ++ [e]) fr))) ?_ ?_
  · rintro m l0 l1 l2 l3 l4 l5 h1 ⟨M2, c, i, v, rfl, rfl, rfl, rfl, rfl, rfl, rfl, rfl, hic, hc256, y10, ySm, yNs, hc⟩
    have ym := zMm_sm hm y10 ySm sF (by decide) (by decide)
    have ek1 : nI k = 1 ↔ k = 1 := nI_eq (b := 1) (by have := hm.2.2.2.2.2; obtain ⟨_, _, _, q⟩ := this; have := (q p k hk).1; omega) (by decide)
    rcases hc with ⟨c1, c2, c3, c4, c5, c6, y13, y14, y15, y16, y18, y21, y22⟩ | ⟨c1, e, c3, c4⟩
    · refine ⟨fun z => ⟨fun _ => ?_, fun z2 => absurd (ek1.mpr c1) z2⟩, fun z => ?_⟩
      · have hicl : i < c := (nI_ltI (by omega) (by omega)).mp z
        intro x hx
        have hx : x = nI (fr + (p + 2 + i)) := by rw [hx, show (2 : Int32) = nI 2 from rfl, nI_add, nI_add]; congr 1; omega
        subst hx
        rw [show c - i = (c - (i + 1)) + 1 by omega, zptx] at c3
        refine zM_gi hl y10 (x := nI (fr + B.length)) (by rw [zub_n (by decide)]; exact hm.2.2.2.1) ⟨fun z2 => ?_, fun z2 => ?_⟩
        · have hpB : p + 2 + i < B.length := by have := (nI_ltI (by omega) (by omega)).mp z2; omega
          obtain ⟨b, hb⟩ : ∃ b, B[p + 2 + i]? = some b := ⟨_, List.getElem?_eq_getElem hpB⟩
          rw [hb] at c3
          dsimp only at c3
          have badc : (b < 32 ∨ 126 < b) → ∀ J, zw_159_251 xs (d + 2) Q J (some 10) (nI (fr + (p + 2 + i))) (zov h M2) := by
            intro hbb J
            rw [if_pos hbb] at c3
            exact zM_cv hl y10 (bad (p + 2 + i) M2 _ ym ySm yNs (zSm_mono sF (by decide)) c3)
          refine zMm_at hl ym hb (fun hb256 => ⟨fun z3 => badc (Or.inl ((nI_ltI (b := 32) (by omega) (by decide)).mp z3)) _, fun z3 => zMm_at hl ym hb (fun _ => ⟨fun z4 => badc (Or.inr ((nI_ltI (a := 126) (by decide) (by omega)).mp z4)) _, fun z4 => ?_⟩)⟩)
          have h32 : ¬ b < 32 := fun q => z3 ((nI_ltI (b := 32) (by omega) (by decide)).mpr q)
          have h126 : ¬ 126 < b := fun q => z4 ((nI_ltI (a := 126) (by decide) (by omega)).mpr q)
          rw [if_neg (by omega)] at c3
          have hi8 : i < 8 := by omega
          obtain ⟨t1, t2, t3⟩ := ztxt_or hi8 h126 c4 c5
          refine zM_gr hl y10 (R1 (18, 22) (by decide)) (zM_la (L := Lo.set N.length (lN v)) (j := N.length) hl y22 (List.getElem?_set_self (by omega)) ?_)
          refine zMm_at hl ym hb (fun _ => ?_)
          rw [show (7 : Int32) - nI i = nI (7 - i) from pk_sub (a := 7) (by omega), show (8 : Int32) * nI (7 - i) = nI (8 * (7 - i)) from pk_mul 8 (7 - i), nI_l (by omega), wb_shl _ (by omega), t1]
          refine zM_stl (L := Lo.set N.length (lN v)) hl y22 (by rw [List.length_set]; omega) (by rw [List.length_set]; omega) ?_
          rw [List.set_set]
          intro y hy
          refine ⟨c - (i + 1), by omega, _, c, i + 1, v + b * 2 ^ (8 * (7 - i)), rfl, rfl, rfl, rfl, rfl, rfl, by rw [hy, nI_1], rfl, hicl, hc256, by rw [zub_n (by decide)]; exact y10, zSm_ub ySm (by decide), ?_, Or.inl ⟨c1, c2, c3, t2, t3, by omega, by rw [zub_n (by decide)]; exact y13, by rw [zub_n (by decide)]; exact y14, by rw [zub_n (by decide)]; exact y15, by rw [zub_n (by decide)]; exact y16, by rw [zub_n (by decide)]; exact y18, by rw [zub_n (by decide)]; exact y21, zub_s⟩⟩
          obtain ⟨So', Fi', Co', Ma', Ab2, Hi', Lo', d1, d2, d3, d4, d5, d6, d7, d8, d9, d10, d11, d12, d13, d14⟩ := yNs
          exact ⟨So', Fi', Co', Ma', Ab2, Hi', _, by rw [zub_n (by decide)]; exact d1, by rw [zub_n (by decide)]; exact d2, by rw [zub_n (by decide)]; exact d3, by rw [zub_n (by decide)]; exact d4, by rw [zub_n (by decide)]; exact d5, by rw [zub_n (by decide)]; exact d6, zub_s, d8, d9, d10, d11, d12, d13, by rw [List.length_set]; exact l22⟩
        · have hpB : p + 2 + i = B.length := by
            have := mt (nI_ltI (a := fr + (p + 2 + i)) (b := fr + B.length) (by omega) (by omega)).mpr z2
            omega
          rw [List.getElem?_eq_none (by omega)] at c3
          refine zM_cv hl y10 (bad (p + 2 + i) M2 _ ym ySm yNs (zSm_mono sF (by decide)) ?_)
          rw [hpB]
          exact c3
      · have hicl : i = c := by
          have := mt (nI_ltI (a := i) (b := c) (by omega) (by omega)).mpr z
          omega
        subst hicl
        rw [Nat.sub_self, zptx] at c3
        refine ⟨fun _ => ?_, fun z2 => absurd (ek1.mpr c1) z2⟩
        rw [show (2 : Int32) = nI 2 from rfl, nI_add, nI_add, show fr + p + 2 + i = fr + (p + 2 + i) by omega]
        exact k1 _ _ c3 M2 _ y10 (row (1, p, i, 0, 0, v, par) M2 _ zub_s rfl y13 y14 y15 y16 y18 y21 y22) ySm sF
    · have nk1 : ¬ nI k = 1 := fun q => c1 (ek1.mp q)
      have fin : ∀ J, zw_159_290 xs (d + 2) Q J (nI (fr + p)) (nI k) (nI c) (zov h M2) := by
        intro J
        refine ⟨fun z2 => absurd z2 nk1, fun _ => ?_⟩
        rw [show (2 : Int32) = nI 2 from rfl, nI_add, show fr + p + 2 = fr + (p + 2) by omega]
        exact k1 _ _ c3 M2 _ y10 c4 ySm sF
      exact ⟨fun z => ⟨fun z2 => absurd z2 nk1, fun _ => fin _⟩, fun z => fin _⟩
  · obtain ⟨_, _, _, hq⟩ := hm.2.2.2.2.2
    have hk256 : k < 256 := (hq p k hk).1
    clear hq
    have kn : ∀ c, c < 256 → (nI k = nI c ↔ k = c) := fun c hc => nI_eq (by omega) (by omega)
    have ez : zhd B p par = if k = 3 ∨ 7 < k then .inl p
        else if k = 0 then (match zpnu B (p + 1) with
          | .inl e => .inl e
          | .inr (p', s, v) => .inr (p', (0, p, s, 0, v / 1152921504606846976, v % 1152921504606846976, par)))
        else match B[p + 1]? with
          | none => .inl B.length
          | some c =>
            if k = 1 then (if 8 < c then .inl (p + 1) else match zptx B c 0 (p + 2) 0 with
              | .inl e => .inl e
              | .inr v => .inr (p + 2 + c, (1, p, c, 0, 0, v, par)))
            else if k = 2 then (if 40 < c then .inl (p + 1) else .inr (p + 2, (2, p, c, c, 0, 0, par)))
            else .inr (p + 2, (3, p, c, k - 4, 0, 0, par)) := by
      unfold zhd
      rw [hk]
    have b18 : (k = 3 ∨ 7 < k) → ∀ J, zw_159_18 xs (d + 2) Q J (some 10) (nI (fr + p)) (zov h M) := fun hc J => zM_cv hl m10 (bad p M F hm zSm_refl shp zSm_refl (by rw [ez, if_pos hc]))
    have st39 : ∀ so, so = (if 3 < k then 3 else k) → ¬ (k = 3 ∨ 7 < k) → ∀ J : zP → Int32 → Int32 → Int32 → Int32 → Int32 → zH → Prop, (∀ M2 c, M2 10 = zMo (zub F 8 (.int (nI (N.length + 1)))) → c < 256 → zSm [10, 13, 14, 15, 16, 21, 22] M M2 → zNs M2 → ((k = 1 ∧ c ≤ 8 ∧ zhd B p par = (match zptx B c 0 (p + 2) 0 with | .inl e => .inl e | .inr v => .inr (p + 2 + c, (1, p, c, 0, 0, v, par))) ∧ p + 2 ≤ B.length ∧ M2 13 = zAi (So.set N.length (nI 1)) ∧ M2 14 = zAi (Fi.set N.length (nI (fr + p))) ∧ M2 15 = zAi (Co.set N.length (nI c)) ∧ M2 16 = zAi (Ma.set N.length (nI 0)) ∧ M2 18 = zAi Ab ∧ M2 21 = zAl (Hi.set N.length (lN 0)) ∧ M2 22 = zAl (Lo.set N.length (lN 0))) ∨ (k ≠ 1 ∧ ∃ e, zhd B p par = .inr (p + 2, e) ∧ zNr M2 (zub F 8 (.int (nI (N.length + 1)))) (N ++ [e]) fr)) → J (some 10) (nI N.length) (nI (fr + p)) (nI k) (nI c) 0 (zov h M2)) → zw_159_39 xs (d + 2) Q J (some 10) (nI N.length) (nI (fr + p)) (nI k) (nI so) (nI N.length) (some 13) (zov h M) := by
      intro so hso h37 J hJ
      rw [if_neg h37] at ez
      refine zM_st' hl m13 (by omega) (by omega) ?_
      refine zM_gr hl (by simp [zub, m10]) (hR (10, 14) (by decide)) (zM_st' (L := Fi) hl (by simp [zub, m14]) (by omega) (by omega) ?_)
      refine zM_gr hl (by simp [zub, m10]) (hR (11, 15) (by decide)) (zM_st' (L := Co) hl (by simp [zub, m15]) (by omega) (by omega) ?_)
      refine zM_gr hl (by simp [zub, m10]) (hR (12, 16) (by decide)) (zM_st' (L := Ma) hl (by simp [zub, m16]) (by omega) (by omega) ?_)
      refine zM_gr hl (by simp [zub, m10]) (hR (17, 21) (by decide)) (zM_stl (L := Hi) hl (by simp [zub, m21]) (by omega) (by omega) ?_)
      refine zM_gr hl (by simp [zub, m10]) (hR (18, 22) (by decide)) (zM_stl (L := Lo) hl (by simp [zub, m22]) (by omega) (by omega) ?_)
      refine zM_gi hl (F := F) (by simp [zub, m10]) n8 (zM_pf hl (F := F) (by simp [zub, m10]) ?_)
      rw [nI_1 N.length]
      have eM := congrFun eM1 so
      rw [← eM]
      refine ⟨fun z => ?_, fun z => ?_⟩
      · have k0' : k = 0 := (kn 0 (by decide)).mp z
        rw [if_pos k0'] at ez
        have so0 : so = 0 := by rw [hso, k0']; rfl
        subst so0
        rw [nI_1, show fr + p + 1 = fr + (p + 1) by omega]
        refine zM_cv hl (x10 0) (zc160 (d := d) (Hi := Hi.set N.length 0) (Lo := Lo.set N.length 0) (Co := Co.set N.length 0) hl (mm 0) hn (x21 0) (x22 0) (x15 0) (by rw [List.length_set]; exact l21) (by rw [List.length_set]; exact l22) (by rw [List.length_set]; exact l15) (List.getElem?_set_self (by omega)) (List.getElem?_set_self (by omega)) (by omega) hB ?_ ?_)
        · intro e he M' F' a1 a2 a3 a4 a5
          rw [he] at ez
          obtain ⟨Hi', Lo', Co', b1, b2, b3, b4, b5, b6⟩ := a3
          obtain ⟨So', Fi', Co2, Ma', Ab2, Hi2, Lo2, d1, d2, d3, d4, d5, d6, d7, d8, d9, d10, d11, d12, d13, d14⟩ := ns 0
          refine zKI_v (k0 e ez M' F' a1 (zSm_trans (sM 0) a2 (by decide) (by decide)) ⟨So', Fi', Co', Ma', Ab2, Hi', Lo', by rw [a2 13 (by decide)]; exact d1, by rw [a2 14 (by decide)]; exact d2, b3, by rw [a2 16 (by decide)]; exact d4, by rw [a2 18 (by decide)]; exact d5, b1, b2, d8, d9, b6, d11, d12, b4, b5⟩ (zSm_trans sF a4 (by decide) (by decide)) a5)
        · intro p' s v he M' a1 a2 a3 a4
          rw [he] at ez
          rw [List.set_set] at a2 a3 a4
          refine zKI_v (k1 p' _ ez M' _ (by rw [a1 10 (by decide)]; exact x10 0) (row (0, p, s, 0, v / 1152921504606846976, v % 1152921504606846976, par) M' _ zub_s rfl (by rw [a1 13 (by decide)]; exact x13 0) (by rw [a1 14 (by decide)]; exact x14 0) a4 (by rw [a1 16 (by decide)]; exact x16 0) (by rw [a1 18 (by decide)]; exact x18 0) a2 a3) (zSm_trans (sM 0) a1 (by decide) (by decide)) sF)
      · have k0' : k ≠ 0 := fun q => z ((kn 0 (by decide)).mpr q)
        rw [if_neg k0'] at ez
        refine zM_gi hl (x10 so) (x := nI (fr + B.length)) (by rw [zub_n (by decide)]; exact hm.2.2.2.1) ?_
        rw [nI_1, show fr + p + 1 = fr + (p + 1) by omega]
        refine ⟨fun z2 => ?_, fun z2 => ?_⟩
        · have hpB : p + 1 < B.length := by have := (nI_ltI (by omega) (by omega)).mp z2; omega
          obtain ⟨c, hc⟩ : ∃ c, B[p + 1]? = some c := ⟨_, List.getElem?_eq_getElem hpB⟩
          rw [hc] at ez
          dsimp only at ez
          refine zMm_at hl (mm so) hc (fun hc256 => ?_)
          have b151 : zhd B p par = .inl (p + 1) → zw_159_151 xs (d + 2) Q J (some 10) (nI (fr + p)) (zov h (M1 so)) := by
            intro he
            show zCV _ _ _ _ _ _ _ _
            rw [nI_1, show fr + p + 1 = fr + (p + 1) by omega]
            exact zM_cv hl (x10 so) (bad (p + 1) (M1 so) _ (mm so) (sM so) (ns so) (zSm_mono sF (by decide)) he)
          -- the code and the parts are kept
          have keep : ∀ mn : Nat, mn = (if k = 1 then 0 else if k = 2 then c else k - 4) → (k = 1 → c ≤ 8) → (k = 2 → c ≤ 40) → zw_159_159 xs (d + 2) Q J (some 10) (nI N.length) (nI (fr + p)) (nI k) (nI c) (zov h (M1 so)) := by
            intro mn hmn h8 h40
            refine zM_gr hl (x10 so) (R1 (11, 15) (by decide)) (zM_st' (L := Co.set N.length 0) hl (x15 so) (by rw [List.length_set]; omega) (by rw [List.length_set]; omega) ?_)
            rw [List.set_set]
            refine zM_gr hl (by rw [zub_n (by decide)]; exact x10 so) (R1 (12, 16) (by decide)) ?_
            have fin : ∀ x, x = nI mn → zw_159_194 xs (d + 2) Q J (some 10) (nI N.length) (nI (fr + p)) (nI k) (nI c) x (nI N.length) (some 16) (zov h (zub (M1 so) 15 (zAi (Co.set N.length (nI c))))) := by
              intro x hx
              subst hx
              refine zM_st' (L := Ma.set N.length 0) hl (by rw [zub_n (by decide)]; exact x16 so) (by rw [List.length_set]; omega) (by rw [List.length_set]; omega) ?_
              rw [List.set_set]
              have w13 : zub (zub (M1 so) 15 (zAi (Co.set N.length (nI c)))) 16 (zAi (Ma.set N.length (nI mn))) 13 = zAi (So.set N.length (nI so)) := by rw [zub_n (by decide), zub_n (by decide)]; exact x13 so
              have w14 : zub (zub (M1 so) 15 (zAi (Co.set N.length (nI c)))) 16 (zAi (Ma.set N.length (nI mn))) 14 = zAi (Fi.set N.length (nI (fr + p))) := by rw [zub_n (by decide), zub_n (by decide)]; exact x14 so
              have w15 : zub (zub (M1 so) 15 (zAi (Co.set N.length (nI c)))) 16 (zAi (Ma.set N.length (nI mn))) 15 = zAi (Co.set N.length (nI c)) := by rw [zub_n (by decide), zub_s]
              have w18 : zub (zub (M1 so) 15 (zAi (Co.set N.length (nI c)))) 16 (zAi (Ma.set N.length (nI mn))) 18 = zAi Ab := by rw [zub_n (by decide), zub_n (by decide)]; exact x18 so
              have w21 : zub (zub (M1 so) 15 (zAi (Co.set N.length (nI c)))) 16 (zAi (Ma.set N.length (nI mn))) 21 = zAl (Hi.set N.length (lN 0)) := by rw [zub_n (by decide), zub_n (by decide)]; exact x21 so
              have w22 : zub (zub (M1 so) 15 (zAi (Co.set N.length (nI c)))) 16 (zAi (Ma.set N.length (nI mn))) 22 = zAl (Lo.set N.length (lN 0)) := by rw [zub_n (by decide), zub_n (by decide)]; exact x22 so
              refine hJ _ c (by rw [zub_n (by decide), zub_n (by decide)]; exact x10 so) hc256 (zSm_ub (zSm_ub (sM so) (by decide)) (by decide)) ?_ ?_
              · obtain ⟨So', Fi', Co2, Ma', Ab2, Hi2, Lo2, d1, d2, d3, d4, d5, d6, d7, d8, d9, d10, d11, d12, d13, d14⟩ := ns so
                exact ⟨So', Fi', _, _, Ab2, Hi2, Lo2, by rw [zub_n (by decide), zub_n (by decide)]; exact d1, by rw [zub_n (by decide), zub_n (by decide)]; exact d2, w15, zub_s, by rw [zub_n (by decide), zub_n (by decide)]; exact d5, by rw [zub_n (by decide), zub_n (by decide)]; exact d6, by rw [zub_n (by decide), zub_n (by decide)]; exact d7, d8, d9, by rw [List.length_set]; exact l15, by rw [List.length_set]; exact l16, d12, d13, d14⟩
              · by_cases hk1 : k = 1
                · rw [if_pos hk1, if_neg (by have := h8 hk1; omega)] at ez
                  rw [if_pos hk1] at hmn
                  have hs1 : so = 1 := by rw [hso, hk1]; rfl
                  rw [hs1] at w13 w14 w15 w18 w21 w22 ⊢
                  rw [hmn]
                  rw [hmn] at w13 w14 w15 w18 w21 w22
                  exact Or.inl ⟨hk1, h8 hk1, ez, by omega, w13, w14, w15, zub_s, w18, w21, w22⟩
                · rw [if_neg hk1] at ez hmn
                  refine Or.inr ⟨hk1, ?_⟩
                  by_cases hk2 : k = 2
                  · rw [if_pos hk2, if_neg (by have := h40 hk2; omega)] at ez
                    rw [if_pos hk2] at hmn
                    have hs2 : so = 2 := by rw [hso, hk2]; rfl
                    refine ⟨_, ez, row (2, p, c, c, 0, 0, par) _ _ zub_s rfl (by rw [w13, hs2]; rfl) w14 w15 (by rw [zub_s, hmn]; rfl) w18 w21 w22⟩
                  · rw [if_neg hk2] at ez hmn
                    have hs3 : so = 3 := by rw [hso, if_pos (by omega)]
                    refine ⟨_, ez, row (3, p, c, k - 4, 0, 0, par) _ _ zub_s rfl (by rw [w13, hs3]; rfl) w14 w15 (by rw [zub_s, hmn]; rfl) w18 w21 w22⟩
            refine ⟨fun z3 => fin _ ?_, fun z3 => ⟨fun z4 => fin _ ?_, fun z4 => fin _ ?_⟩⟩
            · rw [hmn, if_pos ((kn 1 (by decide)).mp z3)]; rfl
            · rw [hmn, if_neg (fun q => z3 ((kn 1 (by decide)).mpr q)), if_pos ((kn 2 (by decide)).mp z4)]
            · have q1 : k ≠ 1 := fun q => z3 ((kn 1 (by decide)).mpr q)
              have q2 : k ≠ 2 := fun q => z4 ((kn 2 (by decide)).mpr q)
              rw [hmn, if_neg q1, if_neg q2]
              exact pk_sub (b := 4) (by omega)
          have c139 : (k = 1 → c ≤ 8) → zw_159_139 xs (d + 2) Q J (some 10) (nI N.length) (nI (fr + p)) (nI k) (nI c) (zov h (M1 so)) := by
            intro h8
            refine ⟨fun z3 => ⟨fun z4 => b151 ?_, fun z4 => keep _ rfl h8 (fun _ => ?_)⟩, fun z3 => keep _ rfl h8 (fun q => absurd ((kn 2 (by decide)).mpr q) z3)⟩
            · have q2 := (kn 2 (by decide)).mp z3
              have q40 : 40 < c := (nI_ltI (a := 40) (by decide) (by omega)).mp z4
              rw [if_neg (by omega), if_pos q2, if_pos q40] at ez
              exact ez
            · have := mt (nI_ltI (a := 40) (b := c) (by decide) (by omega)).mpr z4
              omega
          refine ⟨fun z3 => ⟨fun z4 => b151 ?_, fun z4 => c139 (fun _ => ?_)⟩, fun z3 => c139 (fun q => absurd ((kn 1 (by decide)).mpr q) z3)⟩
          · have q1 := (kn 1 (by decide)).mp z3
            have q8 : 8 < c := (nI_ltI (a := 8) (by decide) (by omega)).mp z4
            rw [if_pos q1, if_pos q8] at ez
            exact ez
          · have := mt (nI_ltI (a := 8) (b := c) (by decide) (by omega)).mpr z4
            omega
        · have hpB : p + 1 = B.length := by
            have := mt (nI_ltI (a := fr + (p + 1)) (b := fr + B.length) (by omega) (by omega)).mpr z2
            omega
          rw [List.getElem?_eq_none (by omega)] at ez
          refine zM_gi hl (x10 so) (x := nI (fr + B.length)) (by rw [zub_n (by decide)]; exact hm.2.2.2.1) ?_
          exact zM_cv hl (x10 so) (bad B.length (M1 so) _ (mm so) (sM so) (ns so) (zSm_mono sF (by decide)) ez)
    have inv : ∀ M2 c, M2 10 = zMo (zub F 8 (.int (nI (N.length + 1)))) → c < 256 → zSm [10, 13, 14, 15, 16, 21, 22] M M2 → zNs M2 → ((k = 1 ∧ c ≤ 8 ∧ zhd B p par = (match zptx B c 0 (p + 2) 0 with | .inl e => .inl e | .inr v => .inr (p + 2 + c, (1, p, c, 0, 0, v, par))) ∧ p + 2 ≤ B.length ∧ M2 13 = zAi (So.set N.length (nI 1)) ∧ M2 14 = zAi (Fi.set N.length (nI (fr + p))) ∧ M2 15 = zAi (Co.set N.length (nI c)) ∧ M2 16 = zAi (Ma.set N.length (nI 0)) ∧ M2 18 = zAi Ab ∧ M2 21 = zAl (Hi.set N.length (lN 0)) ∧ M2 22 = zAl (Lo.set N.length (lN 0))) ∨ (k ≠ 1 ∧ ∃ e, zhd B p par = .inr (p + 2, e) ∧ zNr M2 (zub F 8 (.int (nI (N.length + 1)))) (N ++ [e]) fr)) → ∃ n1, ∃ M3 c' i v, n1 = c' - i ∧ (some 10 : zP) = some 10 ∧ nI N.length = nI N.length ∧ nI (fr + p) = nI (fr + p) ∧ nI k = nI k ∧ nI c = nI c' ∧ (0 : Int32) = nI i ∧ zov h M2 = zov h M3 ∧ i ≤ c' ∧ c' < 256 ∧ M3 10 = zMo (zub F 8 (.int (nI (N.length + 1)))) ∧ zSm [10, 13, 14, 15, 16, 21, 22] M M3 ∧ zNs M3 ∧ ((k = 1 ∧ c' ≤ 8 ∧ zhd B p par = (match zptx B (c' - i) i (p + 2 + i) v with | .inl e => .inl e | .inr v => .inr (p + 2 + c', (1, p, c', 0, 0, v, par))) ∧ v % 2 ^ (8 * (8 - i)) = 0 ∧ v < 2 ^ 63 ∧ p + 2 + i ≤ B.length ∧ M3 13 = zAi (So.set N.length (nI 1)) ∧ M3 14 = zAi (Fi.set N.length (nI (fr + p))) ∧ M3 15 = zAi (Co.set N.length (nI c')) ∧ M3 16 = zAi (Ma.set N.length (nI 0)) ∧ M3 18 = zAi Ab ∧ M3 21 = zAl (Hi.set N.length (lN 0)) ∧ M3 22 = zAl (Lo.set N.length (lN v))) ∨ (k ≠ 1 ∧ ∃ e, zhd B p par = .inr (p + 2, e) ∧ zNr M3 (zub F 8 (.int (nI (N.length + 1)))) (N ++ [e]) fr)) := by
      intro M2 c a1 a2 a3 a4 a5
      refine ⟨c, M2, c, 0, 0, by omega, rfl, rfl, rfl, rfl, rfl, rfl, rfl, by omega, a2, a1, a3, a4, ?_⟩
      rcases a5 with ⟨b1, b2, b3, b4, b5⟩ | b
      · exact Or.inl ⟨b1, b2, b3, rfl, by decide, b4, b5⟩
      · exact Or.inr b
    refine zMm_at hl hm hk (fun _ => ⟨fun z => b18 (Or.inl ((kn 3 (by decide)).mp z)) _, fun z => ⟨fun z2 => b18 (Or.inr ((nI_ltI (a := 7) (by decide) (by omega)).mp z2)) _, fun z2 => zM_gr hl m10 (hR (9, 13) (by decide)) ⟨fun z3 => ?_, fun z3 => ?_⟩⟩⟩)
    · have q3 : k ≠ 3 := fun q => z ((kn 3 (by decide)).mpr q)
      have q7 : ¬ 7 < k := fun q => z2 ((nI_ltI (a := 7) (by decide) (by omega)).mpr q)
      have g3 : 3 < k := (nI_ltI (a := 3) (by decide) (by omega)).mp z3
      exact st39 3 (by rw [if_pos g3]) (by omega) _ inv
    · have q3 : k ≠ 3 := fun q => z ((kn 3 (by decide)).mpr q)
      have q7 : ¬ 7 < k := fun q => z2 ((nI_ltI (a := 7) (by decide) (by omega)).mpr q)
      have g3 : ¬ 3 < k := fun q => z3 ((nI_ltI (a := 3) (by decide) (by omega)).mpr q)
      exact st39 k (by rw [if_neg g3]) (by omega) _ inv
end MRD2
/-! the reference reads nodes: a stack of the nodes that are open (the innermost first), each with how many parts are to come -/
def zres (B : List Nat) (w : Nat) : List (Nat × Nat) → Nat → List zNt → Nat ⊕ (Nat × List zNt)
  | [], at_, N => zpns (zpn B 9 4294967295) w at_ N
  | (o, c) :: st, at_, N => match zpns (zpn B (8 - st.length) o) c at_ N with
    | .inl e => .inl e
    | .inr (a, N2) => zres B w st a N2
/-- the node that the next one belongs to -/
def zpar (st : List (Nat × Nat)) : Nat := match st with
  | [] => 4294967295
  | (o, _) :: _ => o
/-- one part less is to come -/
def zless (st : List (Nat × Nat)) : List (Nat × Nat) := match st with
  | [] => []
  | (o, c) :: st => (o, c - 1) :: st
def zmore (st : List (Nat × Nat)) (w : Nat) : Prop := match st with
  | [] => 1 ≤ w
  | (_, c) :: _ => 1 ≤ c
theorem zless_len (st : List (Nat × Nat)) : (zless st).length = st.length := by
  unfold zless; split <;> rfl
theorem zres_hd {B : List Nat} {w at_ : Nat} {N : List zNt} (st : List (Nat × Nat)) (hm : zmore st w) (hd : st.length ≤ 8) : zres B w st at_ N = match B[at_]? with
  | none => .inl B.length
  | some _ => if 100 ≤ N.length then .inl at_ else match zhd B at_ (zpar st) with
    | .inl e => .inl e
    | .inr (p, e) => zres B (if st = [] then w - 1 else w) ((N.length, eM e) :: zless st) p (N ++ [e]) := by
  cases st with
  | nil =>
    obtain ⟨w, rfl⟩ : ∃ v, w = v + 1 := ⟨w - 1, by have : 1 ≤ w := hm; omega⟩
    rw [zres, zpns, zpn_hd]
    cases B[at_]? with
    | none => rfl
    | some k =>
      dsimp only
      by_cases h100 : 100 ≤ N.length
      · rw [if_pos h100, if_pos h100]
      · rw [if_neg h100, if_neg h100]
        rw [show zpar [] = 4294967295 from rfl]
        cases zhd B at_ 4294967295 with
        | inl e => rfl
        | inr q =>
          obtain ⟨p, e⟩ := q
          dsimp only
          rw [if_pos rfl, zres]
          rfl
  | cons oc st =>
    obtain ⟨o, c⟩ := oc
    have hd : st.length + 1 ≤ 8 := hd
    obtain ⟨c, rfl⟩ : ∃ v, c = v + 1 := ⟨c - 1, by have : 1 ≤ c := hm; omega⟩
    rw [zres, zpns, show 8 - st.length = (7 - st.length) + 1 by omega, zpn_hd]
    cases B[at_]? with
    | none => rfl
    | some k =>
      dsimp only
      by_cases h100 : 100 ≤ N.length
      · rw [if_pos h100, if_pos h100]
      · rw [if_neg h100, if_neg h100]
        rw [show zpar ((o, c + 1) :: st) = o from rfl]
        cases zhd B at_ o with
        | inl e => rfl
        | inr q =>
          obtain ⟨p, e⟩ := q
          dsimp only
          rw [if_neg (by simp), zres, show 8 - (zless ((o, c + 1) :: st)).length = 7 - st.length by rw [zless_len, List.length_cons]; omega]
          cases zpns (zpn B (7 - st.length) N.length) (eM e) p (N ++ [e]) with
          | inl e => rfl
          | inr q =>
            obtain ⟨p2, N2⟩ := q
            dsimp only
            show _ = zres B w ((o, c) :: st) p2 N2
            rw [zres, show 8 - st.length = 7 - st.length + 1 by omega]
theorem zres_deep {B : List Nat} {w at_ : Nat} {N : List zNt} (st : List (Nat × Nat)) (hm : zmore st w) (hd : st.length = 9) : zres B w st at_ N = match B[at_]? with
  | none => .inl B.length
  | some _ => .inl at_ := by
  cases st with
  | nil => cases hd
  | cons oc st =>
    obtain ⟨o, c⟩ := oc
    have hd : st.length + 1 = 9 := hd
    obtain ⟨c, rfl⟩ : ∃ v, c = v + 1 := ⟨c - 1, by have : 1 ≤ c := hm; omega⟩
    rw [zres, zpns, show 8 - st.length = 0 by omega, zpn]
    cases B[at_]? <;> rfl
/-- the open nodes' parts so far; t whole nodes ahead of them; b: where the next part begins (op = 1: where the open part begins) -/
def zSk (N : List zNt) (t : Nat) : List (Nat × Nat) → Nat → Nat → Prop
  | [], b, _ => zfuls N t 0 b
  | (o, c) :: st, b, op => (∃ e, N[o]? = some e ∧ c + op ≤ eM e ∧ zfuls N (eM e - c - op) (o + 1) b) ∧ zSk N t st o 1
theorem zSk_app {N S : List zNt} {t : Nat} : ∀ (st : List (Nat × Nat)) (b op : Nat), zSk N t st b op → zSk (N ++ S) t st b op
  | [], b, op, h => (zfuls_app _ _ _ h).1
  | (o, c) :: st, b, op, h => by
    obtain ⟨⟨e, h1, h2, h3⟩, h4⟩ := h
    exact ⟨⟨e, by rw [List.getElem?_append_left (List.getElem?_eq_some_iff.mp h1).1]; exact h1, h2, (zfuls_app _ _ _ h3).1⟩, zSk_app st o 1 h4⟩
/-- the reference's stack -/
def zOw (Ow Le : List Int32) : List (Nat × Nat) → Nat → Prop
  | [], _ => True
  | (o, c) :: st, op => (Ow[st.length]? = some (nI o) ∧ Le[st.length]? = some (nI (c + op))) ∧ zOw Ow Le st 1
theorem zOw_set {Ow Le : List Int32} {x y : Int32} {j k : Nat} : ∀ (st : List (Nat × Nat)) (op : Nat), zOw Ow Le st op → st.length ≤ j → st.length ≤ k → zOw (Ow.set j x) (Le.set k y) st op
  | [], _, _, _, _ => trivial
  | (o, c) :: st, op, h, h1, h2 => by
    rw [List.length_cons] at h1 h2
    refine ⟨⟨?_, ?_⟩, zOw_set st 1 h.2 (by omega) (by omega)⟩
    · rw [List.getElem?_set_ne (by omega)]; exact h.1.1
    · rw [List.getElem?_set_ne (by omega)]; exact h.1.2
theorem zOw_setL {Ow Le : List Int32} {y : Int32} {k : Nat} : ∀ (st : List (Nat × Nat)) (op : Nat), zOw Ow Le st op → st.length ≤ k → zOw Ow (Le.set k y) st op
  | [], _, _, _ => trivial
  | (o, c) :: st, op, h, h2 => by
    rw [List.length_cons] at h2
    refine ⟨⟨h.1.1, ?_⟩, zOw_setL st 1 h.2 (by omega)⟩
    rw [List.getElem?_set_ne (by omega)]; exact h.1.2
/-- which nodes are open -/
def zopn (st : List (Nat × Nat)) (i : Nat) : Prop := ∃ c, (i, c) ∈ st
/-- what the arrays of a reading say in its midst -/
def zLs (M : Nat → zE) (N : List zNt) (t : Nat) (st : List (Nat × Nat)) (op : Nat) : Prop := ∃ Nx Ow Le, M 17 = zAi Nx ∧ M 23 = zAi Ow ∧ M 24 = zAi Le ∧ Nx.length = 100 ∧ Ow.length = 10 ∧ Le.length = 10 ∧ (∀ i, i < N.length → ¬ zopn st i → zful N i ∧ Nx[i]? = some (nI (znx N i))) ∧ zSk N t st N.length op ∧ zOw Ow Le st op
