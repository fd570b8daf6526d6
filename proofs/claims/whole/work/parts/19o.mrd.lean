/-! the reference reads -/
/-- these bytes stand in the memory from fr on, and are what is read -/
def zMm (M : Nat → zE) (F : Nat → Value) (B : List Nat) (fr : Nat) : Prop := M 10 = zMo F ∧ zRf F ∧ F 6 = .int (nI fr) ∧ F 7 = .int (nI (fr + B.length)) ∧ fr + B.length ≤ 8660 ∧ ∃ Lm, M 11 = zAi Lm ∧ Lm.length = 8660 ∧ ∀ (i b : Nat), B[i]? = some b → b < 256 ∧ Lm[fr + i]? = some (nI b)
theorem zMm_sm {M M' : Nat → zE} {F F' : Nat → Value} {B : List Nat} {fr : Nat} {S T : List Nat} (hm : zMm M F B fr) (h10 : M' 10 = zMo F') (hM : zSm S M M') (hF : zSm T F F') (hS : S.contains 11 = false) (hT : ((6, 6) :: (7, 7) :: zrfs).all (fun q => !(T.contains q.1)) = true) : zMm M' F' B fr := by
  obtain ⟨a1, a2, a3, a4, a5, Lm, b1, b2, b3⟩ := hm
  have t0 : ∀ q : Nat × Nat, q ∈ ((6, 6) :: (7, 7) :: zrfs) → F' q.1 = F q.1 := fun q hq => hF q.1 (by simpa using List.all_eq_true.mp hT q hq)
  refine ⟨h10, fun q hq => ?_, ?_, ?_, a5, Lm, ?_, b2, b3⟩
  · rw [t0 q (List.mem_cons_of_mem _ (List.mem_cons_of_mem _ hq))]; exact a2 q hq
  · rw [t0 (6, 6) (by simp)]; exact a3
  · rw [t0 (7, 7) (by simp)]; exact a4
  · rw [hM 11 (by simpa using hS)]; exact b1
section MRD
variable {xs : List Value} {d : Nat} {h : zH} {M : Nat → zE} {F : Nat → Value} {Q : zO → zH → Prop} {B : List Nat} {fr : Nat}
/-- refused at place e -/
theorem zc158b {e : Nat} (hl : 50 ≤ h.1.length) (hm : zMm M F B fr) (k : ∀ M' F', M' 10 = zMo F' → zSm [10] M M' → zSm [5] F F' → F' 5 = .int (nI e) → Q (.inl (some (.int (-1)))) (zov h M')) : zG xs d (158, 0, lv_args 0 [zo (some 10), .int (nI (fr + e))], []) (zov h M) Q := by
  refine zc158 hl hm.1 hm.2.2.1 (k _ _ zub_s (zSm_ub zSm_refl (by decide)) (zSm_ub zSm_refl (by decide)) ?_)
  rw [zub_s, pk_sub (by omega), show fr + e - fr = e by omega]
theorem zMm_at {p b : Nat} {K : Int32 → Prop} (hl : 50 ≤ h.1.length) (hm : zMm M F B fr) (hb : B[p]? = some b) (k : b < 256 → K (nI b)) : zGR (some 10) 12 1 (zov h M) fun x => zIA xs x (nI (fr + p)) (zov h M) K := by
  obtain ⟨a1, a2, a3, a4, a5, Lm, b1, b2, b3⟩ := hm
  obtain ⟨c1, c2⟩ := b3 p b hb
  have hpl := (List.getElem?_eq_some_iff.mp hb).1
  exact zM_gr hl a1 (a2 (1, 11) (by decide)) (zM_ia' hl b1 c2 (k c1))
theorem zshl1 {k : Nat} (hk : k < 64) : (1 : Int64) <<< ((nI k).toInt64 &&& 63) = lN (2 ^ k) := (wb_shl 1 hk).trans (by rw [Nat.one_mul])
set_option maxRecDepth 100000 in
theorem zbitI : ∀ b, b < 256 → ∀ i, i < 8 → (nI b >>> (nI i &&& 31)) &&& 1 = nI (b / 2 ^ i % 2) := by decide
theorem zc160 {n p : Nat} {Hi Lo : List Int64} {Co : List Int32} (hl : 50 ≤ h.1.length) (hm : zMm M F B fr) (hn : n < 100) (hH : M 21 = zAl Hi) (hL : M 22 = zAl Lo) (hC : M 15 = zAi Co) (lH : Hi.length = 100) (lL : Lo.length = 100) (lC : Co.length = 100) (h0 : Hi[n]? = some 0) (l0 : Lo[n]? = some 0) (hp : p ≤ B.length) (hB : B.length ≤ 2000)
    (k0 : ∀ e, zpnu B p = .inl e → ∀ M' F', M' 10 = zMo F' → zSm [10, 15, 21, 22] M M' → (∃ Hi' Lo' Co', M' 21 = zAl Hi' ∧ M' 22 = zAl Lo' ∧ M' 15 = zAi Co' ∧ Hi'.length = 100 ∧ Lo'.length = 100 ∧ Co'.length = 100) → zSm [5] F F' → F' 5 = .int (nI e) → Q (.inl (some (.int (-1)))) (zov h M'))
    (k1 : ∀ p' s v, zpnu B p = .inr (p', s, v) → ∀ M', zSm [15, 21, 22] M M' → M' 21 = zAl (Hi.set n (lN (v / 1152921504606846976))) → M' 22 = zAl (Lo.set n (lN (v % 1152921504606846976))) → M' 15 = zAi (Co.set n (nI s)) → Q (.inl (some (.int (nI (fr + p'))))) (zov h M')) : zG xs (d + 1) (160, 0, lv_args 0 [zo (some 10), .int (nI n), .int (nI (fr + p))], []) (zov h M) Q := by
  have hBf : fr + B.length ≤ 8660 := hm.2.2.2.2.1
  have bad : ∀ (e : Nat) (M1 : Nat → zE) (Hi' Lo' : List Int64) (Co' : List Int32), zSm [15, 21, 22] M M1 → M1 21 = zAl Hi' → M1 22 = zAl Lo' → M1 15 = zAi Co' → Hi'.length = 100 → Lo'.length = 100 → Co'.length = 100 → zpnu B p = .inl e → zG xs d (158, 0, lv_args 0 [zo (some 10), .int (nI (fr + e))], []) (zov h M1) (zKI (fun x h => Q (.inl (some (.int x))) h) (fun e h => Q (.inr e) h)) := by
    intro e M1 Hi' Lo' Co' s1 a1 a2 a3 a4 a5 a6 he
    refine zc158b hl (zMm_sm hm (by rw [s1 10 (by decide)]; exact hm.1) s1 (zSm_refl (S := [])) (by decide) (by decide)) (fun M' F' b1 b2 b3 b4 => zKI_v ?_)
    exact k0 e he M' F' b1 (zSm_trans s1 b2 (by decide) (by decide)) ⟨Hi', Lo', Co', by rw [b2 21 (by decide)]; exact a1, by rw [b2 22 (by decide)]; exact a2, by rw [b2 15 (by decide)]; exact a3, a4, a5, a6⟩ b3 b4
  -- the state: byte a, shift sh, amount v; C: the codes so far
  refine zm_160 (fun m l0 l1 l2 l3 l4 h1 => ∃ M1 a sh v C, m = 20 * (B.length - a) + 10 ∧ l0 = some 10 ∧ l1 = nI n ∧ l2 = nI (fr + p) ∧ l3 = nI sh ∧ l4 = nI (fr + a) ∧ h1 = zov h M1 ∧ zSm [15, 21, 22] M M1 ∧ M1 21 = zAl (Hi.set n (lN (v / 1152921504606846976))) ∧ M1 22 = zAl (Lo.set n (lN (v % 1152921504606846976))) ∧ M1 15 = zAi C ∧ C.length = 100 ∧ a ≤ B.length ∧ v < 2 ^ 120 ∧ v < 2 ^ sh ∧ ((a = p ∧ sh = 0 ∧ C = Co) ∨ (p < a ∧ sh = 6 + 7 * (a - p - 1) ∧ ∃ s, C = Co.set n (nI s) ∧ zpnu B p = match zpmo B (B.length - (a - p - 1)) a sh v with | .inl e => .inl e | .inr (p2, v2) => .inr (p2, s, v2))))
    (fun m l0 l1 l2 l3 l4 l5 l6 l7 h1 => ∃ M1 a sh v C b i wd, m = 20 * (B.length - a) + (wd - i) ∧ l0 = some 10 ∧ l1 = nI n ∧ l2 = nI (fr + p) ∧ l3 = nI sh ∧ l4 = nI (fr + a) ∧ l5 = nI b ∧ l6 = nI wd ∧ l7 = nI i ∧ h1 = zov h M1 ∧ zSm [15, 21, 22] M M1 ∧ M1 21 = zAl (Hi.set n (lN ((v + b % 2 ^ i * 2 ^ sh) / 1152921504606846976))) ∧ M1 22 = zAl (Lo.set n (lN ((v + b % 2 ^ i * 2 ^ sh) % 1152921504606846976))) ∧ M1 15 = zAi C ∧ C.length = 100 ∧ B[a]? = some b ∧ b < 256 ∧ i ≤ wd ∧ b % 2 ^ i * 2 ^ sh < 2 ^ 120 ∧ v < 2 ^ 120 ∧ v < 2 ^ sh ∧ sh < 20000 ∧ ((a = p ∧ sh = 0 ∧ wd = 6 ∧ C = Co ∧ b ≠ 64) ∨ (p < a ∧ sh = 6 + 7 * (a - p - 1) ∧ wd = 7 ∧ b ≠ 0 ∧ ∃ s, C = Co.set n (nI s) ∧ zpnu B p = match zpmo B (B.length - (a - p - 1)) a sh v with | .inl e => .inl e | .inr (p2, v2) => .inr (p2, s, v2)))) ?_ ?_ ?_
  · rintro m l0 l1 l2 l3 l4 h1 ⟨M1, a, sh, v, C, rfl, rfl, rfl, rfl, rfl, rfl, rfl, s1, a1, a2, a3, a4, a5, a6, a7, hc⟩
    have m10 : M1 10 = zMo F := by rw [s1 10 (by decide)]; exact hm.1
    have hm1 := zMm_sm hm m10 s1 (zSm_refl (S := []) (A := F)) (by decide) (by decide)
    have lH1 : (Hi.set n (lN (v / 1152921504606846976))).length = 100 := by rw [List.length_set]; exact lH
    have lL1 : (Lo.set n (lN (v % 1152921504606846976))).length = 100 := by rw [List.length_set]; exact lL
    refine zM_gi hl m10 hm.2.2.2.1 ⟨fun z => ?_, fun z => ?_⟩
    · have ha : a < B.length := by have := (nI_ltI (by omega) (by omega)).mp z; omega
      obtain ⟨b, hb⟩ : ∃ b, B[a]? = some b := ⟨_, List.getElem?_eq_getElem ha⟩
      have bad1 : zpnu B p = .inl a → ∀ J1 J2, zw_160_59 xs (d + 1) Q J1 J2 (some 10) (nI (fr + a)) (zov h M1) := fun he J1 J2 => zM_cv hl m10 (bad a M1 _ _ _ s1 a1 a2 a3 lH1 lL1 a4 he)
      refine zMm_at hl hm1 hb (fun hb256 => ?_)
      have eap : nI (fr + a) = nI (fr + p) ↔ a = p := by rw [nI_eq (by omega) (by omega)]; omega
      have e64 : nI b = 64 ↔ b = 64 := nI_eq (b := 64) (by omega) (by decide)
      have e00 : nI b = 0 ↔ b = 0 := nI_eq (b := 0) (by omega) (by decide)
      refine ⟨fun z2 => ⟨fun _ => ⟨fun z3 => ?_, fun z3 => ?_⟩, fun z3 => absurd z2 z3⟩, fun z2 => ⟨fun z3 => absurd z3 z2, fun _ => ⟨fun z3 => ?_, fun z3 => ?_⟩⟩⟩
      · have hap := eap.mp z2
        subst hap
        refine bad1 ?_ _ _
        unfold zpnu
        rw [hb]
        exact if_pos (e64.mp z3)
      · have hap := eap.mp z2
        rcases hc with ⟨c1, c2, c3⟩ | ⟨c1, _⟩
        · refine ⟨20 * (B.length - a) + (6 - 0), by omega, M1, a, sh, v, C, b, 0, 6, rfl, rfl, rfl, rfl, rfl, rfl, rfl, rfl, rfl, rfl, s1, ?_, ?_, a3, a4, hb, hb256, by omega, ?_, a6, a7, by omega, Or.inl ⟨c1, c2, rfl, c3, fun z4 => z3 (e64.mpr z4)⟩⟩
          · rw [Nat.pow_zero, Nat.mod_one, Nat.zero_mul, Nat.add_zero]; exact a1
          · rw [Nat.pow_zero, Nat.mod_one, Nat.zero_mul, Nat.add_zero]; exact a2
          · rw [Nat.pow_zero, Nat.mod_one, Nat.zero_mul]; decide
        · omega
      · have hap : a ≠ p := fun q => z2 (eap.mpr q)
        rcases hc with ⟨c1, _⟩ | ⟨c1, c2, s, c3, c4⟩
        · exact absurd c1 hap
        · rw [show B.length - (a - p - 1) = (B.length - (a - p - 1) - 1) + 1 by omega, zpmo, hb] at c4
          dsimp only at c4
          rw [if_pos (Or.inl (e00.mp z3))] at c4
          exact bad1 c4 _ _
      · have hap : a ≠ p := fun q => z2 (eap.mpr q)
        rcases hc with ⟨c1, _⟩ | ⟨c1, c2, s, c3, c4⟩
        · exact absurd c1 hap
        · refine ⟨20 * (B.length - a) + (7 - 0), by omega, M1, a, sh, v, C, b, 0, 7, rfl, rfl, rfl, rfl, rfl, rfl, rfl, rfl, rfl, rfl, s1, ?_, ?_, a3, a4, hb, hb256, by omega, ?_, a6, a7, by omega, Or.inr ⟨c1, c2, rfl, fun z4 => z3 (e00.mpr z4), s, c3, c4⟩⟩
          · rw [Nat.pow_zero, Nat.mod_one, Nat.zero_mul, Nat.add_zero]; exact a1
          · rw [Nat.pow_zero, Nat.mod_one, Nat.zero_mul, Nat.add_zero]; exact a2
          · rw [Nat.pow_zero, Nat.mod_one, Nat.zero_mul]; decide
    · have ha : a = B.length := by
        have := mt (nI_ltI (a := fr + a) (b := fr + B.length) (by omega) (by omega)).mpr z
        omega
      have hn : B[a]? = none := List.getElem?_eq_none (by omega)
      refine zM_gi hl m10 hm.2.2.2.1 (zM_cv hl m10 (bad B.length M1 _ _ _ s1 a1 a2 a3 lH1 lL1 a4 ?_))
      rcases hc with ⟨c1, _⟩ | ⟨c1, c2, s, c3, c4⟩
      · subst c1
        unfold zpnu
        rw [hn]
      · rw [show B.length - (a - p - 1) = (B.length - (a - p - 1) - 1) + 1 by omega, zpmo, hn] at c4
        exact c4
  · rintro m l0 l1 l2 l3 l4 l5 l6 l7 h1 ⟨M1, a, sh, v, C, b, i, wd, rfl, rfl, rfl, rfl, rfl, rfl, rfl, rfl, rfl, rfl, s1, a1, a2, a3, a4, hb, hb256, hi, hr, hv, hvs, hsh, hc⟩
    have m10 : M1 10 = zMo F := by rw [s1 10 (by decide)]; exact hm.1
    have ha : a < B.length := (List.getElem?_eq_some_iff.mp hb).1
    have hwd : wd = 6 ∨ wd = 7 := by rcases hc with ⟨_, _, c, _⟩ | ⟨_, _, c, _⟩ <;> omega
    have hpa : p ≤ a := by rcases hc with ⟨c, _⟩ | ⟨c, _⟩ <;> omega
    refine ⟨fun z => ?_, fun z => ?_⟩
    · have hiw : i < wd := (nI_ltI (by omega) (by omega)).mp z
      have hbit : b % 2 ^ (i + 1) = b % 2 ^ i + b / 2 ^ i % 2 * 2 ^ i := by
        rw [Nat.pow_succ, Nat.mod_mul, Nat.mul_comm]
      have hb2 : b / 2 ^ i % 2 < 2 := Nat.mod_lt _ (by decide)
      have hvi : v + b % 2 ^ i * 2 ^ sh < 2 ^ (sh + i) := by
        have : b % 2 ^ i + 1 ≤ 2 ^ i := Nat.mod_lt _ (Nat.two_pow_pos _)
        have := Nat.mul_le_mul_right (2 ^ sh) this
        rw [Nat.add_mul, Nat.one_mul, ← Nat.pow_add, Nat.add_comm i sh] at this
        omega
      have hv120 : v + b % 2 ^ i * 2 ^ sh < 2 ^ 120 := (zor_hl (c := b % 2 ^ i) hvs (by omega) hr hv).2.2
      rw [zbitI b hb256 i (by omega), show nI (b / 2 ^ i % 2) = 0 ↔ b / 2 ^ i % 2 = 0 from nI_eq (b := 0) (by omega) (by decide)]
      refine ⟨fun z2 => ?_, fun z2 => ?_⟩
      · intro x hx
        rw [z2, Nat.zero_mul, Nat.add_zero] at hbit
        refine ⟨20 * (B.length - a) + (wd - (i + 1)), by omega, M1, a, sh, v, C, b, i + 1, wd, rfl, rfl, rfl, rfl, rfl, rfl, rfl, rfl, by rw [hx, nI_1], rfl, s1, by rw [hbit]; exact a1, by rw [hbit]; exact a2, a3, a4, hb, hb256, hiw, by rw [hbit]; exact hr, hv, hvs, hsh, hc⟩
      · have hb1 : b / 2 ^ i % 2 = 1 := by omega
        rw [hb1, Nat.one_mul] at hbit
        have hadd : b % 2 ^ (i + 1) * 2 ^ sh = b % 2 ^ i * 2 ^ sh + 1 * 2 ^ (sh + i) := by rw [hbit, Nat.add_mul, Nat.one_mul, ← Nat.pow_add, Nat.add_comm i sh]
        rw [nI_add]
        refine ⟨fun z3 => ?_, fun z3 => ?_⟩
        · have hs120 : sh + i < 120 := (nI_ltI (b := 120) (by omega) (by decide)).mp z3
          have hpow : 1 * 2 ^ (sh + i) < 2 ^ 120 := by rw [Nat.one_mul]; exact Nat.pow_lt_pow_right (by decide) hs120
          obtain ⟨o1, o2, o3⟩ := zor_hl (c := 1) hvi (by omega) hpow hv120
          have hsum : v + b % 2 ^ i * 2 ^ sh + 1 * 2 ^ (sh + i) = v + b % 2 ^ (i + 1) * 2 ^ sh := by rw [hadd]; omega
          have hlt : b % 2 ^ (i + 1) * 2 ^ sh < 2 ^ 120 := by omega
          rw [hsum] at o1 o2
          have or0 : ∀ x : Int64, x ||| lN 0 = x := fun x => Int64.or_zero
          refine ⟨fun z4 => ?_, fun z4 => ?_⟩
          · have h60 : sh + i < 60 := (nI_ltI (b := 60) (by omega) (by decide)).mp z4
            have hp60 : 1 * 2 ^ (sh + i) < 1152921504606846976 := by rw [Nat.one_mul]; exact Nat.pow_lt_pow_right (by decide) h60
            rw [Nat.div_eq_of_lt hp60, or0] at o1
            rw [Nat.mod_eq_of_lt hp60, Nat.one_mul] at o2
            refine zM_gr hl m10 (hm.2.1 (18, 22) (by decide)) (zM_la (L := Lo.set n (lN ((v + b % 2 ^ i * 2 ^ sh) % 1152921504606846976))) (j := n) hl a2 (List.getElem?_set_self (by omega)) ?_)
            rw [zshl1 (by omega), o2]
            refine zM_stl (L := Lo.set n (lN ((v + b % 2 ^ i * 2 ^ sh) % 1152921504606846976))) hl a2 (by rw [List.length_set]; omega) (by rw [List.length_set]; omega) ?_
            rw [List.set_set]
            intro x hx
            refine ⟨20 * (B.length - a) + (wd - (i + 1)), by omega, _, a, sh, v, C, b, i + 1, wd, rfl, rfl, rfl, rfl, rfl, rfl, rfl, rfl, by rw [hx, nI_1], rfl, zSm_ub s1 (by decide), by rw [zub_n (by decide), ← o1]; exact a1, zub_s, by rw [zub_n (by decide)]; exact a3, a4, hb, hb256, hiw, hlt, hv, hvs, hsh, hc⟩
          · have h60 : ¬ sh + i < 60 := fun q => z4 ((nI_ltI (b := 60) (by omega) (by decide)).mpr q)
            have hpe : 1 * 2 ^ (sh + i) = 2 ^ (sh + i - 60) * 1152921504606846976 := by rw [Nat.one_mul, show (1152921504606846976 : Nat) = 2 ^ 60 by decide, ← Nat.pow_add]; congr 1; omega
            rw [hpe, Nat.mul_div_cancel _ (by decide)] at o1
            rw [hpe, Nat.mul_mod_left, or0] at o2
            refine zM_gr hl m10 (hm.2.1 (17, 21) (by decide)) (zM_la (L := Hi.set n (lN ((v + b % 2 ^ i * 2 ^ sh) / 1152921504606846976))) (j := n) hl a1 (List.getElem?_set_self (by omega)) ?_)
            rw [show nI (sh + i) - 60 = nI (sh + i - 60) from pk_sub (b := 60) (by omega), zshl1 (by omega), o1]
            refine zM_stl (L := Hi.set n (lN ((v + b % 2 ^ i * 2 ^ sh) / 1152921504606846976))) hl a1 (by rw [List.length_set]; omega) (by rw [List.length_set]; omega) ?_
            rw [List.set_set]
            intro x hx
            refine ⟨20 * (B.length - a) + (wd - (i + 1)), by omega, _, a, sh, v, C, b, i + 1, wd, rfl, rfl, rfl, rfl, rfl, rfl, rfl, rfl, by rw [hx, nI_1], rfl, zSm_ub s1 (by decide), zub_s, by rw [zub_n (by decide), ← o2]; exact a2, by rw [zub_n (by decide)]; exact a3, a4, hb, hb256, hiw, hlt, hv, hvs, hsh, hc⟩
        · have hs120 : ¬ sh + i < 120 := fun q => z3 ((nI_ltI (b := 120) (by omega) (by decide)).mpr q)
          refine zM_cv hl m10 (bad a M1 _ _ _ s1 a1 a2 a3 (by rw [List.length_set]; exact lH) (by rw [List.length_set]; exact lL) a4 ?_)
          rcases hc with ⟨_, c2, _⟩ | ⟨c1, c2, c3, c4, s, c5, c6⟩
          · omega
          · rw [show B.length - (a - p - 1) = (B.length - (a - p - 1) - 1) + 1 by omega, zpmo, hb] at c6
            dsimp only at c6
            rw [if_pos (Or.inr ?_)] at c6
            · exact c6
            · have h1 : 2 ^ 120 ≤ 2 ^ (sh + i) := Nat.pow_le_pow_right (by decide) (by omega)
              have h2 : 2 ^ i ≤ b % 128 := by
                have h3 : b % 2 ^ (i + 1) ≤ b % 128 := by
                  have : b % 2 ^ (i + 1) = b % 128 % 2 ^ (i + 1) := by
                    rw [Nat.mod_mod_of_dvd]
                    exact ⟨2 ^ (6 - i), by rw [← Nat.pow_add, show i + 1 + (6 - i) = 7 by omega]⟩
                  rw [this]
                  exact Nat.mod_le _ _
                omega
              have h4 := Nat.mul_le_mul_right (2 ^ sh) h2
              rw [← Nat.pow_add, Nat.add_comm i sh] at h4
              omega
    · have hiw : i = wd := by
        have := mt (nI_ltI (a := i) (b := wd) (by omega) (by omega)).mpr z
        omega
      subst hiw
      have hv120 := zor_hl (c := b % 2 ^ i) hvs (by omega) hr hv
      have hvn : v + b % 2 ^ i * 2 ^ sh < 2 ^ (sh + i) := by
        have : b % 2 ^ i + 1 ≤ 2 ^ i := Nat.mod_lt _ (Nat.two_pow_pos _)
        have := Nat.mul_le_mul_right (2 ^ sh) this
        rw [Nat.add_mul, Nat.one_mul, ← Nat.pow_add, Nat.add_comm i sh] at this
        omega
      -- behind the byte
      have aft : ∀ (M2 : Nat → zE) (s : Nat), zSm [15, 21, 22] M M2 → M2 21 = zAl (Hi.set n (lN ((v + b % 2 ^ i * 2 ^ sh) / 1152921504606846976))) → M2 22 = zAl (Lo.set n (lN ((v + b % 2 ^ i * 2 ^ sh) % 1152921504606846976))) → M2 15 = zAi (Co.set n (nI s)) → sh + i = 6 + 7 * (a - p) → (b < 128 → zpnu B p = .inr (a + 1, s, v + b % 2 ^ i * 2 ^ sh)) → (¬ b < 128 → zpnu B p = match zpmo B (B.length - (a - p)) (a + 1) (sh + i) (v + b % 2 ^ i * 2 ^ sh) with | .inl e => .inl e | .inr (p2, v2) => .inr (p2, s, v2)) →
          ∀ J69, zw_160_175 xs (d + 1) Q (fun l0 l1 l2 l3 l4 h1 => ∃ n1, n1 < 20 * (B.length - a) + (i - i) ∧ ∃ M1 a sh v C, n1 = 20 * (B.length - a) + 10 ∧ l0 = some 10 ∧ l1 = nI n ∧ l2 = nI (fr + p) ∧ l3 = nI sh ∧ l4 = nI (fr + a) ∧ h1 = zov h M1 ∧ zSm [15, 21, 22] M M1 ∧ M1 21 = zAl (Hi.set n (lN (v / 1152921504606846976))) ∧ M1 22 = zAl (Lo.set n (lN (v % 1152921504606846976))) ∧ M1 15 = zAi C ∧ C.length = 100 ∧ a ≤ B.length ∧ v < 2 ^ 120 ∧ v < 2 ^ sh ∧ ((a = p ∧ sh = 0 ∧ C = Co) ∨ (p < a ∧ sh = 6 + 7 * (a - p - 1) ∧ ∃ s, C = Co.set n (nI s) ∧ zpnu B p = match zpmo B (B.length - (a - p - 1)) a sh v with | .inl e => .inl e | .inr (p2, v2) => .inr (p2, s, v2)))) J69 (some 10) (nI n) (nI (fr + p)) (nI sh) (nI (fr + a)) (nI b) (nI i) (zov h M2) := by
        intro M2 s t1 t2 t3 t4 t5 t6 t7 J69
        intro x hx
        refine ⟨fun z2 => ?_, fun z2 => ?_⟩
        · have hb128 : b < 128 := (nI_ltI (b := 128) (by omega) (by decide)).mp z2
          rw [nI_1, show fr + a + 1 = fr + (a + 1) by omega]
          exact k1 (a + 1) s _ (t6 hb128) M2 t1 t2 t3 t4
        · have hb128 : ¬ b < 128 := fun q => z2 ((nI_ltI (b := 128) (by omega) (by decide)).mpr q)
          intro y hy
          refine ⟨20 * (B.length - (a + 1)) + 10, by omega, M2, a + 1, sh + i, v + b % 2 ^ i * 2 ^ sh, Co.set n (nI s), rfl, rfl, rfl, rfl, by rw [hx, nI_add], by rw [hy, nI_1]; rfl, rfl, t1, t2, t3, t4, by rw [List.length_set]; exact lC, ha, hv120.2.2, hvn, Or.inr ⟨by omega, by omega, s, rfl, ?_⟩⟩
          rw [show a + 1 - p - 1 = a - p by omega]
          exact t7 hb128
      have eap : nI (fr + a) = nI (fr + p) ↔ a = p := by rw [nI_eq (by omega) (by omega)]; omega
      rcases hc with ⟨c1, c2, c3, c4, c5⟩ | ⟨c1, c2, c3, c4, s, c5, c6⟩
      · subst c1 c2 c3 c4
        refine ⟨fun _ => ?_, fun z2 => absurd rfl z2⟩
        refine zM_gr hl m10 (hm.2.1 (11, 15) (by decide)) ?_
        rw [show (6 : Int32) = nI 6 from rfl, zbitI b hb256 6 (by decide)]
        refine zM_st' (L := C) hl a3 (by omega) (by omega) ?_
        have e0 : zpnu B a = if b < 128 then .inr (a + 1, b / 64 % 2, b % 64) else match zpmo B B.length (a + 1) 6 (b % 64) with
          | .inl e => .inl e
          | .inr (p, v) => .inr (p, b / 64 % 2, v) := by
          unfold zpnu
          rw [hb]
          exact if_neg c5
        have v0 : v = 0 := by rw [Nat.pow_zero] at hvs; omega
        subst v0
        have ev : 0 + b % 2 ^ 6 * 2 ^ 0 = b % 64 := by rw [Nat.pow_zero, Nat.mul_one, Nat.zero_add]
        refine aft _ (b / 2 ^ 6 % 2) (zSm_ub s1 (by decide)) (by rw [zub_n (by decide)]; exact a1) (by rw [zub_n (by decide)]; exact a2) zub_s (by omega) (fun hlt => ?_) (fun hlt => ?_) _
        · rw [ev, e0, if_pos hlt]
        · rw [ev, e0, if_neg hlt, Nat.sub_self]
          rfl
      · refine ⟨fun z2 => absurd (eap.mp z2) (by omega), fun _ => ?_⟩
        subst c3 c5
        rw [show B.length - (a - p - 1) = (B.length - (a - p - 1) - 1) + 1 by omega, zpmo, hb] at c6
        dsimp only at c6
        have e128 : (2 : Nat) ^ 7 = 128 := rfl
        rw [e128] at hr
        rw [if_neg (by omega)] at c6
        refine aft M1 s s1 a1 a2 a3 (by omega) (fun hlt => ?_) (fun hlt => ?_) _
        · rw [if_pos hlt] at c6
          exact c6
        · rw [if_neg hlt] at c6
          rw [c6, show B.length - (a - p) = B.length - (a - p - 1) - 1 by omega]
  · refine ⟨20 * (B.length - p) + 10, M, p, 0, 0, Co, rfl, rfl, rfl, rfl, rfl, rfl, rfl, zSm_refl, ?_, ?_, hC, lC, hp, by decide, by decide, Or.inl ⟨rfl, rfl, rfl⟩⟩
    · rw [hH]
      congr 1
      apply List.ext_getElem?
      intro i
      by_cases hi : n = i
      · subst hi; rw [List.getElem?_set_self (by omega), h0]; rfl
      · rw [List.getElem?_set_ne hi]
    · rw [hL]
      congr 1
      apply List.ext_getElem?
      intro i
      by_cases hi : n = i
      · subst hi; rw [List.getElem?_set_self (by omega), l0]; rfl
      · rw [List.getElem?_set_ne hi]
end MRD
/-- the head of a node: behind it (a number's or a text's whole), and its row of the list -/
def zhd (B : List Nat) (p par : Nat) : Nat ⊕ (Nat × zNt) := match B[p]? with
  | none => .inl B.length
  | some k =>
    if k = 3 ∨ 7 < k then .inl p
    else if k = 0 then (match zpnu B (p + 1) with
      | .inl e => .inl e
      | .inr (p', s, v) => .inr (p', (0, p, s, 0, v / 1152921504606846976, v % 1152921504606846976, par)))
    else match B[p + 1]? with
      | none => .inl B.length
      | some c =>
        if k = 1 then (if 8 < c then .inl (p + 1) else match zptx B c 0 (p + 2) 0 with
          | .inl e => .inl e
          | .inr v => .inr (p + 2 + c, (1, p, c, 0, 0, v, par)))
        else if k = 2 then (if 40 < c then .inl (p + 1) else .inr (p + 2, (2, p, c, c, 0, 0, par)))
        else .inr (p + 2, (3, p, c, k - 4, 0, 0, par))
theorem zpn_hd {B : List Nat} {f par p : Nat} {N : List zNt} : zpn B (f + 1) par p N = match B[p]? with
  | none => .inl B.length
  | some _ => if 100 ≤ N.length then .inl p else match zhd B p par with
    | .inl e => .inl e
    | .inr (p', e) => zpns (zpn B f N.length) (eM e) p' (N ++ [e]) := by
  rw [zpn]
  unfold zhd
  cases hb : B[p]? with
  | none => rfl
  | some k =>
    dsimp only
    split
    · rfl
    · by_cases h3 : k = 3 ∨ 7 < k
      · rw [if_neg (by omega), if_pos h3, if_pos h3]
      · rw [if_neg h3, if_neg h3]
        by_cases h0 : k = 0
        · rw [if_pos h0, if_pos h0]
          cases zpnu B (p + 1) with
          | inl e => rfl
          | inr q => rfl
        · rw [if_neg h0, if_neg h0]
          cases hc : B[p + 1]? with
          | none => rfl
          | some c =>
            dsimp only
            by_cases h1 : k = 1
            · rw [if_pos h1, if_pos h1]
              by_cases h8 : 8 < c
              · rw [if_pos h8, if_pos h8]
              · rw [if_neg h8, if_neg h8]
                cases zptx B c 0 (p + 2) 0 with
                | inl e => rfl
                | inr v => rfl
            · rw [if_neg h1, if_neg h1]
              by_cases h2 : k = 2
              · rw [if_pos h2, if_pos h2]
                by_cases h40 : 40 < c
                · rw [if_pos h40, if_pos h40]
                · rw [if_neg h40, if_neg h40]
                  rfl
              · rw [if_neg h2, if_neg h2]
                rfl
/-- the reference's rows of nodes -/
def zNr (M : Nat → zE) (F : Nat → Value) (N : List zNt) (fr : Nat) : Prop := F 8 = .int (nI N.length) ∧ N.length ≤ 100 ∧ ∃ (So Fi Co Ma Ab : List Int32) (Hi Lo : List Int64), M 13 = zAi So ∧ M 14 = zAi Fi ∧ M 15 = zAi Co ∧ M 16 = zAi Ma ∧ M 18 = zAi Ab ∧ M 21 = zAl Hi ∧ M 22 = zAl Lo ∧ So.length = 100 ∧ Fi.length = 100 ∧ Co.length = 100 ∧ Ma.length = 100 ∧ Ab.length = 100 ∧ Hi.length = 100 ∧ Lo.length = 100 ∧ ∀ (i : Nat) (e : zNt), N[i]? = some e → So[i]? = some (nI (eS e)) ∧ Fi[i]? = some (nI (fr + eF e)) ∧ Co[i]? = some (nI (eC e)) ∧ Ma[i]? = some (nI (eM e)) ∧ Ab[i]? = some (nI (eA e)) ∧ Hi[i]? = some (lN (eH e)) ∧ Lo[i]? = some (lN (eL e))
/-- the shapes of the arrays that reading fills -/
def zNs (M : Nat → zE) : Prop := ∃ (So Fi Co Ma Ab : List Int32) (Hi Lo : List Int64), M 13 = zAi So ∧ M 14 = zAi Fi ∧ M 15 = zAi Co ∧ M 16 = zAi Ma ∧ M 18 = zAi Ab ∧ M 21 = zAl Hi ∧ M 22 = zAl Lo ∧ So.length = 100 ∧ Fi.length = 100 ∧ Co.length = 100 ∧ Ma.length = 100 ∧ Ab.length = 100 ∧ Hi.length = 100 ∧ Lo.length = 100
/-- one more character -/
theorem ztxt_or {v b i : Nat} (hi8 : i < 8) (h126 : ¬ 126 < b) (hv : v % 2 ^ (8 * (8 - i)) = 0) (hv63 : v < 2 ^ 63) : lN v ||| lN (b * 2 ^ (8 * (7 - i))) = lN (v + b * 2 ^ (8 * (7 - i))) ∧ (v + b * 2 ^ (8 * (7 - i))) % 2 ^ (8 * (8 - (i + 1))) = 0 ∧ v + b * 2 ^ (8 * (7 - i)) < 2 ^ 63 := by
  have hpw : 2 ^ (8 * (8 - i)) = 256 * 2 ^ (8 * (7 - i)) := by rw [show 8 * (8 - i) = 8 * (7 - i) + 8 by omega, Nat.pow_add, Nat.mul_comm]
  have hpw2 : 2 ^ (8 * (7 - i)) ≤ 2 ^ 56 := Nat.pow_le_pow_right (by decide) (by omega)
  have hbm : b * 2 ^ (8 * (7 - i)) ≤ 126 * 2 ^ (8 * (7 - i)) := Nat.mul_le_mul_right _ (by omega)
  have hpos : 0 < 2 ^ (8 * (7 - i)) := Nat.two_pow_pos _
  have hdv : v = v / 2 ^ (8 * (8 - i)) * 2 ^ (8 * (8 - i)) := by
    have := Nat.div_add_mod v (2 ^ (8 * (8 - i)))
    rw [hv, Nat.add_zero, Nat.mul_comm] at this
    exact this.symm
  have hlt : b * 2 ^ (8 * (7 - i)) < 2 ^ (8 * (8 - i)) := by rw [hpw]; omega
  have hv2 : v + b * 2 ^ (8 * (7 - i)) < 2 ^ 63 := by
    by_cases h0 : i = 0
    · subst h0
      have : v = 0 := by
        rw [show 8 * (8 - 0) = 64 from rfl] at hdv hv
        omega
      rw [this]
      have : b * 2 ^ (8 * (7 - 0)) = b * 72057594037927936 := rfl
      omega
    · have hm63 : (2 ^ 63) % 2 ^ (8 * (8 - i)) = 0 := by
        rw [show 63 = (63 - 8 * (8 - i)) + 8 * (8 - i) by omega, Nat.pow_add, Nat.mul_mod_left]
      have hd63 : 2 ^ 63 = 2 ^ 63 / 2 ^ (8 * (8 - i)) * 2 ^ (8 * (8 - i)) := by
        have := Nat.div_add_mod (2 ^ 63) (2 ^ (8 * (8 - i)))
        rw [hm63, Nat.add_zero, Nat.mul_comm] at this
        exact this.symm
      have hq : v / 2 ^ (8 * (8 - i)) < 2 ^ 63 / 2 ^ (8 * (8 - i)) := by
        rw [hdv, hd63] at hv63
        exact Nat.lt_of_mul_lt_mul_right hv63
      have := Nat.mul_le_mul_right (2 ^ (8 * (8 - i))) hq
      rw [Nat.succ_mul, ← hd63, ← hdv] at this
      omega
  refine ⟨?_, ?_, hv2⟩
  · rw [hdv, g_or (k := 8 * (8 - i)) rfl hlt (by rw [← hdv]; omega)]
  · rw [show 8 - (i + 1) = 7 - i by omega, Nat.add_mul_mod_self_right]
    rw [hdv, hpw, ← Nat.mul_assoc, Nat.mul_mod_left]
section MRD2
variable {xs : List Value} {d : Nat} {h : zH} {M : Nat → zE} {F : Nat → Value} {Q : zO → zH → Prop} {B : List Nat} {fr : Nat} {N : List zNt}
theorem zc159 {p par k : Nat} {Ab : List Int32} (hl : 50 ≤ h.1.length) (hm : zMm M F B fr) (hN : zNr M F N fr) (hn : N.length < 100) (hB : B.length ≤ 2000) (hk : B[p]? = some k) (hA : M 18 = zAi Ab) (hA2 : Ab[N.length]? = some (nI par))
    (k0 : ∀ e, zhd B p par = .inl e → ∀ M' F', M' 10 = zMo F' → zSm [10, 13, 14, 15, 16, 21, 22] M M' → zNs M' → zSm [5, 8] F F' → F' 5 = .int (nI e) → Q (.inl (some (.int (-1)))) (zov h M'))
    (k1 : ∀ p' e, zhd B p par = .inr (p', e) → ∀ M' F', M' 10 = zMo F' → zNr M' F' (N ++ [e]) fr → zSm [10, 13, 14, 15, 16, 21, 22] M M' → zSm [8] F F' → Q (.inl (some (.int (nI (fr + p'))))) (zov h M')) : zG xs (d + 2) (159, 0, lv_args 0 [zo (some 10), .int (nI N.length), .int (nI (fr + p))], []) (zov h M) Q := by
  obtain ⟨n8, nle, So, Fi, Co, Ma, Ab', Hi, Lo, m13, m14, m15, m16, m18, m21, m22, l13, l14, l15, l16, l18, l21, l22, rows⟩ := hN
  have hBf : fr + B.length ≤ 8660 := hm.2.2.2.2.1
  have hpl : p < B.length := (List.getElem?_eq_some_iff.mp hk).1
  have m10 := hm.1
  have hR := hm.2.1
  -- refused
  have bad : ∀ (e : Nat) (M1 : Nat → zE) (F1 : Nat → Value), zMm M1 F1 B fr → zSm [10, 13, 14, 15, 16, 21, 22] M M1 → zNs M1 → zSm [5, 8] F F1 → zhd B p par = .inl e → zG xs (d + 1) (158, 0, lv_args 0 [zo (some 10), .int (nI (fr + e))], []) (zov h M1) (zKI (fun x h => Q (.inl (some (.int x))) h) (fun e h => Q (.inr e) h)) := by
    intro e M1 F1 a1 a2 a3 a4 he
    refine zc158b hl a1 (fun M' F' b1 b2 b3 b4 => zKI_v (k0 e he M' F' b1 (zSm_trans a2 b2 (by decide) (by decide)) ?_ (zSm_trans a4 b3 (by decide) (by decide)) b4))
    obtain ⟨So, Fi, Co, Ma, Ab, Hi, Lo, c1, c2, c3, c4, c5, c6, c7, c8⟩ := a3
    exact ⟨So, Fi, Co, Ma, Ab, Hi, Lo, by rw [b2 13 (by decide)]; exact c1, by rw [b2 14 (by decide)]; exact c2, by rw [b2 15 (by decide)]; exact c3, by rw [b2 16 (by decide)]; exact c4, by rw [b2 18 (by decide)]; exact c5, by rw [b2 21 (by decide)]; exact c6, by rw [b2 22 (by decide)]; exact c7, c8⟩
  have shp : zNs M := ⟨So, Fi, Co, Ma, Ab', Hi, Lo, m13, m14, m15, m16, m18, m21, m22, l13, l14, l15, l16, l18, l21, l22⟩
  -- what the node's row comes to
  have row : ∀ (e : zNt) (M1 : Nat → zE) (F1 : Nat → Value), F1 8 = .int (nI (N.length + 1)) → eA e = par → M1 13 = zAi (So.set N.length (nI (eS e))) → M1 14 = zAi (Fi.set N.length (nI (fr + eF e))) → M1 15 = zAi (Co.set N.length (nI (eC e))) → M1 16 = zAi (Ma.set N.length (nI (eM e))) → M1 18 = zAi Ab → M1 21 = zAl (Hi.set N.length (lN (eH e))) → M1 22 = zAl (Lo.set N.length (lN (eL e))) → zNr M1 F1 (N ++ [e]) fr := by
    intro e M1 F1 f8 eA1 t13 t14 t15 t16 t18 t21 t22
    have eAb : Ab' = Ab := by
      have : zAi Ab' = zAi Ab := m18.symm.trans hA
      unfold zAi at this
      injection this with this
      injection this with _ this
      exact (List.map_inj_right (fun a b hab => by injection hab)).mp this
    subst eAb
    refine ⟨by rw [f8, List.length_append, List.length_singleton], by rw [List.length_append, List.length_singleton]; omega, _, _, _, _, _, _, _, t13, t14, t15, t16, t18, t21, t22, by rw [List.length_set]; exact l13, by rw [List.length_set]; exact l14, by rw [List.length_set]; exact l15, by rw [List.length_set]; exact l16, l18, by rw [List.length_set]; exact l21, by rw [List.length_set]; exact l22, fun i e' hi => ?_⟩
    by_cases hil : i < N.length
    · rw [List.getElem?_append_left hil] at hi
      obtain ⟨c1, c2, c3, c4, c5, c6, c7⟩ := rows i e' hi
      rw [List.getElem?_set_ne (by omega), List.getElem?_set_ne (by omega), List.getElem?_set_ne (by omega), List.getElem?_set_ne (by omega), List.getElem?_set_ne (by omega), List.getElem?_set_ne (by omega)]
      exact ⟨c1, c2, c3, c4, c5, c6, c7⟩
    · have hil2 := (List.getElem?_eq_some_iff.mp hi).1
      rw [List.length_append, List.length_singleton] at hil2
      obtain rfl : i = N.length := by omega
      rw [List.getElem?_append_right (Nat.le_refl _), Nat.sub_self] at hi
      obtain rfl : e = e' := Option.some.inj hi
      rw [List.getElem?_set_self (by omega), List.getElem?_set_self (by omega), List.getElem?_set_self (by omega), List.getElem?_set_self (by omega), List.getElem?_set_self (by omega), List.getElem?_set_self (by omega), eA1]
      exact ⟨rfl, rfl, rfl, rfl, hA2, rfl, rfl⟩
  -- behind the first stores
  obtain ⟨M1, eM1⟩ : ∃ M1 : Nat → Nat → zE, M1 = fun so => zub (zub (zub (zub (zub (zub (zub M 13 (zAi (So.set N.length (nI so)))) 14 (zAi (Fi.set N.length (nI (fr + p))))) 15 (zAi (Co.set N.length 0))) 16 (zAi (Ma.set N.length 0))) 21 (zAl (Hi.set N.length 0))) 22 (zAl (Lo.set N.length 0))) 10 (zMo (zub F 8 (.int (nI (N.length + 1))))) := ⟨_, rfl⟩
  have x13 : ∀ so, M1 so 13 = zAi (So.set N.length (nI so)) := fun so => by rw [eM1]; simp [zub]
  have x14 : ∀ so, M1 so 14 = zAi (Fi.set N.length (nI (fr + p))) := fun so => by rw [eM1]; simp [zub]
  have x15 : ∀ so, M1 so 15 = zAi (Co.set N.length 0) := fun so => by rw [eM1]; simp [zub]
  have x16 : ∀ so, M1 so 16 = zAi (Ma.set N.length 0) := fun so => by rw [eM1]; simp [zub]
  have x18 : ∀ so, M1 so 18 = zAi Ab := fun so => by rw [eM1]; simp [zub, hA]
  have x21 : ∀ so, M1 so 21 = zAl (Hi.set N.length 0) := fun so => by rw [eM1]; simp [zub]
  have x22 : ∀ so, M1 so 22 = zAl (Lo.set N.length 0) := fun so => by rw [eM1]; simp [zub]
  have x10 : ∀ so, M1 so 10 = zMo (zub F 8 (.int (nI (N.length + 1)))) := fun so => by rw [eM1]; simp [zub]
  have sF : zSm [8] F (zub F 8 (.int (nI (N.length + 1)))) := zSm_ub zSm_refl (by decide)
  have sM : ∀ so, zSm [10, 13, 14, 15, 16, 21, 22] M (M1 so) := fun so => by
    rw [eM1]
    exact zSm_ub (zSm_ub (zSm_ub (zSm_ub (zSm_ub (zSm_ub (zSm_ub zSm_refl (by decide)) (by decide)) (by decide)) (by decide)) (by decide)) (by decide)) (by decide)
  have mm : ∀ so, zMm (M1 so) (zub F 8 (.int (nI (N.length + 1)))) B fr := fun so => zMm_sm hm (x10 so) (sM so) sF (by decide) (by decide)
  have ns : ∀ so, zNs (M1 so) := fun so => ⟨_, _, _, _, _, _, _, x13 so, x14 so, x15 so, x16 so, x18 so, x21 so, x22 so, by rw [List.length_set]; exact l13, by rw [List.length_set]; exact l14, by rw [List.length_set]; exact l15, by rw [List.length_set]; exact l16, by
    have eAb : Ab' = Ab := by
      have : zAi Ab' = zAi Ab := m18.symm.trans hA
      unfold zAi at this
      injection this with this
      injection this with _ this
      exact (List.map_inj_right (fun a b hab => by injection hab)).mp this
    rw [← eAb]; exact l18, by rw [List.length_set]; exact l21, by rw [List.length_set]; exact l22⟩
  have R1 := zRf_sm hR sF (by decide)
  -- the text's characters: i of c so far, v
  refine zm_159 (fun m l0 l1 l2 l3 l4 l5 h1 => ∃ M2 c i v, m = c - i ∧ l0 = some 10 ∧ l1 = nI N.length ∧ l2 = nI (fr + p) ∧ l3 = nI k ∧ l4 = nI c ∧ l5 = nI i ∧ h1 = zov h M2 ∧ i ≤ c ∧ c < 256 ∧ M2 10 = zMo (zub F 8 (.int (nI (N.length + 1)))) ∧ zSm [10, 13, 14, 15, 16, 21, 22] M M2 ∧ zNs M2 ∧ ((k = 1 ∧ c ≤ 8 ∧ zhd B p par = (match zptx B (c - i) i (p + 2 + i) v with | .inl e => .inl e | .inr v => .inr (p + 2 + c, (1, p, c, 0, 0, v, par))) ∧ v % 2 ^ (8 * (8 - i)) = 0 ∧ v < 2 ^ 63 ∧ p + 2 + i ≤ B.length ∧ M2 13 = zAi (So.set N.length (nI 1)) ∧ M2 14 = zAi (Fi.set N.length (nI (fr + p))) ∧ M2 15 = zAi (Co.set N.length (nI c)) ∧ M2 16 = zAi (Ma.set N.length (nI 0)) ∧ M2 18 = zAi Ab ∧ M2 21 = zAl (Hi.set N.length (lN 0)) ∧ M2 22 = zAl (Lo.set N.length (lN v))) ∨ (k ≠ 1 ∧ ∃ e, zhd B p par = .inr (p + 2, e) ∧ zNr M2 (zub F 8 (.int (nI (N.length + 1)))) (N ++ [e]) fr))) ?_ ?_
  · rintro m l0 l1 l2 l3 l4 l5 h1 ⟨M2, c, i, v, rfl, rfl, rfl, rfl, rfl, rfl, rfl, rfl, hic, hc256, y10, ySm, yNs, hc⟩
    have ym := zMm_sm hm y10 ySm sF (by decide) (by decide)
    have ek1 : nI k = 1 ↔ k = 1 := nI_eq (b := 1) (by have := hm.2.2.2.2.2; obtain ⟨_, _, _, q⟩ := this; have := (q p k hk).1; omega) (by decide)
    rcases hc with ⟨c1, c2, c3, c4, c5, c6, y13, y14, y15, y16, y18, y21, y22⟩ | ⟨c1, e, c3, c4⟩
    · refine ⟨fun z => ⟨fun _ => ?_, fun z2 => absurd (ek1.mpr c1) z2⟩, fun z => ?_⟩
      · have hicl : i < c := (nI_ltI (by omega) (by omega)).mp z
        intro x hx
        have hx : x = nI (fr + (p + 2 + i)) := by rw [hx, show (2 : Int32) = nI 2 from rfl, nI_add, nI_add]; congr 1; omega
        subst hx
        rw [show c - i = (c - (i + 1)) + 1 by omega, zptx] at c3
        refine zM_gi hl y10 (x := nI (fr + B.length)) (by rw [zub_n (by decide)]; exact hm.2.2.2.1) ⟨fun z2 => ?_, fun z2 => ?_⟩
        · have hpB : p + 2 + i < B.length := by have := (nI_ltI (by omega) (by omega)).mp z2; omega
          obtain ⟨b, hb⟩ : ∃ b, B[p + 2 + i]? = some b := ⟨_, List.getElem?_eq_getElem hpB⟩
          rw [hb] at c3
          dsimp only at c3
          have badc : (b < 32 ∨ 126 < b) → ∀ J, zw_159_251 xs (d + 2) Q J (some 10) (nI (fr + (p + 2 + i))) (zov h M2) := by
            intro hbb J
            rw [if_pos hbb] at c3
            exact zM_cv hl y10 (bad (p + 2 + i) M2 _ ym ySm yNs (zSm_mono sF (by decide)) c3)
          refine zMm_at hl ym hb (fun hb256 => ⟨fun z3 => badc (Or.inl ((nI_ltI (b := 32) (by omega) (by decide)).mp z3)) _, fun z3 => zMm_at hl ym hb (fun _ => ⟨fun z4 => badc (Or.inr ((nI_ltI (a := 126) (by decide) (by omega)).mp z4)) _, fun z4 => ?_⟩)⟩)
          have h32 : ¬ b < 32 := fun q => z3 ((nI_ltI (b := 32) (by omega) (by decide)).mpr q)
          have h126 : ¬ 126 < b := fun q => z4 ((nI_ltI (a := 126) (by decide) (by omega)).mpr q)
          rw [if_neg (by omega)] at c3
          have hi8 : i < 8 := by omega
          obtain ⟨t1, t2, t3⟩ := ztxt_or hi8 h126 c4 c5
          refine zM_gr hl y10 (R1 (18, 22) (by decide)) (zM_la (L := Lo.set N.length (lN v)) (j := N.length) hl y22 (List.getElem?_set_self (by omega)) ?_)
          refine zMm_at hl ym hb (fun _ => ?_)
          rw [show (7 : Int32) - nI i = nI (7 - i) from pk_sub (a := 7) (by omega), show (8 : Int32) * nI (7 - i) = nI (8 * (7 - i)) from pk_mul 8 (7 - i), nI_l (by omega), wb_shl _ (by omega), t1]
          refine zM_stl (L := Lo.set N.length (lN v)) hl y22 (by rw [List.length_set]; omega) (by rw [List.length_set]; omega) ?_
          rw [List.set_set]
          intro y hy
          refine ⟨c - (i + 1), by omega, _, c, i + 1, v + b * 2 ^ (8 * (7 - i)), rfl, rfl, rfl, rfl, rfl, rfl, by rw [hy, nI_1], rfl, hicl, hc256, by rw [zub_n (by decide)]; exact y10, zSm_ub ySm (by decide), ?_, Or.inl ⟨c1, c2, c3, t2, t3, by omega, by rw [zub_n (by decide)]; exact y13, by rw [zub_n (by decide)]; exact y14, by rw [zub_n (by decide)]; exact y15, by rw [zub_n (by decide)]; exact y16, by rw [zub_n (by decide)]; exact y18, by rw [zub_n (by decide)]; exact y21, zub_s⟩⟩
          obtain ⟨So', Fi', Co', Ma', Ab2, Hi', Lo', d1, d2, d3, d4, d5, d6, d7, d8, d9, d10, d11, d12, d13, d14⟩ := yNs
          exact ⟨So', Fi', Co', Ma', Ab2, Hi', _, by rw [zub_n (by decide)]; exact d1, by rw [zub_n (by decide)]; exact d2, by rw [zub_n (by decide)]; exact d3, by rw [zub_n (by decide)]; exact d4, by rw [zub_n (by decide)]; exact d5, by rw [zub_n (by decide)]; exact d6, zub_s, d8, d9, d10, d11, d12, d13, by rw [List.length_set]; exact l22⟩
        · have hpB : p + 2 + i = B.length := by
            have := mt (nI_ltI (a := fr + (p + 2 + i)) (b := fr + B.length) (by omega) (by omega)).mpr z2
            omega
          rw [List.getElem?_eq_none (by omega)] at c3
          refine zM_cv hl y10 (bad (p + 2 + i) M2 _ ym ySm yNs (zSm_mono sF (by decide)) ?_)
          rw [hpB]
          exact c3
      · have hicl : i = c := by
          have := mt (nI_ltI (a := i) (b := c) (by omega) (by omega)).mpr z
          omega
        subst hicl
        rw [Nat.sub_self, zptx] at c3
        refine ⟨fun _ => ?_, fun z2 => absurd (ek1.mpr c1) z2⟩
        rw [show (2 : Int32) = nI 2 from rfl, nI_add, nI_add, show fr + p + 2 + i = fr + (p + 2 + i) by omega]
        exact k1 _ _ c3 M2 _ y10 (row (1, p, i, 0, 0, v, par) M2 _ zub_s rfl y13 y14 y15 y16 y18 y21 y22) ySm sF
    · have nk1 : ¬ nI k = 1 := fun q => c1 (ek1.mp q)
      have fin : ∀ J, zw_159_290 xs (d + 2) Q J (nI (fr + p)) (nI k) (nI c) (zov h M2) := by
        intro J
        refine ⟨fun z2 => absurd z2 nk1, fun _ => ?_⟩
        rw [show (2 : Int32) = nI 2 from rfl, nI_add, show fr + p + 2 = fr + (p + 2) by omega]
        exact k1 _ _ c3 M2 _ y10 c4 ySm sF
      exact ⟨fun z => ⟨fun z2 => absurd z2 nk1, fun _ => fin _⟩, fun z => fin _⟩
  · obtain ⟨_, _, _, hq⟩ := hm.2.2.2.2.2
    have hk256 : k < 256 := (hq p k hk).1
    clear hq
    have kn : ∀ c, c < 256 → (nI k = nI c ↔ k = c) := fun c hc => nI_eq (by omega) (by omega)
    have ez : zhd B p par = if k = 3 ∨ 7 < k then .inl p
        else if k = 0 then (match zpnu B (p + 1) with
          | .inl e => .inl e
          | .inr (p', s, v) => .inr (p', (0, p, s, 0, v / 1152921504606846976, v % 1152921504606846976, par)))
        else match B[p + 1]? with
          | none => .inl B.length
          | some c =>
            if k = 1 then (if 8 < c then .inl (p + 1) else match zptx B c 0 (p + 2) 0 with
              | .inl e => .inl e
              | .inr v => .inr (p + 2 + c, (1, p, c, 0, 0, v, par)))
            else if k = 2 then (if 40 < c then .inl (p + 1) else .inr (p + 2, (2, p, c, c, 0, 0, par)))
            else .inr (p + 2, (3, p, c, k - 4, 0, 0, par)) := by
      unfold zhd
      rw [hk]
    have b18 : (k = 3 ∨ 7 < k) → ∀ J, zw_159_18 xs (d + 2) Q J (some 10) (nI (fr + p)) (zov h M) := fun hc J => zM_cv hl m10 (bad p M F hm zSm_refl shp zSm_refl (by rw [ez, if_pos hc]))
    have st39 : ∀ so, so = (if 3 < k then 3 else k) → ¬ (k = 3 ∨ 7 < k) → ∀ J : zP → Int32 → Int32 → Int32 → Int32 → Int32 → zH → Prop, (∀ M2 c, M2 10 = zMo (zub F 8 (.int (nI (N.length + 1)))) → c < 256 → zSm [10, 13, 14, 15, 16, 21, 22] M M2 → zNs M2 → ((k = 1 ∧ c ≤ 8 ∧ zhd B p par = (match zptx B c 0 (p + 2) 0 with | .inl e => .inl e | .inr v => .inr (p + 2 + c, (1, p, c, 0, 0, v, par))) ∧ p + 2 ≤ B.length ∧ M2 13 = zAi (So.set N.length (nI 1)) ∧ M2 14 = zAi (Fi.set N.length (nI (fr + p))) ∧ M2 15 = zAi (Co.set N.length (nI c)) ∧ M2 16 = zAi (Ma.set N.length (nI 0)) ∧ M2 18 = zAi Ab ∧ M2 21 = zAl (Hi.set N.length (lN 0)) ∧ M2 22 = zAl (Lo.set N.length (lN 0))) ∨ (k ≠ 1 ∧ ∃ e, zhd B p par = .inr (p + 2, e) ∧ zNr M2 (zub F 8 (.int (nI (N.length + 1)))) (N ++ [e]) fr)) → J (some 10) (nI N.length) (nI (fr + p)) (nI k) (nI c) 0 (zov h M2)) → zw_159_39 xs (d + 2) Q J (some 10) (nI N.length) (nI (fr + p)) (nI k) (nI so) (nI N.length) (some 13) (zov h M) := by
      intro so hso h37 J hJ
      rw [if_neg h37] at ez
      refine zM_st' hl m13 (by omega) (by omega) ?_
      refine zM_gr hl (by simp [zub, m10]) (hR (10, 14) (by decide)) (zM_st' (L := Fi) hl (by simp [zub, m14]) (by omega) (by omega) ?_)
      refine zM_gr hl (by simp [zub, m10]) (hR (11, 15) (by decide)) (zM_st' (L := Co) hl (by simp [zub, m15]) (by omega) (by omega) ?_)
      refine zM_gr hl (by simp [zub, m10]) (hR (12, 16) (by decide)) (zM_st' (L := Ma) hl (by simp [zub, m16]) (by omega) (by omega) ?_)
      refine zM_gr hl (by simp [zub, m10]) (hR (17, 21) (by decide)) (zM_stl (L := Hi) hl (by simp [zub, m21]) (by omega) (by omega) ?_)
      refine zM_gr hl (by simp [zub, m10]) (hR (18, 22) (by decide)) (zM_stl (L := Lo) hl (by simp [zub, m22]) (by omega) (by omega) ?_)
      refine zM_gi hl (F := F) (by simp [zub, m10]) n8 (zM_pf hl (F := F) (by simp [zub, m10]) ?_)
      rw [nI_1 N.length]
      have eM := congrFun eM1 so
      rw [← eM]
      refine ⟨fun z => ?_, fun z => ?_⟩
      · have k0' : k = 0 := (kn 0 (by decide)).mp z
        rw [if_pos k0'] at ez
        have so0 : so = 0 := by rw [hso, k0']; rfl
        subst so0
        rw [nI_1, show fr + p + 1 = fr + (p + 1) by omega]
        refine zM_cv hl (x10 0) (zc160 (d := d) (Hi := Hi.set N.length 0) (Lo := Lo.set N.length 0) (Co := Co.set N.length 0) hl (mm 0) hn (x21 0) (x22 0) (x15 0) (by rw [List.length_set]; exact l21) (by rw [List.length_set]; exact l22) (by rw [List.length_set]; exact l15) (List.getElem?_set_self (by omega)) (List.getElem?_set_self (by omega)) (by omega) hB ?_ ?_)
        · intro e he M' F' a1 a2 a3 a4 a5
          rw [he] at ez
          obtain ⟨Hi', Lo', Co', b1, b2, b3, b4, b5, b6⟩ := a3
          obtain ⟨So', Fi', Co2, Ma', Ab2, Hi2, Lo2, d1, d2, d3, d4, d5, d6, d7, d8, d9, d10, d11, d12, d13, d14⟩ := ns 0
          refine zKI_v (k0 e ez M' F' a1 (zSm_trans (sM 0) a2 (by decide) (by decide)) ⟨So', Fi', Co', Ma', Ab2, Hi', Lo', by rw [a2 13 (by decide)]; exact d1, by rw [a2 14 (by decide)]; exact d2, b3, by rw [a2 16 (by decide)]; exact d4, by rw [a2 18 (by decide)]; exact d5, b1, b2, d8, d9, b6, d11, d12, b4, b5⟩ (zSm_trans sF a4 (by decide) (by decide)) a5)
        · intro p' s v he M' a1 a2 a3 a4
          rw [he] at ez
          rw [List.set_set] at a2 a3 a4
          refine zKI_v (k1 p' _ ez M' _ (by rw [a1 10 (by decide)]; exact x10 0) (row (0, p, s, 0, v / 1152921504606846976, v % 1152921504606846976, par) M' _ zub_s rfl (by rw [a1 13 (by decide)]; exact x13 0) (by rw [a1 14 (by decide)]; exact x14 0) a4 (by rw [a1 16 (by decide)]; exact x16 0) (by rw [a1 18 (by decide)]; exact x18 0) a2 a3) (zSm_trans (sM 0) a1 (by decide) (by decide)) sF)
      · have k0' : k ≠ 0 := fun q => z ((kn 0 (by decide)).mpr q)
        rw [if_neg k0'] at ez
        refine zM_gi hl (x10 so) (x := nI (fr + B.length)) (by rw [zub_n (by decide)]; exact hm.2.2.2.1) ?_
        rw [nI_1, show fr + p + 1 = fr + (p + 1) by omega]
        refine ⟨fun z2 => ?_, fun z2 => ?_⟩
        · have hpB : p + 1 < B.length := by have := (nI_ltI (by omega) (by omega)).mp z2; omega
          obtain ⟨c, hc⟩ : ∃ c, B[p + 1]? = some c := ⟨_, List.getElem?_eq_getElem hpB⟩
          rw [hc] at ez
          dsimp only at ez
          refine zMm_at hl (mm so) hc (fun hc256 => ?_)
          have b151 : zhd B p par = .inl (p + 1) → zw_159_151 xs (d + 2) Q J (some 10) (nI (fr + p)) (zov h (M1 so)) := by
            intro he
            show zCV _ _ _ _ _ _ _ _
            rw [nI_1, show fr + p + 1 = fr + (p + 1) by omega]
            exact zM_cv hl (x10 so) (bad (p + 1) (M1 so) _ (mm so) (sM so) (ns so) (zSm_mono sF (by decide)) he)
          -- the code and the parts are kept
          have keep : ∀ mn : Nat, mn = (if k = 1 then 0 else if k = 2 then c else k - 4) → (k = 1 → c ≤ 8) → (k = 2 → c ≤ 40) → zw_159_159 xs (d + 2) Q J (some 10) (nI N.length) (nI (fr + p)) (nI k) (nI c) (zov h (M1 so)) := by
            intro mn hmn h8 h40
            refine zM_gr hl (x10 so) (R1 (11, 15) (by decide)) (zM_st' (L := Co.set N.length 0) hl (x15 so) (by rw [List.length_set]; omega) (by rw [List.length_set]; omega) ?_)
            rw [List.set_set]
            refine zM_gr hl (by rw [zub_n (by decide)]; exact x10 so) (R1 (12, 16) (by decide)) ?_
            have fin : ∀ x, x = nI mn → zw_159_194 xs (d + 2) Q J (some 10) (nI N.length) (nI (fr + p)) (nI k) (nI c) x (nI N.length) (some 16) (zov h (zub (M1 so) 15 (zAi (Co.set N.length (nI c))))) := by
              intro x hx
              subst hx
              refine zM_st' (L := Ma.set N.length 0) hl (by rw [zub_n (by decide)]; exact x16 so) (by rw [List.length_set]; omega) (by rw [List.length_set]; omega) ?_
              rw [List.set_set]
              have w13 : zub (zub (M1 so) 15 (zAi (Co.set N.length (nI c)))) 16 (zAi (Ma.set N.length (nI mn))) 13 = zAi (So.set N.length (nI so)) := by rw [zub_n (by decide), zub_n (by decide)]; exact x13 so
              have w14 : zub (zub (M1 so) 15 (zAi (Co.set N.length (nI c)))) 16 (zAi (Ma.set N.length (nI mn))) 14 = zAi (Fi.set N.length (nI (fr + p))) := by rw [zub_n (by decide), zub_n (by decide)]; exact x14 so
              have w15 : zub (zub (M1 so) 15 (zAi (Co.set N.length (nI c)))) 16 (zAi (Ma.set N.length (nI mn))) 15 = zAi (Co.set N.length (nI c)) := by rw [zub_n (by decide), zub_s]
              have w18 : zub (zub (M1 so) 15 (zAi (Co.set N.length (nI c)))) 16 (zAi (Ma.set N.length (nI mn))) 18 = zAi Ab := by rw [zub_n (by decide), zub_n (by decide)]; exact x18 so
              have w21 : zub (zub (M1 so) 15 (zAi (Co.set N.length (nI c)))) 16 (zAi (Ma.set N.length (nI mn))) 21 = zAl (Hi.set N.length (lN 0)) := by rw [zub_n (by decide), zub_n (by decide)]; exact x21 so
              have w22 : zub (zub (M1 so) 15 (zAi (Co.set N.length (nI c)))) 16 (zAi (Ma.set N.length (nI mn))) 22 = zAl (Lo.set N.length (lN 0)) := by rw [zub_n (by decide), zub_n (by decide)]; exact x22 so
              refine hJ _ c (by rw [zub_n (by decide), zub_n (by decide)]; exact x10 so) hc256 (zSm_ub (zSm_ub (sM so) (by decide)) (by decide)) ?_ ?_
              · obtain ⟨So', Fi', Co2, Ma', Ab2, Hi2, Lo2, d1, d2, d3, d4, d5, d6, d7, d8, d9, d10, d11, d12, d13, d14⟩ := ns so
                exact ⟨So', Fi', _, _, Ab2, Hi2, Lo2, by rw [zub_n (by decide), zub_n (by decide)]; exact d1, by rw [zub_n (by decide), zub_n (by decide)]; exact d2, w15, zub_s, by rw [zub_n (by decide), zub_n (by decide)]; exact d5, by rw [zub_n (by decide), zub_n (by decide)]; exact d6, by rw [zub_n (by decide), zub_n (by decide)]; exact d7, d8, d9, by rw [List.length_set]; exact l15, by rw [List.length_set]; exact l16, d12, d13, d14⟩
              · by_cases hk1 : k = 1
                · rw [if_pos hk1, if_neg (by have := h8 hk1; omega)] at ez
                  rw [if_pos hk1] at hmn
                  have hs1 : so = 1 := by rw [hso, hk1]; rfl
                  rw [hs1] at w13 w14 w15 w18 w21 w22 ⊢
                  rw [hmn]
                  rw [hmn] at w13 w14 w15 w18 w21 w22
                  exact Or.inl ⟨hk1, h8 hk1, ez, by omega, w13, w14, w15, zub_s, w18, w21, w22⟩
                · rw [if_neg hk1] at ez hmn
                  refine Or.inr ⟨hk1, ?_⟩
                  by_cases hk2 : k = 2
                  · rw [if_pos hk2, if_neg (by have := h40 hk2; omega)] at ez
                    rw [if_pos hk2] at hmn
                    have hs2 : so = 2 := by rw [hso, hk2]; rfl
                    refine ⟨_, ez, row (2, p, c, c, 0, 0, par) _ _ zub_s rfl (by rw [w13, hs2]; rfl) w14 w15 (by rw [zub_s, hmn]; rfl) w18 w21 w22⟩
                  · rw [if_neg hk2] at ez hmn
                    have hs3 : so = 3 := by rw [hso, if_pos (by omega)]
                    refine ⟨_, ez, row (3, p, c, k - 4, 0, 0, par) _ _ zub_s rfl (by rw [w13, hs3]; rfl) w14 w15 (by rw [zub_s, hmn]; rfl) w18 w21 w22⟩
            refine ⟨fun z3 => fin _ ?_, fun z3 => ⟨fun z4 => fin _ ?_, fun z4 => fin _ ?_⟩⟩
            · rw [hmn, if_pos ((kn 1 (by decide)).mp z3)]; rfl
            · rw [hmn, if_neg (fun q => z3 ((kn 1 (by decide)).mpr q)), if_pos ((kn 2 (by decide)).mp z4)]
            · have q1 : k ≠ 1 := fun q => z3 ((kn 1 (by decide)).mpr q)
              have q2 : k ≠ 2 := fun q => z4 ((kn 2 (by decide)).mpr q)
              rw [hmn, if_neg q1, if_neg q2]
              exact pk_sub (b := 4) (by omega)
          have c139 : (k = 1 → c ≤ 8) → zw_159_139 xs (d + 2) Q J (some 10) (nI N.length) (nI (fr + p)) (nI k) (nI c) (zov h (M1 so)) := by
            intro h8
            refine ⟨fun z3 => ⟨fun z4 => b151 ?_, fun z4 => keep _ rfl h8 (fun _ => ?_)⟩, fun z3 => keep _ rfl h8 (fun q => absurd ((kn 2 (by decide)).mpr q) z3)⟩
            · have q2 := (kn 2 (by decide)).mp z3
              have q40 : 40 < c := (nI_ltI (a := 40) (by decide) (by omega)).mp z4
              rw [if_neg (by omega), if_pos q2, if_pos q40] at ez
              exact ez
            · have := mt (nI_ltI (a := 40) (b := c) (by decide) (by omega)).mpr z4
              omega
          refine ⟨fun z3 => ⟨fun z4 => b151 ?_, fun z4 => c139 (fun _ => ?_)⟩, fun z3 => c139 (fun q => absurd ((kn 1 (by decide)).mpr q) z3)⟩
          · have q1 := (kn 1 (by decide)).mp z3
            have q8 : 8 < c := (nI_ltI (a := 8) (by decide) (by omega)).mp z4
            rw [if_pos q1, if_pos q8] at ez
            exact ez
          · have := mt (nI_ltI (a := 8) (b := c) (by decide) (by omega)).mpr z4
            omega
        · have hpB : p + 1 = B.length := by
            have := mt (nI_ltI (a := fr + (p + 1)) (b := fr + B.length) (by omega) (by omega)).mpr z2
            omega
          rw [List.getElem?_eq_none (by omega)] at ez
          refine zM_gi hl (x10 so) (x := nI (fr + B.length)) (by rw [zub_n (by decide)]; exact hm.2.2.2.1) ?_
          exact zM_cv hl (x10 so) (bad B.length (M1 so) _ (mm so) (sM so) (ns so) (zSm_mono sF (by decide)) ez)
    have inv : ∀ M2 c, M2 10 = zMo (zub F 8 (.int (nI (N.length + 1)))) → c < 256 → zSm [10, 13, 14, 15, 16, 21, 22] M M2 → zNs M2 → ((k = 1 ∧ c ≤ 8 ∧ zhd B p par = (match zptx B c 0 (p + 2) 0 with | .inl e => .inl e | .inr v => .inr (p + 2 + c, (1, p, c, 0, 0, v, par))) ∧ p + 2 ≤ B.length ∧ M2 13 = zAi (So.set N.length (nI 1)) ∧ M2 14 = zAi (Fi.set N.length (nI (fr + p))) ∧ M2 15 = zAi (Co.set N.length (nI c)) ∧ M2 16 = zAi (Ma.set N.length (nI 0)) ∧ M2 18 = zAi Ab ∧ M2 21 = zAl (Hi.set N.length (lN 0)) ∧ M2 22 = zAl (Lo.set N.length (lN 0))) ∨ (k ≠ 1 ∧ ∃ e, zhd B p par = .inr (p + 2, e) ∧ zNr M2 (zub F 8 (.int (nI (N.length + 1)))) (N ++ [e]) fr)) → ∃ n1, ∃ M3 c' i v, n1 = c' - i ∧ (some 10 : zP) = some 10 ∧ nI N.length = nI N.length ∧ nI (fr + p) = nI (fr + p) ∧ nI k = nI k ∧ nI c = nI c' ∧ (0 : Int32) = nI i ∧ zov h M2 = zov h M3 ∧ i ≤ c' ∧ c' < 256 ∧ M3 10 = zMo (zub F 8 (.int (nI (N.length + 1)))) ∧ zSm [10, 13, 14, 15, 16, 21, 22] M M3 ∧ zNs M3 ∧ ((k = 1 ∧ c' ≤ 8 ∧ zhd B p par = (match zptx B (c' - i) i (p + 2 + i) v with | .inl e => .inl e | .inr v => .inr (p + 2 + c', (1, p, c', 0, 0, v, par))) ∧ v % 2 ^ (8 * (8 - i)) = 0 ∧ v < 2 ^ 63 ∧ p + 2 + i ≤ B.length ∧ M3 13 = zAi (So.set N.length (nI 1)) ∧ M3 14 = zAi (Fi.set N.length (nI (fr + p))) ∧ M3 15 = zAi (Co.set N.length (nI c')) ∧ M3 16 = zAi (Ma.set N.length (nI 0)) ∧ M3 18 = zAi Ab ∧ M3 21 = zAl (Hi.set N.length (lN 0)) ∧ M3 22 = zAl (Lo.set N.length (lN v))) ∨ (k ≠ 1 ∧ ∃ e, zhd B p par = .inr (p + 2, e) ∧ zNr M3 (zub F 8 (.int (nI (N.length + 1)))) (N ++ [e]) fr)) := by
      intro M2 c a1 a2 a3 a4 a5
      refine ⟨c, M2, c, 0, 0, by omega, rfl, rfl, rfl, rfl, rfl, rfl, rfl, by omega, a2, a1, a3, a4, ?_⟩
      rcases a5 with ⟨b1, b2, b3, b4, b5⟩ | b
      · exact Or.inl ⟨b1, b2, b3, rfl, by decide, b4, b5⟩
      · exact Or.inr b
    refine zMm_at hl hm hk (fun _ => ⟨fun z => b18 (Or.inl ((kn 3 (by decide)).mp z)) _, fun z => ⟨fun z2 => b18 (Or.inr ((nI_ltI (a := 7) (by decide) (by omega)).mp z2)) _, fun z2 => zM_gr hl m10 (hR (9, 13) (by decide)) ⟨fun z3 => ?_, fun z3 => ?_⟩⟩⟩)
    · have q3 : k ≠ 3 := fun q => z ((kn 3 (by decide)).mpr q)
      have q7 : ¬ 7 < k := fun q => z2 ((nI_ltI (a := 7) (by decide) (by omega)).mpr q)
      have g3 : 3 < k := (nI_ltI (a := 3) (by decide) (by omega)).mp z3
      exact st39 3 (by rw [if_pos g3]) (by omega) _ inv
    · have q3 : k ≠ 3 := fun q => z ((kn 3 (by decide)).mpr q)
      have q7 : ¬ 7 < k := fun q => z2 ((nI_ltI (a := 7) (by decide) (by omega)).mpr q)
      have g3 : ¬ 3 < k := fun q => z3 ((nI_ltI (a := 3) (by decide) (by omega)).mpr q)
      exact st39 k (by rw [if_neg g3]) (by omega) _ inv
end MRD2
/-! the reference reads nodes: a stack of the nodes that are open (the innermost first), each with how many parts are to come -/
def zres (B : List Nat) (w : Nat) : List (Nat × Nat) → Nat → List zNt → Nat ⊕ (Nat × List zNt)
  | [], at_, N => zpns (zpn B 9 4294967295) w at_ N
  | (o, c) :: st, at_, N => match zpns (zpn B (8 - st.length) o) c at_ N with
    | .inl e => .inl e
    | .inr (a, N2) => zres B w st a N2
/-- the node that the next one belongs to -/
def zpar (st : List (Nat × Nat)) : Nat := match st with
  | [] => 4294967295
  | (o, _) :: _ => o
/-- one part less is to come -/
def zless (st : List (Nat × Nat)) : List (Nat × Nat) := match st with
  | [] => []
  | (o, c) :: st => (o, c - 1) :: st
def zmore (st : List (Nat × Nat)) (w : Nat) : Prop := match st with
  | [] => 1 ≤ w
  | (_, c) :: _ => 1 ≤ c
theorem zless_len (st : List (Nat × Nat)) : (zless st).length = st.length := by
  unfold zless; split <;> rfl
theorem zres_hd {B : List Nat} {w at_ : Nat} {N : List zNt} (st : List (Nat × Nat)) (hm : zmore st w) (hd : st.length ≤ 8) : zres B w st at_ N = match B[at_]? with
  | none => .inl B.length
  | some _ => if 100 ≤ N.length then .inl at_ else match zhd B at_ (zpar st) with
    | .inl e => .inl e
    | .inr (p, e) => zres B (if st = [] then w - 1 else w) ((N.length, eM e) :: zless st) p (N ++ [e]) := by
  cases st with
  | nil =>
    obtain ⟨w, rfl⟩ : ∃ v, w = v + 1 := ⟨w - 1, by have : 1 ≤ w := hm; omega⟩
    rw [zres, zpns, zpn_hd]
    cases B[at_]? with
    | none => rfl
    | some k =>
      dsimp only
      by_cases h100 : 100 ≤ N.length
      · rw [if_pos h100, if_pos h100]
      · rw [if_neg h100, if_neg h100]
        rw [show zpar [] = 4294967295 from rfl]
        cases zhd B at_ 4294967295 with
        | inl e => rfl
        | inr q =>
          obtain ⟨p, e⟩ := q
          dsimp only
          rw [if_pos rfl, zres]
          rfl
  | cons oc st =>
    obtain ⟨o, c⟩ := oc
    have hd : st.length + 1 ≤ 8 := hd
    obtain ⟨c, rfl⟩ : ∃ v, c = v + 1 := ⟨c - 1, by have : 1 ≤ c := hm; omega⟩
    rw [zres, zpns, show 8 - st.length = (7 - st.length) + 1 by omega, zpn_hd]
    cases B[at_]? with
    | none => rfl
    | some k =>
      dsimp only
      by_cases h100 : 100 ≤ N.length
      · rw [if_pos h100, if_pos h100]
      · rw [if_neg h100, if_neg h100]
        rw [show zpar ((o, c + 1) :: st) = o from rfl]
        cases zhd B at_ o with
        | inl e => rfl
        | inr q =>
          obtain ⟨p, e⟩ := q
          dsimp only
          rw [if_neg (by simp), zres, show 8 - (zless ((o, c + 1) :: st)).length = 7 - st.length by rw [zless_len, List.length_cons]; omega]
          cases zpns (zpn B (7 - st.length) N.length) (eM e) p (N ++ [e]) with
          | inl e => rfl
          | inr q =>
            obtain ⟨p2, N2⟩ := q
            dsimp only
            show _ = zres B w ((o, c) :: st) p2 N2
            rw [zres, show 8 - st.length = 7 - st.length + 1 by omega]
theorem zres_deep {B : List Nat} {w at_ : Nat} {N : List zNt} (st : List (Nat × Nat)) (hm : zmore st w) (hd : st.length = 9) : zres B w st at_ N = match B[at_]? with
  | none => .inl B.length
  | some _ => .inl at_ := by
  cases st with
  | nil => cases hd
  | cons oc st =>
    obtain ⟨o, c⟩ := oc
    have hd : st.length + 1 = 9 := hd
    obtain ⟨c, rfl⟩ : ∃ v, c = v + 1 := ⟨c - 1, by have : 1 ≤ c := hm; omega⟩
    rw [zres, zpns, show 8 - st.length = 0 by omega, zpn]
    cases B[at_]? <;> rfl
/-- the open nodes' parts so far; t whole nodes ahead of them; b: where the next part begins (op = 1: where the open part begins) -/
def zSk (N : List zNt) (t : Nat) : List (Nat × Nat) → Nat → Nat → Prop
  | [], b, _ => zfuls N t 0 b
  | (o, c) :: st, b, op => (∃ e, N[o]? = some e ∧ c + op ≤ eM e ∧ zfuls N (eM e - c - op) (o + 1) b) ∧ zSk N t st o 1
theorem zSk_app {N S : List zNt} {t : Nat} : ∀ (st : List (Nat × Nat)) (b op : Nat), zSk N t st b op → zSk (N ++ S) t st b op
  | [], b, op, h => (zfuls_app _ _ _ h).1
  | (o, c) :: st, b, op, h => by
    obtain ⟨⟨e, h1, h2, h3⟩, h4⟩ := h
    exact ⟨⟨e, by rw [List.getElem?_append_left (List.getElem?_eq_some_iff.mp h1).1]; exact h1, h2, (zfuls_app _ _ _ h3).1⟩, zSk_app st o 1 h4⟩
/-- the reference's stack -/
def zOw (Ow Le : List Int32) : List (Nat × Nat) → Nat → Prop
  | [], _ => True
  | (o, c) :: st, op => (Ow[st.length]? = some (nI o) ∧ Le[st.length]? = some (nI (c + op))) ∧ zOw Ow Le st 1
theorem zOw_set {Ow Le : List Int32} {x y : Int32} {j k : Nat} : ∀ (st : List (Nat × Nat)) (op : Nat), zOw Ow Le st op → st.length ≤ j → st.length ≤ k → zOw (Ow.set j x) (Le.set k y) st op
  | [], _, _, _, _ => trivial
  | (o, c) :: st, op, h, h1, h2 => by
    rw [List.length_cons] at h1 h2
    refine ⟨⟨?_, ?_⟩, zOw_set st 1 h.2 (by omega) (by omega)⟩
    · rw [List.getElem?_set_ne (by omega)]; exact h.1.1
    · rw [List.getElem?_set_ne (by omega)]; exact h.1.2
theorem zOw_setL {Ow Le : List Int32} {y : Int32} {k : Nat} : ∀ (st : List (Nat × Nat)) (op : Nat), zOw Ow Le st op → st.length ≤ k → zOw Ow (Le.set k y) st op
  | [], _, _, _ => trivial
  | (o, c) :: st, op, h, h2 => by
    rw [List.length_cons] at h2
    refine ⟨⟨h.1.1, ?_⟩, zOw_setL st 1 h.2 (by omega)⟩
    rw [List.getElem?_set_ne (by omega)]; exact h.1.2
/-- which nodes are open -/
def zopn (st : List (Nat × Nat)) (i : Nat) : Prop := ∃ c, (i, c) ∈ st
/-- what the arrays of a reading say in its midst -/
def zLs (M : Nat → zE) (N : List zNt) (t : Nat) (st : List (Nat × Nat)) (op : Nat) : Prop := ∃ Nx Ow Le, M 17 = zAi Nx ∧ M 23 = zAi Ow ∧ M 24 = zAi Le ∧ Nx.length = 100 ∧ Ow.length = 10 ∧ Le.length = 10 ∧ (∀ i, i < N.length → ¬ zopn st i → zful N i ∧ Nx[i]? = some (nI (znx N i))) ∧ zSk N t st N.length 0 ∧ zOw Ow Le st op
theorem zSk_less {N : List zNt} {t b : Nat} : ∀ (st : List (Nat × Nat)), zSk N t st b 0 → (st ≠ [] → zmore st 0) → zSk N t (zless st) b 1
  | [], h, _ => h
  | (o, c) :: st, h, hm => by
    obtain ⟨⟨e, h1, h2, h3⟩, h4⟩ := h
    have hc : 1 ≤ c := hm (by simp)
    exact ⟨⟨e, h1, by omega, by rw [show eM e - (c - 1) - 1 = eM e - c - 0 by omega]; exact h3⟩, h4⟩
theorem zSk_close {N : List zNt} {t b : Nat} : ∀ (st : List (Nat × Nat)), zSk N t st b 1 → zful N b → zSk N (if st = [] then t + 1 else t) st (znx N b) 0
  | [], h, hb => zfuls_snoc _ _ _ h hb
  | (o, c) :: st, h, hb => by
    obtain ⟨⟨e, h1, h2, h3⟩, h4⟩ := h
    refine ⟨⟨e, h1, by omega, ?_⟩, ?_⟩
    · have := zfuls_snoc _ _ _ h3 hb
      rw [show eM e - c - 1 + 1 = eM e - c - 0 by omega] at this
      exact this
    · rw [if_neg (by simp)]; exact h4
theorem zOw_less {Ow Le : List Int32} : ∀ (st : List (Nat × Nat)), zOw Ow Le st 0 → (st ≠ [] → zmore st 0) → zOw Ow Le (zless st) 1
  | [], _, _ => trivial
  | (o, c) :: st, h, hm => by
    have hc : 1 ≤ c := hm (by simp)
    exact ⟨⟨h.1.1, by rw [show c - 1 + 1 = c + 0 by omega]; exact h.1.2⟩, h.2⟩
theorem zopn_less {st : List (Nat × Nat)} {i : Nat} (h : zopn st i) : zopn (zless st) i := by
  obtain ⟨c, h⟩ := h
  cases st with
  | nil => cases h
  | cons q st =>
    obtain ⟨o, c0⟩ := q
    rcases List.mem_cons.mp h with h | h
    · cases h; exact ⟨_, List.mem_cons_self⟩
    · exact ⟨c, List.mem_cons_of_mem _ h⟩
theorem zless_nil {st : List (Nat × Nat)} : zless st = [] ↔ st = [] := by cases st <;> simp [zless]
theorem zres_0 {B : List Nat} {w o p : Nat} {st : List (Nat × Nat)} {N : List zNt} : zres B w ((o, 0) :: st) p N = zres B w st p N := rfl
theorem zhd_ok {B : List Nat} {p par p' : Nat} {e : zNt} (hB : B.length ≤ 2000) (h : zhd B p par = .inr (p', e)) : p + 2 ≤ p' ∧ p' ≤ B.length ∧ eM e ≤ 40 ∧ eF e = p ∧ eA e = par ∧ eH e < 1152921504606846976 ∧ (eS e = 2 → eM e = eC e) ∧ eS e ≤ 3 := by
  unfold zhd at h
  cases hb : B[p]? with
  | none => rw [hb] at h; cases h
  | some k =>
    rw [hb] at h
    dsimp only at h
    split at h
    · cases h
    · split at h
      · cases hp : zpnu B (p + 1) with
        | inl e => rw [hp] at h; cases h
        | inr q =>
          obtain ⟨p1, s, v⟩ := q
          rw [hp] at h
          obtain ⟨q1, q2, q3, q4⟩ := zpnu_ok hB hp
          cases h
          refine ⟨by omega, q2, Nat.zero_le _, rfl, rfl, ?_, fun z => (nomatch (show (0 : Nat) = 2 from z)), Nat.zero_le _⟩
          show v / 1152921504606846976 < 1152921504606846976
          omega
      · cases hc : B[p + 1]? with
        | none => rw [hc] at h; cases h
        | some c =>
          have hl := (List.getElem?_eq_some_iff.mp hc).1
          rw [hc] at h
          dsimp only at h
          split at h
          · split at h
            · cases h
            · cases hx : zptx B c 0 (p + 2) 0 with
              | inl e => rw [hx] at h; cases h
              | inr v =>
                rw [hx] at h
                have := zptx_ok _ _ _ _ _ hx (by omega)
                cases h
                exact ⟨by omega, this, Nat.zero_le _, rfl, rfl, show 0 < 1152921504606846976 by decide, fun z => (nomatch (show (1 : Nat) = 2 from z)), show 1 ≤ 3 by decide⟩
          · split at h
            · split at h
              · cases h
              · cases h
                exact ⟨by omega, by omega, by show c ≤ 40; omega, rfl, rfl, show 0 < 1152921504606846976 by decide, fun _ => rfl, show 2 ≤ 3 by decide⟩
            · cases h
              exact ⟨by omega, by omega, by show k - 4 ≤ 40; omega, rfl, rfl, show 0 < 1152921504606846976 by decide, fun z => (nomatch (show (3 : Nat) = 2 from z)), show 3 ≤ 3 by decide⟩
/-- the arrays next, owner, left -/
def zL3 (M : Nat → zE) : Prop := ∃ Nx Ow Le, M 17 = zAi Nx ∧ M 23 = zAi Ow ∧ M 24 = zAi Le ∧ Nx.length = 100 ∧ Ow.length = 10 ∧ Le.length = 10
/-- what reading changes -/
def zRS : List Nat := [10, 13, 14, 15, 16, 17, 18, 21, 22, 23, 24]
theorem zLs_3 {M : Nat → zE} {N : List zNt} {t op : Nat} {st : List (Nat × Nat)} (h : zLs M N t st op) : zL3 M := by
  obtain ⟨Nx, Ow, Le, h1, h2, h3, h4, h5, h6, _⟩ := h
  exact ⟨Nx, Ow, Le, h1, h2, h3, h4, h5, h6⟩
section MRD4
variable {xs : List Value} {d : Nat} {h : zH} {M : Nat → zE} {F : Nat → Value} {Q : zO → zH → Prop} {B : List Nat} {fr w : Nat}
/-- the rows of nodes read in full -/
def zNx (M : Nat → zE) (N : List zNt) : Prop := ∃ Nx Ow Le, M 17 = zAi Nx ∧ M 23 = zAi Ow ∧ M 24 = zAi Le ∧ Nx.length = 100 ∧ Ow.length = 10 ∧ Le.length = 10 ∧ ∀ i, i < N.length → zful N i ∧ Nx[i]? = some (nI (znx N i))
theorem zNr_sm {M' : Nat → zE} {F' : Nat → Value} {N : List zNt} {S : List Nat} (h : zNr M F N fr) (hM : zSm S M M') (hF : F' 8 = F 8) (hS : ([13, 14, 15, 16, 18, 21, 22].all fun q => !(S.contains q)) = true) : zNr M' F' N fr := by
  obtain ⟨a, b, So, Fi, Co, Ma, Ab, Hi, Lo, c1, c2, c3, c4, c5, c6, c7, c8⟩ := h
  have hz : ∀ q ∈ [13, 14, 15, 16, 18, 21, 22], M' q = M q := fun q hq => hM q (fun z => by
    have := List.all_eq_true.mp hS q hq
    simp at this
    exact this z)
  exact ⟨hF.trans a, b, So, Fi, Co, Ma, Ab, Hi, Lo, (hz 13 (by decide)).trans c1, (hz 14 (by decide)).trans c2, (hz 15 (by decide)).trans c3, (hz 16 (by decide)).trans c4, (hz 18 (by decide)).trans c5, (hz 21 (by decide)).trans c6, (hz 22 (by decide)).trans c7, c8⟩
theorem zLs_sm {M' : Nat → zE} {N : List zNt} {t op : Nat} {st : List (Nat × Nat)} {S : List Nat} (h : zLs M N t st op) (hM : zSm S M M') (hS : ([17, 23, 24].all fun q => !(S.contains q)) = true) : zLs M' N t st op := by
  obtain ⟨Nx, Ow, Le, h1, h2, h3, h4⟩ := h
  have hz : ∀ q ∈ [17, 23, 24], M' q = M q := fun q hq => hM q (fun z => by
    have := List.all_eq_true.mp hS q hq
    simp at this
    exact this z)
  exact ⟨Nx, Ow, Le, (hz 17 (by decide)).trans h1, (hz 23 (by decide)).trans h2, (hz 24 (by decide)).trans h3, h4⟩
theorem zNr_ns {N : List zNt} (hN : zNr M F N fr) : zNs M := by
  obtain ⟨_, _, So, Fi, Co, Ma, Ab, Hi, Lo, c1, c2, c3, c4, c5, c6, c7, c8, c9, c10, c11, c12, c13, c14, _⟩ := hN
  exact ⟨So, Fi, Co, Ma, Ab, Hi, Lo, c1, c2, c3, c4, c5, c6, c7, c8, c9, c10, c11, c12, c13, c14⟩
theorem zL3_sm {M' : Nat → zE} {S : List Nat} (h : zL3 M) (hM : zSm S M M') (hS : ([17, 23, 24].all fun q => !(S.contains q)) = true) : zL3 M' := by
  obtain ⟨Nx, Ow, Le, h1, h2, h3, h4⟩ := h
  have hz : ∀ q ∈ [17, 23, 24], M' q = M q := fun q hq => hM q (fun z => by
    have := List.all_eq_true.mp hS q hq
    simp at this
    exact this z)
  exact ⟨Nx, Ow, Le, (hz 17 (by decide)).trans h1, (hz 23 (by decide)).trans h2, (hz 24 (by decide)).trans h3, h4⟩
theorem zc157 (hl : 50 ≤ h.1.length) (h10 : M 10 = zMo F) (hR : zRf F) (hNs : zNs M) (hB : B.length ≤ 2000) (hfr : fr + B.length ≤ 8660) (hw : 1 ≤ w ∧ w ≤ 100)
    (hmem : ∃ Lm, M 11 = zAi Lm ∧ Lm.length = 8660 ∧ ∀ (i b : Nat), B[i]? = some b → b < 256 ∧ Lm[fr + i]? = some (nI b))
    (hnx : zL3 M)
    (k0 : ∀ e, zrd B w = .inl e → ∀ M' F', M' 10 = zMo F' → zSm zRS M M' → zNs M' → zL3 M' → zSm [5, 6, 7, 8] F F' → F' 5 = .int (nI e) → Q (.inl (some (.int 0))) (zov h M'))
    (k1 : ∀ N, zrd B w = .inr N → ∀ M' F', zMm M' F' B fr → zNr M' F' N fr → zSm zRS M M' → zNx M' N → zfuls N w 0 N.length → zSm [5, 6, 7, 8] F F' → F' 5 = .int (-1) → Q (.inl (some (.int 1))) (zov h M')) : zG xs (d + 3) (157, 0, lv_args 0 [zo (some 10), .int (nI fr), .int (nI B.length), .int (nI w)], []) (zov h M) Q := by
  obtain ⟨Lm, m11, lm11, vm11⟩ := hmem
  -- refused
  have bad : ∀ (e : Nat) (M1 : Nat → zE) (F1 : Nat → Value) (R : zO → zH → Prop), zMm M1 F1 B fr → zSm zRS M M1 → zNs M1 → zL3 M1 → zSm [5, 6, 7, 8] F F1 → zrd B w = .inl e → (∀ h', Q (.inl (some (.int 0))) h' → R (.inl (some (.int (-1)))) h') → zG xs (d + 2) (158, 0, lv_args 0 [zo (some 10), .int (nI (fr + e))], []) (zov h M1) R := by
    intro e M1 F1 R a1 a2 a3 a4 a5 he hR
    refine zc158b hl a1 (fun M' F' b1 b2 b3 b4 => hR _ (k0 e he M' F' b1 (zSm_trans a2 b2 (fun _ z => z) (by decide)) ?_ (zL3_sm a4 b2 (by decide)) (zSm_trans a5 b3 (by decide) (by decide)) b4))
    obtain ⟨So, Fi, Co, Ma, Ab, Hi, Lo, c1, c2, c3, c4, c5, c6, c7, c8⟩ := a3
    exact ⟨So, Fi, Co, Ma, Ab, Hi, Lo, by rw [b2 13 (by decide)]; exact c1, by rw [b2 14 (by decide)]; exact c2, by rw [b2 15 (by decide)]; exact c3, by rw [b2 16 (by decide)]; exact c4, by rw [b2 18 (by decide)]; exact c5, by rw [b2 21 (by decide)]; exact c6, by rw [b2 22 (by decide)]; exact c7, c8⟩
  have zrd0 : zrd B w = match zres B w [] 0 [] with | .inl e => .inl e | .inr (p, N) => if p = B.length then .inr N else .inl p := rfl
  refine zm_157
    (fun m l0 l3 l4 l5 l6 l7 h1 => ∃ M1 F1 N st p t, m = 20 * (300 - N.length) + 15 ∧ l0 = some 10 ∧ l3 = nI w ∧ l4 = nI st.length ∧ l5 = nI (fr + p) ∧ l6 = nI t ∧ l7 = nI N.length ∧ h1 = zov h M1 ∧ zMm M1 F1 B fr ∧ zNr M1 F1 N fr ∧ zSm zRS M M1 ∧ zSm [5, 6, 7, 8] F F1 ∧ F1 5 = .int (-1) ∧ zLs M1 N t st 0 ∧ (∀ e ∈ N, eM e ≤ 40) ∧ st.length ≤ 9 ∧ p ≤ B.length ∧ (st ≠ [] → zmore st 0) ∧ t + (if st = [] then 0 else 1) ≤ w ∧ zres B w [] 0 [] = zres B (w - t - (if st = [] then 0 else 1)) st p N)
    (fun m l0 l3 l4 l5 l6 l7 l9 l10 h1 => ∃ M1 F1 N st p t c k, m = 20 * (300 - N.length + 1) + (10 - k) ∧ l0 = some 10 ∧ l3 = nI w ∧ l4 = nI st.length ∧ l5 = nI (fr + p) ∧ l6 = nI t ∧ l7 = nI (N.length - 1) ∧ l9 = zB c ∧ l10 = nI k ∧ h1 = zov h M1 ∧ zMm M1 F1 B fr ∧ zNr M1 F1 N fr ∧ zSm zRS M M1 ∧ zSm [5, 6, 7, 8] F F1 ∧ F1 5 = .int (-1) ∧ zLs M1 N (if st = [] then t + 1 else t) st c.toNat ∧ (∀ e ∈ N, eM e ≤ 40) ∧ (c = true → st.length + k ≤ 10) ∧ st.length ≤ 9 ∧ k ≤ 10 ∧ 1 ≤ N.length ∧ p ≤ B.length ∧ (c = false → st ≠ [] ∧ zmore st 0) ∧ t + 1 ≤ w ∧ zres B w [] 0 [] = zres B (w - t - 1) st p N) ?_ ?_ ?_
  · rintro m l0 l3 l4 l5 l6 l7 h1 ⟨M1, F1, N, st, p, t, rfl, rfl, rfl, rfl, rfl, rfl, rfl, rfl, a1, a2, a3, a4, a5, a6, a40, a7, a8, a9, a10, a11⟩
    have hN100 : N.length ≤ 100 := a2.2.1
    have m10 := a1.1
    have hR1 := a1.2.1
    have fin : ¬ t < w → ∀ J34 J215, zw_157_327 xs (d + 3) Q J34 J215 (some 10) (nI (fr + p)) (zov h M1) := by
      intro ht J34 J215
      have hst : st = [] := by
        by_cases z : st = []
        · exact z
        · rw [if_neg z] at a10; omega
      subst hst
      have htw : t = w := by rw [if_pos rfl] at a10; omega
      subst htw
      have hz : zres B t [] 0 [] = .inr (p, N) := by rw [a11, if_pos rfl, show t - t - 0 = 0 by omega]; rfl
      rw [hz] at zrd0
      refine zM_gi hl m10 a1.2.2.2.1 (pk_eq (fr + p) (fr + B.length) (fun e => ?_) (fun e => ?_))
      · refine ⟨Or.inr rfl, k1 N (by rw [zrd0]; exact if_pos (by omega)) M1 F1 a1 a2 a3 ?_ ?_ a4 a5⟩
        · obtain ⟨Nx, Ow, Le, h1, h2, h3, h4, h5, h6, h7, h8⟩ := a6
          exact ⟨Nx, Ow, Le, h1, h2, h3, h4, h5, h6, fun i hi => h7 i hi (fun ⟨c, z⟩ => by cases z)⟩
        · obtain ⟨Nx, Ow, Le, h1, h2, h3, h4, h5, h6, h7, h8, h9⟩ := a6
          exact h8
      · refine zM_cv hl m10 (bad p M1 F1 _ a1 a3 (zNr_ns a2) (zLs_3 a6) a4 (by rw [zrd0]; exact if_neg (by omega)) (fun h' q => ?_))
        exact zKI_v ⟨fun _ => ⟨Or.inl rfl, q⟩, fun z => absurd (by decide) z⟩
    refine pk_lt N.length 300 (fun _ => pk_lt t w (fun ht => ?_) (fun ht => fin (by omega) _ _)) (fun z => absurd z (by omega))
    have hm : zmore st (w - t - (if st = [] then 0 else 1)) := by
      cases st with
      | nil => show 1 ≤ _; rw [if_pos rfl]; omega
      | cons q st => exact a9 (by simp)
    refine zM_gi hl m10 a1.2.2.2.1 (pk_lt (fr + p) (fr + B.length) (fun hp => ?_) (fun hp => ?_))
    · have hpl : p < B.length := by omega
      obtain ⟨k, hk⟩ : ∃ k, B[p]? = some k := ⟨_, List.getElem?_eq_getElem hpl⟩
      have b90 : (st.length = 9 ∨ N.length = 100) → ∀ J34 J215, zw_157_90 xs (d + 3) Q J34 J215 (some 10) (nI (fr + p)) (zov h M1) := by
        intro hor J34 J215
        refine zM_cv hl m10 (bad p M1 F1 _ a1 a3 (zNr_ns a2) (zLs_3 a6) a4 ?_ (fun h' q => zKI_v ⟨fun _ => ⟨Or.inl rfl, q⟩, fun z => absurd (by decide) z⟩))
        rw [zrd0, a11]
        rcases hor with h9 | h9
        · rw [zres_deep st hm h9, hk]
        · by_cases h99 : st.length = 9
          · rw [zres_deep st hm h99, hk]
          · rw [zres_hd st hm (by omega), hk]
            dsimp only
            rw [if_pos (by omega)]
      refine pk_eq st.length 9 (fun z => b90 (Or.inl z) _ _) (fun z9 => zM_gi hl m10 a2.1 (pk_eq N.length 100 (fun z => b90 (Or.inr z) _ _) (fun z100 => zM_gi hl m10 a2.1 (zM_gr hl m10 (hR1 (14, 18) (by decide)) ?_))))
      rw [zres_hd st hm (by omega), hk] at a11
      dsimp only at a11
      rw [if_neg (by omega)] at a11
      have c135 : ∀ J34, zw_157_135 xs (d + 3) Q J34 (fun l0 l3 l4 l5 l6 l7 l9 l10 h1 => ∃ n1, n1 < 20 * (300 - N.length) + 15 ∧ ∃ M1 F1 N st p t c k, n1 = 20 * (300 - N.length + 1) + (10 - k) ∧ l0 = some 10 ∧ l3 = nI w ∧ l4 = nI st.length ∧ l5 = nI (fr + p) ∧ l6 = nI t ∧ l7 = nI (N.length - 1) ∧ l9 = zB c ∧ l10 = nI k ∧ h1 = zov h M1 ∧ zMm M1 F1 B fr ∧ zNr M1 F1 N fr ∧ zSm zRS M M1 ∧ zSm [5, 6, 7, 8] F F1 ∧ F1 5 = .int (-1) ∧ zLs M1 N (if st = [] then t + 1 else t) st c.toNat ∧ (∀ e ∈ N, eM e ≤ 40) ∧ (c = true → st.length + k ≤ 10) ∧ st.length ≤ 9 ∧ k ≤ 10 ∧ 1 ≤ N.length ∧ p ≤ B.length ∧ (c = false → st ≠ [] ∧ zmore st 0) ∧ t + 1 ≤ w ∧ zres B w [] 0 [] = zres B (w - t - 1) st p N) (some 10) (nI w) (nI st.length) (nI (fr + p)) (nI t) (nI N.length) (nI N.length) (nI (zpar st)) (nI N.length) (some 18) (zov h M1) := by
        intro J34
        obtain ⟨So, Fi, Co, Ma, Ab, Hi, Lo, m13, m14, m15, m16, m18, m21, m22, l13, l14, l15, l16, l18, l21, l22, rows⟩ := a2.2.2
        refine zM_st' hl m18 (by omega) (by omega) ?_
        have sM : zSm [18] M1 (zub M1 18 (zAi (Ab.set N.length (nI (zpar st))))) := zSm_ub zSm_refl (by decide)
        have n10 : (zub M1 18 (zAi (Ab.set N.length (nI (zpar st))))) 10 = zMo F1 := by rw [zub_n (by decide)]; exact m10
        have nN : zNr (zub M1 18 (zAi (Ab.set N.length (nI (zpar st))))) F1 N fr := by
          refine ⟨a2.1, hN100, So, Fi, Co, Ma, Ab.set N.length (nI (zpar st)), Hi, Lo, by rw [zub_n (by decide)]; exact m13, by rw [zub_n (by decide)]; exact m14, by rw [zub_n (by decide)]; exact m15, by rw [zub_n (by decide)]; exact m16, zub_s, by rw [zub_n (by decide)]; exact m21, by rw [zub_n (by decide)]; exact m22, l13, l14, l15, l16, by rw [List.length_set]; exact l18, l21, l22, fun i e hi => ?_⟩
          have hil := (List.getElem?_eq_some_iff.mp hi).1
          rw [List.getElem?_set_ne (by omega)]
          exact rows i e hi
        refine zM_cv hl n10 (zc159 (par := zpar st) hl (zMm_sm a1 n10 sM (zSm_refl (S := [])) (by decide) (by decide)) nN (by omega) hB hk zub_s (by rw [List.getElem?_set_self (by omega)]) ?_ ?_)
        · intro e he M' F' b1 b2 b3 b4 b5
          rw [he] at a11
          refine zKI_v ⟨fun _ => ⟨Or.inl rfl, k0 e (by rw [zrd0, a11]) M' F' b1 (zSm_trans (zSm_trans a3 sM (fun _ z => z) (by decide)) b2 (fun _ z => z) (by decide)) b3 (zL3_sm (zL3_sm (zLs_3 a6) sM (by decide)) b2 (by decide)) (zSm_trans a4 b4 (by decide) (by decide)) b5⟩, fun z => absurd (by decide) z⟩
        · intro p' e he M' F' b1 b2 b3 b4
          rw [he] at a11
          dsimp only at a11
          obtain ⟨e1, e2, e3, e4⟩ := zhd_ok hB he
          obtain ⟨Nx, Ow, Le, h1, h2, h3, h4, h5, h6, h7, h8, h9⟩ := a6
          have hlen : (N ++ [e]).length = N.length + 1 := by rw [List.length_append]; rfl
          have g17 : M' 17 = zAi Nx := by rw [b3 17 (by decide), zub_n (by decide)]; exact h1
          have g23 : M' 23 = zAi Ow := by rw [b3 23 (by decide), zub_n (by decide)]; exact h2
          have g24 : M' 24 = zAi Le := by rw [b3 24 (by decide), zub_n (by decide)]; exact h3
          have hRf' : zRf F' := zRf_sm hR1 b4 (by decide)
          obtain ⟨So', Fi', Co', Ma', Ab', Hi', Lo', m13', m14', m15', m16', m18', m21', m22', l13', l14', l15', l16', l18', l21', l22', rows'⟩ := b2.2.2
          have hMa : Ma'[N.length]? = some (nI (eM e)) := (rows' N.length e (by rw [List.getElem?_append_right (Nat.le_refl _), Nat.sub_self]; rfl)).2.2.2.1
          refine zKI_v ⟨fun z => absurd z (nI_pos (by omega)), fun _ => ?_⟩
          refine zM_gr hl b1 (hRf' (13, 17) (by decide)) (zM_gi hl b1 b2.1 (zM_st' hl g17 (by omega) (by omega) ?_))
          have sM1 : zSm [17] M' (zub M' 17 (zAi (Nx.set N.length (nI (N ++ [e]).length)))) := zSm_ub zSm_refl (by decide)
          generalize hM1 : zub M' 17 (zAi (Nx.set N.length (nI (N ++ [e]).length))) = M3 at sM1
          have c10 : M3 10 = zMo F' := by rw [sM1 10 (by decide)]; exact b1
          have c17 : M3 17 = zAi (Nx.set N.length (nI (N ++ [e]).length)) := by rw [← hM1]; exact zub_s
          refine zM_gr hl c10 (hRf' (19, 23) (by decide)) (zM_st' hl (L := Ow) (by rw [sM1 23 (by decide)]; exact g23) (by omega) (by omega) ?_)
          have sM2 : zSm [23] M3 (zub M3 23 (zAi (Ow.set st.length (nI N.length)))) := zSm_ub zSm_refl (by decide)
          generalize hM2 : zub M3 23 (zAi (Ow.set st.length (nI N.length))) = M4 at sM2
          have d10 : M4 10 = zMo F' := by rw [sM2 10 (by decide)]; exact c10
          have d23 : M4 23 = zAi (Ow.set st.length (nI N.length)) := by rw [← hM2]; exact zub_s
          have d16 : M4 16 = zAi Ma' := by rw [sM2 16 (by decide), sM1 16 (by decide)]; exact m16'
          refine zM_gr hl d10 (hRf' (20, 24) (by decide)) (zM_gr hl d10 (hRf' (12, 16) (by decide)) (zM_ia' hl d16 hMa ?_))
          rw [nI_1]
          refine zM_st' hl (L := Le) (by rw [sM2 24 (by decide), sM1 24 (by decide)]; exact g24) (by omega) (by omega) ?_
          have sM3 : zSm [24] M4 (zub M4 24 (zAi (Le.set st.length (nI (eM e + 1))))) := zSm_ub zSm_refl (by decide)
          generalize hM3 : zub M4 24 (zAi (Le.set st.length (nI (eM e + 1)))) = M5 at sM3
          have e10 : M5 10 = zMo F' := by rw [sM3 10 (by decide)]; exact d10
          have e24 : M5 24 = zAi (Le.set st.length (nI (eM e + 1))) := by rw [← hM3]; exact zub_s
          have e16 : M5 16 = zAi Ma' := by rw [sM3 16 (by decide)]; exact d16
          have sAll : zSm [17, 23, 24] M' M5 := zSm_trans (zSm_trans sM1 sM2 (U := [17, 23, 24]) (by decide) (by decide)) sM3 (by decide) (by decide)
          refine zM_gr hl e10 (hRf' (12, 16) (by decide)) (zM_ia' hl e16 hMa ?_)
          have fin2 : ∀ st', (eM e = 0 → st' = zless st) → (eM e ≠ 0 → st' = (N.length, eM e) :: zless st) → ∃ n1, n1 < 20 * (300 - N.length) + 15 ∧ ∃ M1 F1 N1 st p t1 c k, n1 = 20 * (300 - N1.length + 1) + (10 - k) ∧ (some 10 : zP) = some 10 ∧ nI w = nI w ∧ nI st'.length = nI st.length ∧ nI (fr + p') = nI (fr + p) ∧ nI t = nI t1 ∧ nI N.length = nI (N1.length - 1) ∧ (1 : Int32) = zB c ∧ (0 : Int32) = nI k ∧ zov h M5 = zov h M1 ∧ zMm M1 F1 B fr ∧ zNr M1 F1 N1 fr ∧ zSm zRS M M1 ∧ zSm [5, 6, 7, 8] F F1 ∧ F1 5 = .int (-1) ∧ zLs M1 N1 (if st = [] then t1 + 1 else t1) st c.toNat ∧ (∀ e ∈ N1, eM e ≤ 40) ∧ (c = true → st.length + k ≤ 10) ∧ st.length ≤ 9 ∧ k ≤ 10 ∧ 1 ≤ N1.length ∧ p ≤ B.length ∧ (c = false → st ≠ [] ∧ zmore st 0) ∧ t1 + 1 ≤ w ∧ zres B w [] 0 [] = zres B (w - t1 - 1) st p N1 := by
            intro st' s0 s1
            have hl' : st'.length ≤ st.length + 1 := by
              by_cases z : eM e = 0
              · rw [s0 z, zless_len]; omega
              · rw [s1 z, List.length_cons, zless_len]; omega
            have hx : (N ++ [e])[N.length]? = some e := by rw [List.getElem?_append_right (Nat.le_refl _), Nat.sub_self]; rfl
            have sk : zSk (N ++ [e]) t (zless st) N.length 1 := zSk_app _ _ _ (zSk_less st h8 a9)
            refine ⟨20 * (300 - (N ++ [e]).length + 1) + (10 - 0), by rw [hlen]; omega, M5, F', N ++ [e], st', p', t, true, 0, rfl, rfl, rfl, rfl, rfl, rfl, by rw [hlen]; rfl, rfl, rfl, rfl, ?_, ?_, ?_, ?_, ?_, ⟨_, _, _, by rw [sM3 17 (by decide), sM2 17 (by decide)]; exact c17, by rw [sM3 23 (by decide)]; exact d23, e24, by rw [List.length_set]; exact h4, by rw [List.length_set]; exact h5, by rw [List.length_set]; exact h6, ?_, ?_, ?_⟩, ?_, (fun _ => by omega), by omega, by omega, by omega, e2, (by intro z; cases z), ?_, ?_⟩
            · exact zMm_sm (zMm_sm (zMm_sm a1 n10 sM (zSm_refl (S := [])) (by decide) (by decide)) b1 b3 b4 (by decide) (by decide)) e10 sAll (zSm_refl (S := [])) (by decide) (by decide)
            · exact zNr_sm b2 sAll rfl (by decide)
            · exact zSm_trans (zSm_trans (zSm_trans a3 sM (fun _ z => z) (by decide)) b3 (fun _ z => z) (by decide)) sAll (fun _ z => z) (by decide)
            · exact zSm_trans a4 b4 (by decide) (by decide)
            · rw [b4 5 (by decide)]; exact a5
            · intro i hi ho
              rw [hlen] at hi
              by_cases hiN : i = N.length
              · subst hiN
                have hz : eM e = 0 := by
                  by_cases z : eM e = 0
                  · exact z
                  · exact absurd ⟨eM e, by rw [s1 z]; exact List.mem_cons_self⟩ ho
                have := zful_of (j' := N.length + 1) hx (by rw [hz]; exact (rfl : N.length + 1 = N.length + 1))
                refine ⟨this.1, ?_⟩
                rw [this.2, List.getElem?_set_self (by omega), hlen]
              · have ho2 : ¬ zopn st i := fun z => ho (by
                  by_cases z2 : eM e = 0
                  · rw [s0 z2]; exact zopn_less z
                  · rw [s1 z2]
                    obtain ⟨c, z⟩ := zopn_less z
                    exact ⟨c, List.mem_cons_of_mem _ z⟩)
                obtain ⟨f1, f2⟩ := h7 i (by omega) ho2
                obtain ⟨f3, f4⟩ := zful_app (S := [e]) f1
                refine ⟨f3, ?_⟩
                rw [f4, List.getElem?_set_ne (by omega)]
                exact f2
            · by_cases z2 : eM e = 0
              · have hf := zful_of (j' := N.length + 1) hx (by rw [z2]; exact (rfl : N.length + 1 = N.length + 1))
                have := zSk_close _ sk hf.1
                rw [hf.2] at this
                rw [s0 z2, hlen]
                exact this
              · rw [s1 z2, if_neg (by simp), hlen]
                exact ⟨⟨e, hx, by omega, by rw [show eM e - eM e - 0 = 0 by omega]; exact (rfl : N.length + 1 = N.length + 1)⟩, sk⟩
            · have ow := zOw_less st h9 a9
              by_cases z2 : eM e = 0
              · rw [s0 z2]
                exact zOw_set _ _ ow (by rw [zless_len]; omega) (by rw [zless_len]; omega)
              · rw [s1 z2]
                refine ⟨⟨?_, ?_⟩, zOw_set _ _ ow (by rw [zless_len]; omega) (by rw [zless_len]; omega)⟩
                · rw [zless_len, List.getElem?_set_self (by omega)]
                · rw [zless_len, List.getElem?_set_self (by omega)]; rfl
            · intro e' he'
              rcases List.mem_append.mp he' with q | q
              · exact a40 e' q
              · rw [List.mem_singleton.mp q]; exact e3
            · by_cases z : st = []
              · rw [if_pos z] at a10; omega
              · rw [if_neg z] at a10; omega
            · rw [a11]
              have hw2 : (if st = [] then w - t - (if st = [] then 0 else 1) - 1 else w - t - (if st = [] then 0 else 1)) = w - t - 1 := by
                by_cases z : st = []
                · rw [if_pos z, if_pos z]; rfl
                · rw [if_neg z, if_neg z]
              rw [hw2]
              by_cases z2 : eM e = 0
              · rw [s0 z2, z2, zres_0]
              · rw [s1 z2]
          refine ⟨fun z => ?_, fun z => ?_⟩
          · have hz : eM e ≠ 0 := by
              intro q; rw [q] at z; exact absurd z (by decide)
            intro x3 hx3
            rw [hx3]
            have := fin2 ((N.length, eM e) :: zless st) (fun q => absurd q hz) (fun _ => rfl)
            rw [List.length_cons, zless_len] at this
            rw [nI_1]
            exact this
          · have hz : eM e = 0 := by
              by_cases q : eM e = 0
              · exact q
              · exact absurd (nI_lt (a := 0) (b := eM e) (by omega) (by omega)) z
            intro x3 hx3
            rw [hx3]
            have := fin2 (zless st) (fun _ => rfl) (fun q => absurd hz q)
            rw [zless_len] at this
            rw [show nI st.length + 0 = nI st.length from nI_add _ 0]
            exact this
      refine ⟨fun z => ?_, fun z => ?_⟩
      · have hst : st = [] := by
          have := (nI_eq (b := 0) (by omega) (by decide)).mp z
          exact List.length_eq_zero_iff.mp this
        subst hst
        exact c135 _
      · cases hst : st with
        | nil => rw [hst] at z; exact absurd rfl z
        | cons q r =>
          obtain ⟨o, c⟩ := q
          obtain ⟨Nx, Ow, Le, h1, h2, h3, h4, h5, h6, h7, h8, h9⟩ := a6
          rw [hst] at h9
          refine zM_gr hl m10 (hR1 (19, 23) (by decide)) ?_
          rw [show nI ((o, c) :: r).length - 1 = nI r.length from pk_sub (a := r.length + 1) (b := 1) (by omega)]
          refine zM_ia' hl h2 h9.1.1 ?_ (by rw [hst, List.length_cons] at a7; omega)
          have := c135 (fun l0 l3 l4 l5 l6 l7 h1 => ∃ n1, n1 < 20 * (300 - N.length) + 15 ∧ ∃ M1 F1 N st p t, n1 = 20 * (300 - N.length) + 15 ∧ l0 = some 10 ∧ l3 = nI w ∧ l4 = nI st.length ∧ l5 = nI (fr + p) ∧ l6 = nI t ∧ l7 = nI N.length ∧ h1 = zov h M1 ∧ zMm M1 F1 B fr ∧ zNr M1 F1 N fr ∧ zSm zRS M M1 ∧ zSm [5, 6, 7, 8] F F1 ∧ F1 5 = .int (-1) ∧ zLs M1 N t st 0 ∧ (∀ e ∈ N, eM e ≤ 40) ∧ st.length ≤ 9 ∧ p ≤ B.length ∧ (st ≠ [] → zmore st 0) ∧ t + (if st = [] then 0 else 1) ≤ w ∧ zres B w [] 0 [] = zres B (w - t - (if st = [] then 0 else 1)) st p N)
          rw [hst] at this
          exact this
    · have hpB : p = B.length := by omega
      refine zM_gi hl m10 a1.2.2.2.1 (zM_cv hl m10 (bad B.length M1 F1 _ a1 a3 (zNr_ns a2) (zLs_3 a6) a4 ?_ (fun h' q => zKI_v ⟨fun _ => ⟨Or.inl rfl, q⟩, fun z => absurd (by decide) z⟩)))
      rw [zrd0, a11]
      by_cases h9 : st.length = 9
      · rw [zres_deep st hm h9, List.getElem?_eq_none (by omega)]
      · rw [zres_hd st hm (by omega), List.getElem?_eq_none (by omega)]
  · rintro m l0 l3 l4 l5 l6 l7 l9 l10 h1 ⟨M1, F1, N, st, p, t, c, k, rfl, rfl, rfl, rfl, rfl, rfl, rfl, rfl, rfl, rfl, a1, a2, a3, a4, a5, a6, a40, a7, a8, a9, a10, a11, a12, a13, a14⟩
    have hN100 : N.length ≤ 100 := a2.2.1
    have m10 := a1.1
    have hR1 := a1.2.1
    have ex : (c = false ∨ st = []) → ∀ J215, zw_157_306 xs (d + 3) Q (fun l0 l3 l4 l5 l6 l7 h1 => ∃ n1, n1 < 20 * (300 - N.length + 1) + (10 - k) ∧ ∃ M1 F1 N st p t, n1 = 20 * (300 - N.length) + 15 ∧ l0 = some 10 ∧ l3 = nI w ∧ l4 = nI st.length ∧ l5 = nI (fr + p) ∧ l6 = nI t ∧ l7 = nI N.length ∧ h1 = zov h M1 ∧ zMm M1 F1 B fr ∧ zNr M1 F1 N fr ∧ zSm zRS M M1 ∧ zSm [5, 6, 7, 8] F F1 ∧ F1 5 = .int (-1) ∧ zLs M1 N t st 0 ∧ (∀ e ∈ N, eM e ≤ 40) ∧ st.length ≤ 9 ∧ p ≤ B.length ∧ (st ≠ [] → zmore st 0) ∧ t + (if st = [] then 0 else 1) ≤ w ∧ zres B w [] 0 [] = zres B (w - t - (if st = [] then 0 else 1)) st p N) J215 (some 10) (nI w) (nI st.length) (nI (fr + p)) (nI t) (nI (N.length - 1)) (zov h M1) := by
      intro hc J215
      have st1 : nI (N.length - 1) + 1 = nI N.length := by rw [nI_1, show N.length - 1 + 1 = N.length by omega]
      refine ⟨fun z => ?_, fun z => ?_⟩
      · have hst : st = [] := List.length_eq_zero_iff.mp ((nI_eq (b := 0) (by omega) (by decide)).mp z)
        subst hst
        intro x3 h3 x6 h6
        rw [h3, h6, st1, nI_1]
        refine ⟨20 * (300 - N.length) + 15, by omega, M1, F1, N, [], p, t + 1, rfl, rfl, rfl, rfl, rfl, rfl, rfl, rfl, a1, a2, a3, a4, a5, ?_, a40, by omega, a11, (fun q => absurd rfl q), by rw [if_pos rfl]; omega, ?_⟩
        · rw [if_pos rfl] at a6; exact a6
        · rw [a14, if_pos rfl]; rfl
      · have hst : st ≠ [] := fun q => z (by rw [q]; rfl)
        have hcf : c = false := by rcases hc with q | q; exact q; exact absurd q hst
        subst hcf
        intro x3 h3 x6 h6
        rw [h3, h6, st1, show nI t + 0 = nI t from nI_add t 0]
        refine ⟨20 * (300 - N.length) + 15, by omega, M1, F1, N, st, p, t, rfl, rfl, rfl, rfl, rfl, rfl, rfl, rfl, a1, a2, a3, a4, a5, ?_, a40, a8, a11, (fun _ => (a12 rfl).2), by rw [if_neg hst]; omega, ?_⟩
        · rw [if_neg hst] at a6; exact a6
        · rw [a14, if_neg hst]
    refine pk_lt k 10 (fun hk => ?_) (fun hk => ex ?_ _)
    · refine ⟨fun z => ex (Or.inl ?_) _, fun z => ?_⟩
      · cases c
        · rfl
        · exact absurd z (by decide)
      · have hct : c = true := by
          cases c
          · exact absurd rfl z
          · rfl
        subst hct
        refine ⟨fun z2 => ?_, fun z2 => ex (Or.inr ?_) _⟩
        · cases hst : st with
          | nil => rw [hst] at z2; exact absurd z2 (by decide)
          | cons q r =>
            obtain ⟨o, c0⟩ := q
            subst hst
            obtain ⟨Nx, Ow, Le, h1, h2, h3, h4, h5, h6, h7, h8, h9⟩ := a6
            rw [if_neg (by simp)] at h8
            have hr9 : r.length + 1 ≤ 9 := a8
            rw [show nI ((o, c0) :: r).length - 1 = nI r.length from pk_sub (a := r.length + 1) (b := 1) (by omega)]
            obtain ⟨⟨e, eo, ec, ef⟩, sk⟩ := h8
            have hol : o < N.length := (List.getElem?_eq_some_iff.mp eo).1
            have hLe : Le[r.length]? = some (nI (c0 + 1)) := h9.1.2
            refine zM_gr hl m10 (hR1 (20, 24) (by decide)) (zM_ia' hl h3 hLe ?_)
            rw [nI_pred]
            refine zM_st' hl h3 (by omega) (by omega) ?_
            have sM1 : zSm [24] M1 (zub M1 24 (zAi (Le.set r.length (nI c0)))) := zSm_ub zSm_refl (by decide)
            generalize hM1 : zub M1 24 (zAi (Le.set r.length (nI c0))) = M2 at sM1
            have c10 : M2 10 = zMo F1 := by rw [sM1 10 (by decide)]; exact m10
            have c24 : M2 24 = zAi (Le.set r.length (nI c0)) := by rw [← hM1]; exact zub_s
            have mm2 : zMm M2 F1 B fr := zMm_sm a1 c10 sM1 (zSm_refl (S := [])) (by decide) (by decide)
            have nr2 : zNr M2 F1 N fr := zNr_sm a2 sM1 rfl (by decide)
            refine zM_gr hl c10 (hR1 (20, 24) (by decide)) (zM_ia' hl c24 (v := nI c0) (by rw [List.getElem?_set_self (by omega)]) ?_)
            have hc31 : c0 < 2 ^ 31 := by
              have := a40 e (List.mem_of_getElem? eo)
              omega
            refine ⟨fun z3 => ?_, fun z3 => ?_⟩
            · -- the node is closed
              have hc00 : c0 = 0 := (nI_eq (b := 0) hc31 (by decide)).mp z3
              subst hc00
              refine ⟨fun z4 => absurd z4 (by decide), fun _ => ?_⟩
              intro x3 hx3
              rw [show nI ((o, 0) :: r).length - 1 = nI r.length from pk_sub (a := r.length + 1) (b := 1) (by omega)] at hx3
              subst hx3
              refine ⟨fun z4 => absurd z4 (by decide), fun _ => ?_⟩
              have c17 : M2 17 = zAi Nx := by rw [sM1 17 (by decide)]; exact h1
              have c23 : M2 23 = zAi Ow := by rw [sM1 23 (by decide)]; exact h2
              refine zM_gr hl c10 (hR1 (13, 17) (by decide)) (zM_gr hl c10 (hR1 (19, 23) (by decide)) (zM_ia' hl c23 h9.1.1 (zM_gi hl c10 a2.1 (zM_st' hl c17 (by omega) (by omega) ?_))))
              have sM2 : zSm [17] M2 (zub M2 17 (zAi (Nx.set o (nI N.length)))) := zSm_ub zSm_refl (by decide)
              generalize hM2 : zub M2 17 (zAi (Nx.set o (nI N.length))) = M3 at sM2
              have d10 : M3 10 = zMo F1 := by rw [sM2 10 (by decide)]; exact c10
              have d17 : M3 17 = zAi (Nx.set o (nI N.length)) := by rw [← hM2]; exact zub_s
              obtain ⟨f1, f2⟩ := zful_of eo (by rw [show eM e - 0 - 0 = eM e by omega] at ef; exact ef)
              intro x6 hx6
              rw [hx6, nI_1]
              refine ⟨20 * (300 - N.length + 1) + (10 - (k + 1)), by omega, M3, F1, N, r, p, t, true, k + 1, rfl, rfl, rfl, rfl, rfl, rfl, rfl, rfl, rfl, rfl, zMm_sm mm2 d10 sM2 (zSm_refl (S := [])) (by decide) (by decide), zNr_sm nr2 sM2 rfl (by decide), zSm_trans (zSm_trans a3 sM1 (fun _ z => z) (by decide)) sM2 (fun _ z => z) (by decide), a4, a5, ⟨_, _, _, d17, by rw [sM2 23 (by decide)]; exact c23, by rw [sM2 24 (by decide)]; exact c24, by rw [List.length_set]; exact h4, h5, by rw [List.length_set]; exact h6, ?_, ?_, zOw_setL r 1 h9.2 (Nat.le_refl _)⟩, a40, (fun _ => by have := a7 rfl; rw [List.length_cons] at this; omega), by omega, by omega, a10, a11, (fun q => by cases q), a13, by rw [a14, zres_0]⟩
              · intro i hi ho
                by_cases hio : i = o
                · subst hio
                  exact ⟨f1, by rw [f2, List.getElem?_set_self (by omega)]⟩
                · rw [List.getElem?_set_ne (by omega)]
                  refine h7 i hi (fun ⟨c, z⟩ => ho ⟨c, ?_⟩)
                  rcases List.mem_cons.mp z with z | z
                  · cases z; exact absurd rfl hio
                  · exact z
              · have := zSk_close r sk f1
                rw [f2] at this
                exact this
            · -- it goes on
              have hc00 : c0 ≠ 0 := fun q => z3 (by rw [q]; rfl)
              refine ⟨fun _ => ?_, fun z4 => absurd rfl z4⟩
              intro x3 hx3
              rw [show nI ((o, c0) :: r).length - 0 = nI ((o, c0) :: r).length from pk_sub (b := 0) (Nat.zero_le _)] at hx3
              subst hx3
              refine ⟨fun _ => ?_, fun z4 => absurd rfl z4⟩
              intro x6 hx6
              rw [hx6, nI_1]
              refine ⟨20 * (300 - N.length + 1) + (10 - (k + 1)), by omega, M2, F1, N, (o, c0) :: r, p, t, false, k + 1, rfl, rfl, rfl, rfl, rfl, rfl, rfl, rfl, rfl, rfl, mm2, nr2, zSm_trans a3 sM1 (fun _ z => z) (by decide), a4, a5, ⟨_, _, _, by rw [sM1 17 (by decide)]; exact h1, by rw [sM1 23 (by decide)]; exact h2, c24, h4, h5, by rw [List.length_set]; exact h6, h7, ?_, ⟨⟨h9.1.1, ?_⟩, zOw_setL r 1 h9.2 (Nat.le_refl _)⟩⟩, a40, (fun q => by cases q), a8, by omega, a10, a11, (fun _ => ⟨by simp, show 1 ≤ c0 by omega⟩), a13, a14⟩
              · rw [if_neg (by simp)]
                exact ⟨⟨e, eo, ec, ef⟩, sk⟩
              · rw [List.getElem?_set_self (by omega)]; rfl
        · cases st with
          | nil => rfl
          | cons q r => exact absurd (nI_lt (a := 0) (b := (q :: r).length) (by simp) (by rw [List.length_cons] at a8 ⊢; omega)) z2
    · cases c with
      | false => exact Or.inl rfl
      | true => exact Or.inr (List.length_eq_zero_iff.mp (by have := a7 rfl; omega))
  · have sF1 : zSm [5, 6, 7, 8] F (zub (zub (zub (zub F 6 (.int (nI fr))) 7 (.int (nI fr + nI B.length))) 5 (.int (-1))) 8 (.int 0)) := zSm_ub (zSm_ub (zSm_ub (zSm_ub zSm_refl (by decide)) (by decide)) (by decide)) (by decide)
    refine zM_pf hl h10 (zM_pf hl zub_s (zM_pf hl zub_s (zM_pf hl zub_s ?_)))
    generalize hF2 : zub (zub (zub (zub F 6 (.int (nI fr))) 7 (.int (nI fr + nI B.length))) 5 (.int (-1))) 8 (.int 0) = F2 at sF1
    have sM0 : zSm [10] M (zub (zub (zub (zub M 10 (zMo (zub F 6 (.int (nI fr))))) 10 (zMo (zub (zub F 6 (.int (nI fr))) 7 (.int (nI fr + nI B.length))))) 10 (zMo (zub (zub (zub F 6 (.int (nI fr))) 7 (.int (nI fr + nI B.length))) 5 (.int (-1))))) 10 (zMo F2)) := zSm_ub (zSm_ub (zSm_ub (zSm_ub zSm_refl (by decide)) (by decide)) (by decide)) (by decide)
    have n10 : (zub (zub (zub (zub M 10 (zMo (zub F 6 (.int (nI fr))))) 10 (zMo (zub (zub F 6 (.int (nI fr))) 7 (.int (nI fr + nI B.length))))) 10 (zMo (zub (zub (zub F 6 (.int (nI fr))) 7 (.int (nI fr + nI B.length))) 5 (.int (-1))))) 10 (zMo F2)) 10 = zMo F2 := zub_s
    generalize (zub (zub (zub (zub M 10 (zMo (zub F 6 (.int (nI fr))))) 10 (zMo (zub (zub F 6 (.int (nI fr))) 7 (.int (nI fr + nI B.length))))) 10 (zMo (zub (zub (zub F 6 (.int (nI fr))) 7 (.int (nI fr + nI B.length))) 5 (.int (-1))))) 10 (zMo F2)) = M2 at sM0 n10
    have f6 : F2 6 = .int (nI fr) := by rw [← hF2, zub_n (by decide), zub_n (by decide), zub_n (by decide), zub_s]
    have f7 : F2 7 = .int (nI (fr + B.length)) := by rw [← hF2, zub_n (by decide), zub_n (by decide), zub_s, nI_add]
    have f5 : F2 5 = .int (-1) := by rw [← hF2, zub_n (by decide), zub_s]
    have f8 : F2 8 = .int 0 := by rw [← hF2, zub_s]
    have mm : zMm M2 F2 B fr := ⟨n10, zRf_sm hR sF1 (by decide), f6, f7, hfr, Lm, by rw [sM0 11 (by decide)]; exact m11, lm11, vm11⟩
    obtain ⟨So, Fi, Co, Ma, Ab, Hi, Lo, c1, c2, c3, c4, c5, c6, c7, c8, c9, c10, c11, c12, c13, c14⟩ := hNs
    obtain ⟨Nx, Ow, Le, g1, g2, g3, g4, g5, g6⟩ := hnx
    refine ⟨20 * (300 - 0) + 15, M2, F2, [], [], 0, 0, rfl, rfl, rfl, rfl, rfl, rfl, rfl, rfl, mm, ⟨f8, Nat.zero_le _, So, Fi, Co, Ma, Ab, Hi, Lo, by rw [sM0 13 (by decide)]; exact c1, by rw [sM0 14 (by decide)]; exact c2, by rw [sM0 15 (by decide)]; exact c3, by rw [sM0 16 (by decide)]; exact c4, by rw [sM0 18 (by decide)]; exact c5, by rw [sM0 21 (by decide)]; exact c6, by rw [sM0 22 (by decide)]; exact c7, c8, c9, c10, c11, c12, c13, c14, fun i e hi => by cases hi⟩, zSm_mono sM0 (by decide), sF1, f5, ⟨Nx, Ow, Le, by rw [sM0 17 (by decide)]; exact g1, by rw [sM0 23 (by decide)]; exact g2, by rw [sM0 24 (by decide)]; exact g3, g4, g5, g6, fun i hi => absurd hi (Nat.not_lt_zero _), rfl, trivial⟩, (fun e he => by cases he), Nat.zero_le _, Nat.zero_le _, (fun q => absurd rfl q), by rw [if_pos rfl]; omega, ?_⟩
    rw [if_pos rfl]; rfl
end MRD4
