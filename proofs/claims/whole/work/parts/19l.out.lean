/-! the output of the class -/
/-- a byte as a byte array keeps it -/
def zby (b : Nat) : Int32 := (nI b).toInt8.toInt32
set_option maxRecDepth 100000 in
theorem zby_nar : ∀ b, b < 256 → vp_nar .byte (nI b).toInt8.toInt32 = zby b := by decide
set_option maxRecDepth 100000 in
theorem zby_and : ∀ b, b < 256 → zby b &&& 255 = nI b := by decide
def zisr (v : Value) : Bool := match v with
  | .ref _ => true
  | _ => false
theorem zall_ref (is : List Nat) : (is.map Value.ref).all zisr = true := by
  rw [List.all_eq_true]
  intro v hv
  obtain ⟨a, _, rfl⟩ := List.mem_map.mp hv
  rfl
/-- cells of values (an array only once it is filled) -/
def zvc (e : zE) : Bool := match e with
  | .inr (3, _) => true
  | .inr (5, _) => true
  | .inl (8, vs) => vs.all zisr
  | _ => false
theorem zVal_fr {h h' : zH} (H : ∀ k e, zown h k = some e → zvc e = true → zown h' k = some e) : ∀ (V : Term) (x : Nat ⊕ List Nat), zVal h V x → zVal h' V x := by
  intro V x
  fun_induction zVal h V x with
  | case1 s n a => rintro ⟨b, h1, h2, h3⟩; exact ⟨b, H _ _ h1 rfl, H _ _ h2 rfl, h3⟩
  | case2 k w a => rintro ⟨h1, h2⟩; exact ⟨H _ _ h1 rfl, h2⟩
  | case3 c a => rintro ⟨h1, h2⟩; exact ⟨H _ _ h1 rfl, h2⟩
  | case4 c v a ih => rintro ⟨b, h1, h2, h3⟩; exact ⟨b, H _ _ h1 rfl, h2, ih b h3⟩
  | case5 c v w a ih1 ih2 => rintro ⟨b, e, h1, h2, h3, h4⟩; exact ⟨b, e, H _ _ h1 rfl, h2, ih1 b h3, ih2 e h4⟩
  | case6 l a ih => rintro ⟨r, is, h1, h2, h3, h4⟩; exact ⟨r, is, H _ _ h1 rfl, H _ _ h2 (zall_ref is), h3, ih is h4⟩
  | case7 l a ih => rintro ⟨r, is, h1, h2, h3, h4⟩; exact ⟨r, is, H _ _ h1 rfl, H _ _ h2 (zall_ref is), h3, ih is h4⟩
  | case8 l a ih => rintro ⟨r, is, h1, h2, h3, h4⟩; exact ⟨r, is, H _ _ h1 rfl, H _ _ h2 (zall_ref is), h3, ih is h4⟩
  | case9 is => exact fun h => h
  | case10 v l is ih1 ih2 => rintro ⟨a, as, h1, h2, h3⟩; exact ⟨a, as, h1, ih1 a h2, ih2 as h3⟩
  | case11 => exact fun h => h.elim
/-- the output holds these bytes -/
def zOut (h : zH) (O : List Nat) : Prop := zown h 7 = some (.inr (2, [.ref 8, .int (nI O.length)])) ∧ ∃ os, zown h 8 = some (.inl (2, os)) ∧ os.length = 2686 ∧ O.length ≤ 2686 ∧ (∀ v ∈ os, ∃ x, v = .int x) ∧ ∀ (i b : Nat), O[i]? = some b → b < 256 ∧ os[i]? = some (.int (zby b))
/-- nothing but the output has changed -/
def zOf (h h' : zH) : Prop := (∀ k, k ≠ 7 → k ≠ 8 → zown h' k = zown h k) ∧ h'.1.length = h.1.length ∧ h'.2 = h.2
theorem zOf_refl {h : zH} : zOf h h := ⟨fun _ _ _ => rfl, rfl, rfl⟩
theorem zOf_trans {h h1 h2 : zH} (a : zOf h h1) (b : zOf h1 h2) : zOf h h2 := ⟨fun k k1 k2 => (b.1 k k1 k2).trans (a.1 k k1 k2), b.2.1.trans a.2.1, b.2.2.trans a.2.2⟩
theorem zput_ln {h : zH} {k : Nat} {e : zE} : (zput h k e).1.length = h.1.length := by show (List.set _ _ _).length = _; rw [List.length_set]
theorem zOf_own {h h' : zH} {O : List Nat} (ho : zOut h O) (hf : zOf h h') : ∀ k e, zown h k = some e → zvc e = true → zown h' k = some e := by
  intro k e hk he
  obtain ⟨h1, os, h2, _⟩ := ho
  by_cases k7 : k = 7
  · subst k7; rw [h1] at hk; cases hk; cases he
  · by_cases k8 : k = 8
    · subst k8; rw [h2] at hk; cases hk; cases he
    · rw [hf.1 k k7 k8]; exact hk
theorem zVal_of {h h' : zH} {O : List Nat} {V : Term} {x : Nat ⊕ List Nat} (ho : zOut h O) (hf : zOf h h') (hv : zVal h V x) : zVal h' V x := zVal_fr (zOf_own ho hf) V x hv
section OUT
variable {xs : List Value} {d : Nat} {h : zH} {Q : zO → zH → Prop} {O : List Nat} {a b n : Nat}
theorem zc114 (ho : zOut h O) (hb : b < 256) (hl : O.length < 2686) (q : ∀ h', zOf h h' → zOut h' (O ++ [b]) → Q (.inl none) h') : zG xs d (114, 0, lv_args 0 [zo (some 7), .int (nI b)], []) h Q := by
  obtain ⟨h7, os, h8, l8, _, i8, v8⟩ := ho
  apply zm_114
  refine zX_gi h7 rfl (zX_gr h7 rfl ⟨8, 2, os, rfl, zarr_own h8, by decide, ?_⟩)
  rw [l8]
  refine ⟨fun _ => ?_, fun z => absurd (nI_lt hl (by decide)) z⟩
  refine zX_gr h7 rfl (zX_gi h7 rfl ⟨8, os, rfl, h8, nI_pos (by omega), by rw [nI_clamp (by omega), l8]; exact hl, ?_⟩)
  rw [nI_clamp (by omega), zby_nar b hb]
  have a7 : zown (zput h 8 (.inl (2, os.set O.length (.int (zby b))))) 7 = some (.inr (2, [.ref 8, .int (nI O.length)])) := by rw [zown_ne h8 (by decide)]; exact h7
  refine zX_gi a7 rfl (zX_pf a7 (show 1 < 2 by decide) ?_)
  refine q _ ⟨fun k k7 k8 => ?_, ?_, rfl⟩ ⟨?_, os.set O.length (.int (zby b)), ?_, by rw [List.length_set]; exact l8, by rw [List.length_append, List.length_singleton]; omega, ?_, ?_⟩
  · rw [zown_ne a7 k7, zown_ne h8 k8]
  · rw [zput_ln, zput_ln]
  · rw [zown_put a7, nI_1, List.length_append, List.length_singleton]; rfl
  · rw [zown_ne a7 (by decide)]; exact zown_put h8
  · intro v hv
    rcases List.mem_or_eq_of_mem_set hv with hv | hv
    · exact i8 v hv
    · exact ⟨_, hv⟩
  · intro i c hc
    by_cases hi : i < O.length
    · rw [List.getElem?_append_left hi] at hc
      rw [List.getElem?_set_ne (by omega)]
      exact v8 i c hc
    · by_cases hi2 : i = O.length
      · subst hi2
        rw [List.getElem?_append_right (Nat.le_refl _), Nat.sub_self] at hc
        obtain rfl : b = c := Option.some.inj hc
        exact ⟨hb, List.getElem?_set_self (by omega)⟩
      · rw [List.getElem?_eq_none (by rw [List.length_append, List.length_singleton]; omega)] at hc
        cases hc
/-- a number's bytes behind the first -/
def zn7 : Nat → Nat → List Nat
  | 0, n => [n % 128]
  | f + 1, n => if n < 128 then [n] else (n % 128 + 128) :: zn7 f (n / 128)
def znum (s : Bool) (n : Nat) : List Nat := if n < 64 then [n + 64 * s.toNat] else (n % 64 + 64 * s.toNat + 128) :: zn7 20 (n / 64)
theorem zn7_len : ∀ f n, 1 ≤ (zn7 f n).length ∧ (zn7 f n).length ≤ f + 1
  | 0, n => ⟨Nat.le_refl _, Nat.le_refl _⟩
  | f + 1, n => by
    unfold zn7
    split
    · simp
    · have := zn7_len f (n / 128)
      simp only [List.length_cons]; omega
theorem zshn {n k : Nat} (hk : k = 6 ∨ k = 7) (hn : n < 2 ^ 120) : (lN (n % 1152921504606846976) >>> ((nI k).toInt64 &&& 63)) ||| ((lN (n / 1152921504606846976) <<< ((60 - nI k).toInt64 &&& 63)) &&& (1152921504606846975 : Int64)) = lN (n / 2 ^ k % 1152921504606846976) ∧ lN (n / 1152921504606846976) >>> ((nI k).toInt64 &&& 63) = lN (n / 2 ^ k / 1152921504606846976) := by
  have e1 : (60 : Int32) - nI k = nI (60 - k) := pk_sub (a := 60) (b := k) (by omega)
  have mk : ∀ v, lN v &&& (1152921504606846975 : Int64) = lN (v % 1152921504606846976) := fun v => by
    rw [wb_mod v, show (1152921504606846975 : Int64) = lN (2 ^ 60 - 1) by decide, wb_mask (Nat.mod_lt _ (by decide)) (by decide)]
    congr 1
    omega
  rw [e1, pf_shr (zsmod k (by omega)) (by omega), pf_shr (zsmod k (by omega)) (by omega), wb_shl _ (by omega), mk]
  refine ⟨?_, ?_⟩
  · have e2 : n / 1152921504606846976 * 2 ^ (60 - k) % 1152921504606846976 = (n / 1152921504606846976 % 2 ^ k) * 2 ^ (60 - k) := by
      have p : (1152921504606846976 : Nat) = 2 ^ k * 2 ^ (60 - k) := by rw [← Nat.pow_add, show k + (60 - k) = 60 by omega]
      conv => lhs; rhs; rw [p]
      rw [Nat.mul_mod_mul_right]
    rw [e2]
    rcases hk with rfl | rfl
    · rw [g_or' (k := 54) rfl (by omega) (by omega)]; congr 1; omega
    · rw [g_or' (k := 53) rfl (by omega) (by omega)]; congr 1; omega
  · rcases hk with rfl | rfl <;> (congr 1; omega)
theorem zor128 : ∀ b, b < 128 → nI b ||| 128 = nI (b + 128) := by decide
theorem zc116 {s : Bool} (ho : zOut h O) (ha : zown h a = some (zNc s n)) (hn : n < 2 ^ 120) (hl : O.length + (znum s n).length ≤ 2686) (q : ∀ h', zOf h h' → zOut h' (O ++ znum s n) → Q (.inl none) h') : zG xs (d + 1) (116, 0, lv_args 0 [zo (some 7), zo (some a)], []) h Q := by
  have last : ∀ J h1 O1 b, zOf h h1 → zOut h1 O1 → b < 256 → O1.length < 2686 → (∀ h', zOf h h' → zOut h' (O1 ++ [b]) → Q (.inl none) h') → zw_116_118 xs (d + 1) Q J (some 7) (nI b) h1 := by
    intro J h1 O1 b f1 o1 hb hl1 k
    exact zX_cv o1.1 (zc114 o1 hb hl1 (fun h' f2 o2 => zKV_v (k h' (zOf_trans f1 f2) o2)))
  refine zm_116 (fun m l0 l3 l5 l7 l8 l9 h1 => ∃ v e kb O1 i, m = 100 - i ∧ i + 17 ≤ 100 ∧ l0 = some 7 ∧ l3 = lN (v % 1152921504606846976) ∧ l5 = lN (v / 1152921504606846976) ∧ l7 = nI (v % 2 ^ kb + e) ∧ l8 = nI kb ∧ l9 = nI i ∧ zOf h h1 ∧ zOut h1 O1 ∧ v < 2 ^ 120 ∧ (kb = 6 ∧ (e = 0 ∨ e = 64) ∧ i = 0 ∧ O1 ++ (if v < 64 then [v + e] else (v % 64 + e + 128) :: zn7 20 (v / 64)) = O ++ znum s n ∨ kb = 7 ∧ e = 0 ∧ ∃ f, v < 128 * 128 ^ f ∧ i + f ≤ 21 ∧ 0 < v ∧ O1 ++ zn7 f v = O ++ znum s n)) ?_ ?_
  · rintro m l0 l3 l5 l7 l8 l9 h1 ⟨v, e, kb, O1, i, rfl, hi, rfl, rfl, rfl, rfl, rfl, rfl, f1, o1, hv, hc⟩
    have hkb : kb = 6 ∨ kb = 7 := by rcases hc with ⟨h, _⟩ | ⟨h, _⟩ <;> omega
    refine ⟨fun _ => ?_, fun z => absurd (nI_lt (by omega : i < 120) (by decide)) z⟩
    obtain ⟨s1, s2⟩ := zshn hkb hv
    intro x hx
    rw [s1] at hx
    subst hx
    intro x hx
    rw [s2] at hx
    subst hx
    have hd : v / 2 ^ kb ≤ v := Nat.div_le_self _ _
    -- nothing is left: the last byte
    have fin : v / 2 ^ kb = 0 → ∀ J, zw_116_118 xs (d + 1) Q J (some 7) (nI (v % 2 ^ kb + e)) h1 := by
      intro hz J
      rcases hc with ⟨rfl, he, hi0, hO⟩ | ⟨rfl, rfl, f, hf, hif, hv0, hO⟩
      · have hv64 : v < 64 := by omega
        rw [if_pos hv64] at hO
        have hlen : O1.length + 1 = O.length + (znum s n).length := by have := congrArg List.length hO; simpa using this
        refine last J h1 O1 _ f1 o1 (by omega) (by omega) (fun h' f2 o2 => q h' f2 ?_)
        rw [show v % 2 ^ 6 + e = v + e by omega, hO] at o2
        exact o2
      · have hv128 : v < 128 := by omega
        have hz7 : zn7 f v = [v] := by
          cases f with
          | zero => unfold zn7; rw [Nat.mod_eq_of_lt hv128]
          | succ f => unfold zn7; rw [if_pos hv128]
        rw [hz7] at hO
        have hlen : O1.length + 1 = O.length + (znum s n).length := by have := congrArg List.length hO; simpa using this
        refine last J h1 O1 _ f1 o1 (by omega) (by omega) (fun h' f2 o2 => q h' f2 ?_)
        rw [show v % 2 ^ 7 + 0 = v by omega, hO] at o2
        exact o2
    have more : v / 2 ^ kb ≠ 0 → zw_116_90 xs (d + 1) Q (fun l0 l3 l5 l7 l8 l9 h1 => ∃ n1, n1 < 100 - i ∧ ∃ v e kb O1 i, n1 = 100 - i ∧ i + 17 ≤ 100 ∧ l0 = some 7 ∧ l3 = lN (v % 1152921504606846976) ∧ l5 = lN (v / 1152921504606846976) ∧ l7 = nI (v % 2 ^ kb + e) ∧ l8 = nI kb ∧ l9 = nI i ∧ zOf h h1 ∧ zOut h1 O1 ∧ v < 2 ^ 120 ∧ (kb = 6 ∧ (e = 0 ∨ e = 64) ∧ i = 0 ∧ O1 ++ (if v < 64 then [v + e] else (v % 64 + e + 128) :: zn7 20 (v / 64)) = O ++ znum s n ∨ kb = 7 ∧ e = 0 ∧ ∃ f, v < 128 * 128 ^ f ∧ i + f ≤ 21 ∧ 0 < v ∧ O1 ++ zn7 f v = O ++ znum s n)) (some 7) (lN (v / 2 ^ kb % 1152921504606846976)) (lN (v / 2 ^ kb / 1152921504606846976)) (nI (v % 2 ^ kb + e)) (nI i) h1 := by
      intro hz
      obtain ⟨f, hb, hO, hf, hif⟩ : ∃ f, v % 2 ^ kb + e < 128 ∧ (O1 ++ [v % 2 ^ kb + e + 128]) ++ zn7 f (v / 2 ^ kb) = O ++ znum s n ∧ v / 2 ^ kb < 128 * 128 ^ f ∧ i + 1 + f ≤ 21 := by
        rcases hc with ⟨rfl, he, hi0, hO⟩ | ⟨rfl, rfl, f, hf, hif, hv0, hO⟩
        · have hv64 : ¬ v < 64 := by omega
          rw [if_neg hv64] at hO
          refine ⟨20, by omega, ?_, by omega, by omega⟩
          rw [List.append_assoc]; exact hO
        · have hv128 : ¬ v < 128 := by omega
          cases f with
          | zero => rw [Nat.pow_zero] at hf; omega
          | succ f =>
            unfold zn7 at hO
            rw [if_neg hv128] at hO
            refine ⟨f, by omega, ?_, ?_, by omega⟩
            · rw [List.append_assoc]; exact hO
            · rw [Nat.pow_succ] at hf; omega
      unfold zw_116_90
      rw [zor128 _ hb]
      have hlen : O1.length + 1 + (zn7 f (v / 2 ^ kb)).length = O.length + (znum s n).length := by
        have := congrArg List.length hO
        rw [List.length_append, List.length_append, List.length_append, List.length_singleton] at this
        exact this
      have hpos : 0 < v / 2 ^ kb := Nat.pos_of_ne_zero hz
      refine zX_cv o1.1 (zc114 o1 (by omega) (by have := (zn7_len f (v / 2 ^ kb)).1; omega) (fun h' f2 o2 => zKV_v ?_))
      intro x hx
      have hx : x = nI (v / 2 ^ kb % 2 ^ 7 + 0) := by
        rw [hx, show (127 : Int64) = lN (2 ^ 7 - 1) by decide, wb_mask (by omega) (by decide), lN_i]
        congr 1; omega
      intro y hy
      refine ⟨100 - (i + 1), by omega, v / 2 ^ kb, 0, 7, _, i + 1, rfl, by omega, rfl, rfl, rfl, hx, rfl, by rw [hy, nI_1], zOf_trans f1 f2, o2, by omega, Or.inr ⟨rfl, rfl, f, hf, hif, hpos, hO⟩⟩
    refine ⟨fun z => ⟨fun z2 => fin ?_ _, fun z2 => more ?_⟩, fun z => more ?_⟩
    · rw [zL0 (by omega)] at z z2; omega
    · rw [zL0 (by omega)] at z2; omega
    · rw [zL0 (by omega)] at z; omega
  · have go : ∀ s0 : Nat, s0 = 64 * s.toNat → ∀ J : zP → Int64 → Int64 → Int32 → Int32 → Int32 → zH → Prop, J (some 7) (lN (n % 1152921504606846976)) (lN (n / 1152921504606846976)) (nI (n % 64 + s0)) 6 0 h → zw_116_13 xs (d + 1) Q J (some 7) (some a) (nI s0) h := by
      intro s0 hs0 J hJ
      refine zN_l ha (zN_h ha ?_)
      intro x hx
      have hx : x = nI (n % 64 + s0) := by
        have h64 : ∀ b, b < 64 → ∀ e, e < 2 → nI b ||| nI (64 * e) = nI (b + 64 * e) := by decide
        rw [hx, show (63 : Int64) = lN (2 ^ 6 - 1) by decide, wb_mask (by omega) (by decide), lN_i, hs0, h64 _ (by omega) _ (by cases s <;> decide)]
        congr 1; omega
      subst hx
      exact hJ
    have inv : ∃ n1, ∃ v e kb O1 i, n1 = 100 - i ∧ i + 17 ≤ 100 ∧ (some 7 : zP) = some 7 ∧ lN (n % 1152921504606846976) = lN (v % 1152921504606846976) ∧ lN (n / 1152921504606846976) = lN (v / 1152921504606846976) ∧ nI (n % 64 + 64 * s.toNat) = nI (v % 2 ^ kb + e) ∧ (6 : Int32) = nI kb ∧ (0 : Int32) = nI i ∧ zOf h h ∧ zOut h O1 ∧ v < 2 ^ 120 ∧ (kb = 6 ∧ (e = 0 ∨ e = 64) ∧ i = 0 ∧ O1 ++ (if v < 64 then [v + e] else (v % 64 + e + 128) :: zn7 20 (v / 64)) = O ++ znum s n ∨ kb = 7 ∧ e = 0 ∧ ∃ f, v < 128 * 128 ^ f ∧ i + f ≤ 21 ∧ 0 < v ∧ O1 ++ zn7 f v = O ++ znum s n) := by
      refine ⟨100, n, 64 * s.toNat, 6, O, 0, by omega, by omega, rfl, rfl, rfl, rfl, rfl, rfl, zOf_refl, ho, hn, Or.inl ⟨rfl, by cases s <;> simp, rfl, rfl⟩⟩
    refine zN_b ha ⟨fun z => ?_, fun z => ?_⟩
    · rw [zB_0] at z
      subst z
      exact go 0 rfl _ inv
    · have : s = true := by cases s; exact absurd rfl z; rfl
      subst this
      exact go 64 rfl _ inv
end OUT
/-! the bytes of a value -/
def zlen2 : Term → Nat
  | .rem _ l => zlen2 l + 1
  | _ => 0
def zels : Term → List Term
  | .rem v l => v :: zels l
  | _ => []
def zser : Term → List Nat
  | .sub (.arg s) (.arg n) => 0 :: znum (s == 1) n
  | .mul (.arg k) (.arg w) => 1 :: k :: (List.range k).map (fun i => w / 2 ^ (8 * (7 - i)) % 256)
  | .arg c => [4, c]
  | .div (.arg c) v => 5 :: c :: zser v
  | .add (.div (.arg c) v) w => 6 :: c :: (zser v ++ zser w)
  | .old l => 2 :: zlen2 l :: zser l
  | .length l => 2 :: zlen2 l :: zser l
  | .sum l => 2 :: zlen2 l :: zser l
  | .rem v l => zser v ++ zser l
  | _ => []
/-- what is written: words of values, rows of at most 40 -/
def zWf : Term → Prop
  | .sub (.arg _) (.arg _) => True
  | .mul (.arg _) (.arg _) => True
  | .arg c => 20 ≤ c ∧ c < 29
  | .div (.arg c) v => (20 ≤ c ∧ c < 29) ∧ zWf v
  | .add (.div (.arg c) v) w => (20 ≤ c ∧ c < 29) ∧ zWf v ∧ zWf w
  | .old l => zlen2 l ≤ 40 ∧ zWf l
  | .length l => zlen2 l ≤ 40 ∧ zWf l
  | .sum l => zlen2 l ≤ 40 ∧ zWf l
  | .null => True
  | .rem v l => zWf v ∧ zWf l
  | _ => False
def zht : Term → Nat
  | .div (.arg _) v => 1 + zht v
  | .add (.div (.arg _) v) w => 1 + max (zht v) (zht w)
  | .old l => 1 + zht l
  | .length l => 1 + zht l
  | .sum l => 1 + zht l
  | .rem v l => max (zht v) (zht l)
  | _ => 0
theorem zels_len : ∀ l : Term, (zels l).length = zlen2 l := by
  intro l
  fun_induction zels l with
  | case1 v l ih => rw [List.length_cons, ih]; rfl
  | case2 l h =>
    unfold zlen2
    split
    · rename_i v l; exact absurd rfl (h v l)
    · rfl
theorem zels_lt {l v : Term} : v ∈ zels l → SizeOf.sizeOf v < SizeOf.sizeOf l := by
  fun_induction zels l with
  | case1 w l ih =>
    intro hv
    rcases List.mem_cons.mp hv with rfl | hv
    · simp; omega
    · have := ih hv
      simp; omega
  | case2 l h => intro hv; cases hv
theorem zels_ht {l v : Term} : v ∈ zels l → zht v ≤ zht l := by
  fun_induction zels l with
  | case1 w l ih =>
    intro hv
    rw [zht]
    rcases List.mem_cons.mp hv with rfl | hv
    · omega
    · have := ih hv
      omega
  | case2 l h => intro hv; cases hv
theorem zels_wf {l v : Term} : zWf l → v ∈ zels l → zWf v := by
  fun_induction zels l with
  | case1 w l ih =>
    intro hw hv
    rw [zWf] at hw
    rcases List.mem_cons.mp hv with rfl | hv
    · exact hw.1
    · exact ih hw.2 hv
  | case2 l h => intro _ hv; cases hv
theorem zVal_els {h : zH} : ∀ (l : Term) (is : List Nat), zVal h l (.inr is) → l = zenc (zels l) ∧ zVs h (zels l) is := by
  intro l
  fun_induction zels l with
  | case1 v l ih =>
    rintro is ⟨a, as, rfl, h1, h2⟩
    obtain ⟨e1, e2⟩ := ih as h2
    refine ⟨by rw [zenc, ← e1], by rw [List.length_cons, List.length_cons, e2.1], fun i w b hw hb => ?_⟩
    cases i with
    | zero =>
      obtain rfl : v = w := Option.some.inj hw
      obtain rfl : a = b := Option.some.inj hb
      exact h1
    | succ i => exact e2.2 i w b hw hb
  | case2 l hl =>
    intro is hv
    unfold zVal at hv
    split at hv <;> first | (rename_i z; cases z; done) | skip
    all_goals first | exact hv.elim | skip
    · rename_i z
      cases z
      have hv : is = [] := hv
      subst hv
      exact ⟨rfl, rfl, fun i w b hw => by simp at hw⟩
    · rename_i v l2 is2 z
      exact absurd rfl (hl v l2)
theorem zser_els : ∀ L : List Term, zser (zenc L) = L.flatMap zser
  | [] => rfl
  | v :: L => by rw [zenc, zser, zser_els L, List.flatMap_cons]
/-- a row's value -/
theorem zRow_of {h : zH} {a : Nat} {l : Term} (hv : zVal h (.old l) (.inl a)) : l = zenc (zels l) ∧ ∃ is, zRv h a (zels l) is := by
  have hv0 := hv
  obtain ⟨r, is, h1, h2, h3, h4⟩ := hv
  have e := (zVal_els l is h4).1
  refine ⟨e, ?_⟩
  rw [e] at hv0
  exact zRv_val.mp hv0
section SER
variable {xs : List Value} {d : Nat} {h : zH} {Q : zO → zH → Prop} {O : List Nat} {a b n : Nat}
theorem zOut_cls (ho : zOut h O) : zown h 7 = some (.inr (2, [.ref 8, .int (nI O.length)])) := ho.1
theorem zc117 {k w : Nat} (ho : zOut h O) (ha : zown h a = some (.inr (3, [.int 1, .int (nI k), .long (lN w), .null, .null, .null, .null]))) (hk : k ≤ 8) (hw : w < 2 ^ 63) (hl : O.length + (zser (.mul (.arg k) (.arg w))).length ≤ 2686) (q : ∀ h', zOf h h' → zOut h' (O ++ zser (.mul (.arg k) (.arg w))) → Q (.inl none) h') : zG xs (d + 1) (117, 0, lv_args 0 [zo (some 7), zo (some a)], []) h Q := by
  have hlen : (zser (.mul (.arg k) (.arg w))).length = k + 2 := by unfold zser; rw [List.length_cons, List.length_cons, List.length_map, List.length_range]
  have keep : ∀ h1, zOf h h1 → zown h1 a = some (.inr (3, [.int 1, .int (nI k), .long (lN w), .null, .null, .null, .null])) := fun h1 f1 => zOf_own ho f1 _ _ ha rfl
  refine zm_117 (fun m l0 l1 l2 h1 => ∃ i, m = k - i ∧ i ≤ k ∧ l0 = some 7 ∧ l1 = some a ∧ l2 = nI i ∧ zOf h h1 ∧ zOut h1 (O ++ (1 :: k :: (List.range i).map (fun i => w / 2 ^ (8 * (7 - i)) % 256)))) ?_ ?_
  · rintro m l0 l1 l2 h1 ⟨i, rfl, hi, rfl, rfl, rfl, f1, o1⟩
    refine zX_gi (keep h1 f1) rfl ⟨fun z => ?_, fun z => ?_⟩
    · have hik : i < k := (nI_ltI (by omega) (by omega)).mp z
      refine zX_gl (keep h1 f1) rfl ?_
      have e1 : ((((lN w).toUInt64 >>> ((((8 : Int32) * ((7 : Int32) - nI i))).toInt64.toUInt64 &&& Int64.toUInt64 63)).toInt64).toInt32 &&& (255 : Int32)) = nI (w / 2 ^ (8 * (7 - i)) % 256) := by
        rw [show (7 : Int32) - nI i = nI (7 - i) from pk_sub (a := 7) (by omega), show (8 : Int32) * nI (7 - i) = nI (8 * (7 - i)) from pk_mul 8 (7 - i), wb_shr (by omega) (by omega), lN_i]
        have := pk_and (nI (w / 2 ^ (8 * (7 - i)))) (m := 255) 8 rfl
        rw [this]
        congr 1
        have e2 : (nI (w / 2 ^ (8 * (7 - i)))).toBitVec.toNat = w / 2 ^ (8 * (7 - i)) % 2 ^ 32 := by
          show (BitVec.ofNat 32 _).toNat = _
          exact BitVec.toNat_ofNat _ _
        rw [e2]
        omega
      rw [e1]
      refine zX_cv o1.1 (zc114 o1 (Nat.mod_lt _ (by decide)) (by rw [List.length_append, List.length_cons, List.length_cons, List.length_map, List.length_range]; omega) (fun h' f2 o2 => zKV_v ?_))
      intro x hx
      refine ⟨k - (i + 1), by omega, i + 1, rfl, hik, rfl, rfl, by rw [hx, nI_1], zOf_trans f1 f2, ?_⟩
      rw [List.range_succ, List.map_append, List.map_singleton]
      rw [List.append_assoc] at o2
      exact o2
    · have hik : i = k := by
        have := mt (nI_ltI (a := i) (b := k) (by omega) (by omega)).mpr z
        omega
      subst hik
      exact q h1 f1 o1
  · refine zX_cv ho.1 (zc114 (b := 1) ho (by decide) (by omega) (fun h1 f1 o1 => zKV_v ?_))
    refine zX_gi (keep h1 f1) rfl (zX_cv o1.1 (zc114 o1 (by omega) (by rw [List.length_append, List.length_singleton]; omega) (fun h2 f2 o2 => zKV_v ?_)))
    refine ⟨k, 0, by omega, by omega, rfl, rfl, rfl, zOf_trans f1 f2, ?_⟩
    rw [List.append_assoc] at o2
    exact o2
theorem zc113 : ∀ (N : Nat) (V : Term), SizeOf.sizeOf V ≤ N → ∀ (a d : Nat) (h : zH) (O : List Nat) (Q : zO → zH → Prop), zWf V → zOut h O → zVal h V (.inl a) → O.length + (zser V).length ≤ 2686 → 2 * zht V ≤ d → (∀ h', zOf h h' → zOut h' (O ++ zser V) → Q (.inl none) h') → zG xs (d + 2) (113, 0, lv_args 0 [zo (some 7), zo (some a)], []) h Q := by
  intro N
  induction N with
  | zero => intro V hN; cases V <;> simp at hN
  | succ N ih =>
    intro V hN a d h O Q hw ho hv hl hd q
    -- rows
    have row : ∀ l, SizeOf.sizeOf l ≤ N → zlen2 l ≤ 40 → zWf l → zVal h (.old l) (.inl a) → O.length + (2 :: zlen2 l :: zser l).length ≤ 2686 → 2 * (1 + zht l) ≤ d → (∀ h', zOf h h' → zOut h' (O ++ (2 :: zlen2 l :: zser l)) → Q (.inl none) h') → zG xs (d + 2) (113, 0, lv_args 0 [zo (some 7), zo (some a)], []) h Q := by
      intro l hs hlen hwl hvl hl hd q
      obtain ⟨el, is, hr⟩ := zRow_of hvl
      obtain ⟨r, r1, r2, r3, r4⟩ := hr.1
      have isl : is.length = zlen2 l := by rw [hr.2.1, zels_len]
      obtain ⟨d, rfl⟩ : ∃ d', d = d' + 2 := ⟨d - 2, by omega⟩
      have keep : ∀ h1, zOf h h1 → zRl h1 a is := by
        intro h1 f1
        have H := zOf_own ho f1
        exact ⟨r, H _ _ r1 rfl, H _ _ r2 (zall_ref is), r3, fun b hb => by obtain ⟨fs, z⟩ := r4 b hb; exact ⟨fs, H _ _ z rfl⟩⟩
      rw [el, zser_els, ← el, List.length_cons, List.length_cons] at hl
      apply zm_113
      refine zX_gi r1 rfl ⟨fun z => absurd z (by decide), fun _ => zX_gi r1 rfl ⟨fun z => absurd z (by decide), fun _ => zX_gi r1 rfl ⟨fun _ => zX_cv ho.1 ?_, fun z => absurd rfl z⟩⟩⟩
      refine zm_118 (fun m l0 l1 l2 h1 => ∃ i, m = is.length - i ∧ i ≤ is.length ∧ l0 = some 7 ∧ l1 = some a ∧ l2 = nI i ∧ zOf h h1 ∧ zOut h1 (O ++ (2 :: zlen2 l :: ((zels l).take i).flatMap zser))) ?_ ?_
      · rintro m l0 l1 l2 h1 ⟨i, rfl, hi, rfl, rfl, rfl, f1, o1⟩
        obtain ⟨s, s1, s2, s3, s4⟩ := keep h1 f1
        refine zX_gi s1 rfl ⟨fun z => ?_, fun z => ?_⟩
        · have hil : i < is.length := (nI_ltI (by omega) (by omega)).mp z
          obtain ⟨b, hb⟩ : ∃ b, is[i]? = some b := ⟨_, List.getElem?_eq_getElem hil⟩
          obtain ⟨v, hv⟩ : ∃ v, (zels l)[i]? = some v := ⟨_, List.getElem?_eq_getElem (by rw [zels_len, ← isl]; exact hil)⟩
          have hvm := List.mem_of_getElem? hv
          have hsplit : (zels l).flatMap zser = ((zels l).take i).flatMap zser ++ (zser v ++ ((zels l).drop (i + 1)).flatMap zser) := by
            have e1 : zels l = (zels l).take i ++ v :: (zels l).drop (i + 1) := by
              rw [List.getElem?_eq_some_iff] at hv
              obtain ⟨hv1, hv2⟩ := hv
              rw [← hv2, ← List.drop_eq_getElem_cons hv1, List.take_append_drop]
            conv => lhs; rw [e1]
            rw [List.flatMap_append, List.flatMap_cons]
          have hvl2 : zVal h1 v (.inl b) := zVal_of ho f1 (hr.2.2 i v b hv hb)
          refine zX_cv s1 (zc15 (keep h1 f1) hb (zKR_v (zX_cv o1.1 (ih v (by have := zels_lt hvm; omega) b d h1 _ _ (zels_wf hwl hvm) o1 hvl2 ?_ (by have := zels_ht hvm; omega) (fun h2 f2 o2 => zKV_v ?_)))))
          · rw [hsplit] at hl
            simp only [List.length_append, List.length_cons] at hl ⊢
            omega
          · intro x hx
            refine ⟨is.length - (i + 1), by omega, i + 1, rfl, hil, rfl, rfl, by rw [hx, nI_1], zOf_trans f1 f2, ?_⟩
            rw [List.take_add_one, hv, List.flatMap_append]
            simp only [Option.toList_some, List.flatMap_cons, List.flatMap_nil, List.append_nil]
            simp only [List.append_assoc, List.cons_append] at o2 ⊢
            exact o2
        · have hil : i = is.length := by
            have := mt (nI_ltI (a := i) (b := is.length) (by omega) (by omega)).mpr z
            omega
          subst hil
          rw [show (zels l).take is.length = zels l from List.take_of_length_le (by rw [zels_len]; omega), ← zser_els, ← el] at o1
          exact zKV_v (q h1 f1 o1)
      · refine zX_cv ho.1 (zc114 (b := 2) ho (by decide) (by omega) (fun h1 f1 o1 => zKV_v ?_))
        obtain ⟨s, s1, s2, s3, s4⟩ := keep h1 f1
        rw [isl] at s1
        refine zX_gi s1 rfl (zX_cv o1.1 (zc114 o1 (by omega) (by rw [List.length_append, List.length_singleton]; omega) (fun h2 f2 o2 => zKV_v ?_)))
        refine ⟨is.length, 0, by omega, by omega, rfl, rfl, rfl, zOf_trans f1 f2, ?_⟩
        rw [List.append_assoc] at o2
        exact o2
    unfold zVal at hv
    split at hv <;> first | exact hv.elim | skip
    · -- a number
      rename_i s n a' z
      cases z
      obtain ⟨b, v1, v2, v3, v4⟩ := hv
      unfold zser at hl q
      rw [List.length_cons] at hl
      apply zm_113
      refine zX_gi v1 rfl ⟨fun _ => zX_cv ho.1 (zc114 (b := 0) ho (by decide) (by omega) (fun h1 f1 o1 => zKV_v ?_)), fun z => absurd rfl z⟩
      have v1' := zOf_own ho f1 _ _ v1 rfl
      refine zX_cv v1' (zc115 (s := false) (n := 0) (x := .null) (y := .null) v1' (zKR_v (zX_cv o1.1 (zc116 (d := d) o1 (zOf_own ho f1 _ _ v2 rfl) v3 (by rw [List.length_append, List.length_singleton]; omega) (fun h2 f2 o2 => zKV_v (q h2 (zOf_trans f1 f2) ?_))))))
      rw [List.append_assoc] at o2
      exact o2
    · -- a text
      rename_i k w a' z
      cases z
      obtain ⟨v1, v2, v3⟩ := hv
      apply zm_113
      refine zX_gi v1 rfl ⟨fun z => absurd z (by decide), fun _ => zX_gi v1 rfl ⟨fun _ => zX_cv ho.1 (zc117 (d := d) ho v1 v2 v3 hl (fun h' f o => zKV_v (q h' f o))), fun z => absurd rfl z⟩⟩
    · -- a word without parts
      rename_i c a' z
      cases z
      obtain ⟨v1, v2⟩ := hv
      unfold zWf at hw
      unfold zser at hl q
      simp only [List.length_cons, List.length_nil] at hl
      have nc : ∀ k, k < 3 → ¬ nI c = nI k := fun k hk => by rw [nI_eq (by omega) (by omega)]; omega
      apply zm_113
      refine zX_gi v1 rfl ⟨fun z => absurd z (nc 0 (by decide)), fun _ => zX_gi v1 rfl ⟨fun z => absurd z (nc 1 (by decide)), fun _ => zX_gi v1 rfl ⟨fun z => absurd z (nc 2 (by decide)), fun _ => zX_cv ho.1 ?_⟩⟩⟩
      refine zm_119 (zX_gn v1 rfl ⟨fun _ => zX_gn v1 rfl ⟨fun _ => ?_, fun z => absurd rfl z⟩, fun z => absurd rfl z⟩)
      intro x hx
      have hx : x = 0 := hx
      subst hx
      refine zX_cv ho.1 (zc114 (b := 4) ho (by decide) (by omega) (fun h1 f1 o1 => zKV_v ?_))
      refine zX_gi (zOf_own ho f1 _ _ v1 rfl) rfl (zX_cv o1.1 (zc114 o1 (by omega) (by rw [List.length_append, List.length_singleton]; omega) (fun h2 f2 o2 => zKV_v ?_)))
      refine ⟨fun z => absurd z (by decide), fun _ => ⟨fun z => absurd z (by decide), fun _ => zKV_v (q h2 (zOf_trans f1 f2) ?_)⟩⟩
      rw [List.append_assoc] at o2
      exact o2
    · -- a word with a part
      rename_i c v a' z
      cases z
      obtain ⟨b, v1, v2, v3⟩ := hv
      unfold zWf at hw
      unfold zser at hl q
      unfold zht at hd
      simp only [List.length_cons] at hl
      obtain ⟨d, rfl⟩ : ∃ d', d = d' + 2 := ⟨d - 2, by omega⟩
      have nc : ∀ k, k < 3 → ¬ nI c = nI k := fun k hk => by rw [nI_eq (by omega) (by omega)]; omega
      apply zm_113
      refine zX_gi v1 rfl ⟨fun z => absurd z (nc 0 (by decide)), fun _ => zX_gi v1 rfl ⟨fun z => absurd z (nc 1 (by decide)), fun _ => zX_gi v1 rfl ⟨fun z => absurd z (nc 2 (by decide)), fun _ => zX_cv ho.1 ?_⟩⟩⟩
      refine zm_119 (zX_gr v1 rfl ⟨fun z => absurd z (by simp), fun _ => zX_gn v1 rfl ⟨fun _ => ?_, fun z => absurd rfl z⟩⟩)
      intro x hx
      have hx : x = 1 := hx
      subst hx
      refine zX_cv ho.1 (zc114 (b := 5) ho (by decide) (by omega) (fun h1 f1 o1 => zKV_v ?_))
      refine zX_gi (zOf_own ho f1 _ _ v1 rfl) rfl (zX_cv o1.1 (zc114 o1 (by omega) (by rw [List.length_append, List.length_singleton]; omega) (fun h2 f2 o2 => zKV_v ?_)))
      have f12 := zOf_trans f1 f2
      have v1' := zOf_own ho f12 _ _ v1 rfl
      refine ⟨fun _ => zX_cv v1' (zc12 v1' (zKR_v (zX_cv o2.1 (ih v (by simp at hN; omega) b d h2 _ _ hw.2 o2 (zVal_of ho f12 v3) (by simp only [List.length_append, List.length_singleton]; omega) (by omega) (fun h3 f3 o3 => zKV_v ⟨fun z => absurd z (by decide), fun _ => zKV_v (q h3 (zOf_trans f12 f3) ?_)⟩))))), fun z => absurd (by decide) z⟩
      simp only [List.append_assoc, List.cons_append, List.nil_append] at o3 ⊢
      exact o3
    · -- a word with two parts
      rename_i c v w a' z
      cases z
      obtain ⟨b, e, v1, v2, v3, v4⟩ := hv
      unfold zWf at hw
      unfold zser at hl q
      unfold zht at hd
      simp only [List.length_cons, List.length_append] at hl
      obtain ⟨d, rfl⟩ : ∃ d', d = d' + 2 := ⟨d - 2, by omega⟩
      have nc : ∀ k, k < 3 → ¬ nI c = nI k := fun k hk => by rw [nI_eq (by omega) (by omega)]; omega
      apply zm_113
      refine zX_gi v1 rfl ⟨fun z => absurd z (nc 0 (by decide)), fun _ => zX_gi v1 rfl ⟨fun z => absurd z (nc 1 (by decide)), fun _ => zX_gi v1 rfl ⟨fun z => absurd z (nc 2 (by decide)), fun _ => zX_cv ho.1 ?_⟩⟩⟩
      refine zm_119 (zX_gr v1 rfl ⟨fun z => absurd z (by simp), fun _ => zX_gr v1 rfl ⟨fun z => absurd z (by simp), fun _ => ?_⟩⟩)
      intro x hx
      have hx : x = 2 := hx
      subst hx
      refine zX_cv ho.1 (zc114 (b := 6) ho (by decide) (by omega) (fun h1 f1 o1 => zKV_v ?_))
      refine zX_gi (zOf_own ho f1 _ _ v1 rfl) rfl (zX_cv o1.1 (zc114 o1 (by omega) (by rw [List.length_append, List.length_singleton]; omega) (fun h2 f2 o2 => zKV_v ?_)))
      have f12 := zOf_trans f1 f2
      have v1' := zOf_own ho f12 _ _ v1 rfl
      refine ⟨fun _ => zX_cv v1' (zc12 v1' (zKR_v (zX_cv o2.1 (ih v (by simp at hN; omega) b d h2 _ _ hw.2.1 o2 (zVal_of ho f12 v3) (by simp only [List.length_append, List.length_singleton]; omega) (by omega) (fun h3 f3 o3 => zKV_v ⟨fun _ => ?_, fun z => absurd (by decide) z⟩))))), fun z => absurd (by decide) z⟩
      have f13 := zOf_trans f12 f3
      have v1'' := zOf_own ho f13 _ _ v1 rfl
      refine zX_cv v1'' (zc81 v1'' (zKR_v (zX_cv o3.1 (ih w (by simp at hN; omega) e d h3 _ _ hw.2.2 o3 (zVal_of ho f13 v4) (by simp only [List.length_append, List.length_singleton]; omega) (by omega) (fun h4 f4 o4 => zKV_v (zKV_v (q h4 (zOf_trans f13 f4) ?_)))))))
      simp only [List.append_assoc, List.cons_append, List.nil_append] at o4 ⊢
      exact o4
    · rename_i l a' z
      cases z
      unfold zWf at hw
      exact row l (by simp at hN; omega) hw.1 hw.2 hv hl hd q
    · rename_i l a' z
      cases z
      unfold zWf at hw
      exact row l (by simp at hN; omega) hw.1 hw.2 hv hl hd q
    · rename_i l a' z
      cases z
      unfold zWf at hw
      exact row l (by simp at hN; omega) hw.1 hw.2 hv hl hd q
    · rename_i z; cases z
    · rename_i z; cases z
end SER
