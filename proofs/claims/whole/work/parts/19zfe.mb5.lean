/-! simple values: how long they are written -/
section MB5
variable {T v : Term}
theorem zn7_le : ∀ (k f n : Nat), n < 128 ^ (k + 1) → (zn7 f n).length ≤ k + 1
  | k, 0, n, _ => by rw [zn7]; simp
  | 0, f + 1, n, h => by rw [zn7, if_pos (by simpa using h)]; simp
  | k + 1, f + 1, n, h => by
    rw [zn7]
    split
    · simp
    · rw [List.length_cons]
      have : n / 128 < 128 ^ (k + 1) := Nat.div_lt_of_lt_mul (by rw [Nat.mul_comm, ← Nat.pow_succ]; exact h)
      have := zn7_le k f (n / 128) this
      omega
theorem znum_le {s : Bool} {n : Nat} (h : n < 2 ^ 120) : (znum s n).length ≤ 18 := by
  unfold znum
  split
  · simp
  · rw [List.length_cons]
    have : n / 64 < 128 ^ (16 + 1) := Nat.div_lt_of_lt_mul (Nat.lt_of_lt_of_le h (by decide))
    have := zn7_le 16 20 (n / 64) this
    omega
theorem zsim_w : ∀ (K a : Term), zTok K → ztsim K = true → zVt K a → zWf a ∧ (zser a).length + 2 ≤ 21 * 2 ^ (ztdep K - 1) ∧ zht a + 1 ≤ ztdep K := by
  intro K
  fun_induction ztsim K with
  | case1 c =>
    intro a hk hs ha
    have hc : 1 ≤ c ∧ c ≤ 4 := of_decide_eq_true hs
    show zWf a ∧ (zser a).length + 2 ≤ 21 * 2 ^ (1 - 1) ∧ zht a + 1 ≤ 1
    rcases ha with ⟨h, _⟩ | ⟨h1, h2⟩ | ⟨h1, s, n, h2, h3, _⟩ | ⟨h1, k, w, h2, h3⟩
    · omega
    · rcases h2 with rfl | rfl
      · exact ⟨by constructor <;> decide, by decide, by decide⟩
      · exact ⟨by constructor <;> decide, by decide, by decide⟩
    · rw [h2]
      refine ⟨trivial, ?_, Nat.le_refl _⟩
      have := znum_le (s := (s.toNat == 1)) h3
      show (0 :: znum (s.toNat == 1) n).length + 2 ≤ 21
      rw [List.length_cons]; omega
    · rw [h2]
      refine ⟨trivial, ?_, Nat.le_refl _⟩
      have := h3.1
      show (1 :: k :: (List.range k).map _).length + 2 ≤ 21
      rw [List.length_cons, List.length_cons, List.length_map, List.length_range]; omega
  | case2 c A B ih1 ih2 =>
    intro a hk hs ha
    simp at hs
    obtain ⟨⟨rfl, s1⟩, s2⟩ := hs
    rcases ha with ⟨_, a1, a2, rfl, h1, h2⟩ | ⟨h, _⟩ | ⟨h, _⟩ | ⟨h, _⟩
    · obtain ⟨q1, q2, q3⟩ := ih1 a1 hk.2.1 s1 h1
      obtain ⟨r1, r2, r3⟩ := ih2 a2 hk.2.2 s2 h2
      refine ⟨⟨by constructor <;> decide, q1, r1⟩, ?_, ?_⟩
      · show (6 :: 23 :: (zser a1 ++ zser a2)).length + 2 ≤ 21 * 2 ^ (1 + max (ztdep A) (ztdep B) - 1)
        rw [List.length_cons, List.length_cons, List.length_append]
        have e1 : 2 ^ (ztdep A - 1) ≤ 2 ^ (max (ztdep A) (ztdep B) - 1) := Nat.pow_le_pow_right (by decide) (by omega)
        have e2 : 2 ^ (ztdep B - 1) ≤ 2 ^ (max (ztdep A) (ztdep B) - 1) := Nat.pow_le_pow_right (by decide) (by omega)
        have e3 : 2 ^ (1 + max (ztdep A) (ztdep B) - 1) = 2 * 2 ^ (max (ztdep A) (ztdep B) - 1) := by
          rw [← Nat.pow_succ']; congr 1; omega
        rw [e3]
        omega
      · show 1 + max (zht a1) (zht a2) + 1 ≤ 1 + max (ztdep A) (ztdep B)
        omega
    · omega
    · omega
    · omega
  | case3 => intro a hk hs; cases hs
theorem zfail_w (ht : zTg1 T) (h : ztsim T = true ∨ ztc T = 0) (hd : ztdep T ≤ 8) (hv : zVt T v) : znm v = v ∧ zWf v ∧ (zser v).length ≤ 2686 ∧ zht v ≤ 8 := by
  rcases h with hs | h0
  · obtain ⟨a1, a2, a3⟩ := zsim_w T v ht.1 hs hv
    have : 2 ^ (ztdep T - 1) ≤ 2 ^ 7 := Nat.pow_le_pow_right (by decide) (by omega)
    exact ⟨znm_s T v ht.1 hs hv, a1, by omega, by omega⟩
  · rw [zVt_unit ht.1 h0 hv]
    exact ⟨rfl, by constructor <;> decide, by decide, by decide⟩
end MB5
