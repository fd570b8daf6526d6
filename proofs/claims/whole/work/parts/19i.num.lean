/-! numbers: a sign and an amount below 2 to the 122nd; 2^60 = 1152921504606846976 -/
def zB (s : Bool) : Int32 := if s then 1 else 0
theorem zB_01 (s : Bool) : zB s = 0 ∨ zB s = 1 := by cases s <;> decide
theorem zB_0 {s : Bool} : zB s = 0 ↔ s = false := by cases s <;> decide
theorem zB_eq {s t : Bool} : zB s = zB t ↔ s = t := by cases s <;> cases t <;> decide
/-- a Num of the class -/
def zNc (s : Bool) (n : Nat) : zE := .inr (5, [.int (zB s), .long (lN (n / 1152921504606846976)), .long (lN (n % 1152921504606846976))])
theorem zput_new {h : zH} {n : Nat} {e e' : zE} : zput (zadd h e n) (h.1.length + zK0) e' = zadd h e' n := by
  unfold zput zadd
  dsimp only
  rw [Nat.add_sub_cancel, List.set_append_right _ _ (Nat.le_refl _), Nat.sub_self]
  rfl
theorem zl_sub {a b : Nat} (ha : a < 1152921504606846976) (hb : b < 1152921504606846976) : (lN a - lN b) >>> ((60 : Int32).toInt64 &&& 63) = (if b ≤ a then 0 else -1) ∧ (lN a - lN b) &&& (1152921504606846975 : Int64) = lN ((a + 1152921504606846976 - b) % 1152921504606846976) := by
  have k60 : (1152921504606846975 : Int64) = lN (2 ^ 60 - 1) := by decide
  have hs : ∀ x : Int64, (x >>> ((60 : Int32).toInt64 &&& 63)).toInt = x.toInt >>> 60 := fun x => BitVec.toInt_sshiftRight ..
  by_cases h : b ≤ a
  · rw [lN_sub h, if_pos h, k60, wb_mask (by omega) (by decide)]
    refine ⟨?_, ?_⟩
    · apply Int64.toInt_inj.mp
      rw [hs, pf_lI (by omega), Int.shiftRight_eq_div_pow]
      have : ((a - b : Nat) : Int) / ((2 ^ 60 : Nat) : Int) = 0 := by omega
      rw [this]; rfl
    · congr 1; omega
  · have hneg : (lN a - lN b).toInt = (a : Int) - b := by
      rw [Int64.toInt_sub, pf_lI (by omega), pf_lI (by omega)]
      exact Int.bmod_eq_of_le (by omega) (by omega)
    rw [if_neg h]
    refine ⟨?_, ?_⟩
    · apply Int64.toInt_inj.mp
      rw [hs, hneg, Int.shiftRight_eq_div_pow]
      have : ((a : Int) - b) / ((2 ^ 60 : Nat) : Int) = -1 := by omega
      rw [this]; rfl
    · have e1 : lN a - lN b = lN (a + 18446744073709551616 - b) := by
        apply Int64.toInt_inj.mp
        rw [hneg, lN_ti (by omega), if_neg (by omega)]
        omega
      rw [e1, k60, wb_mask (by omega) (by decide)]
      congr 1
      omega
section NUM
variable {xs : List Value} {d : Nat} {h : zH} {Q : zO → zH → Prop} {K : zH → Prop} {s t : Bool} {n m a b : Nat}
theorem zN_b {K : Int32 → Prop} (ha : zown h a = some (zNc s n)) (k : K (zB s)) : zGI (some a) 5 0 h K := zX_gi ha rfl k
theorem zN_h {K : Int64 → Prop} (ha : zown h a = some (zNc s n)) (k : K (lN (n / 1152921504606846976))) : zGL (some a) 5 1 h K := zX_gl ha rfl k
theorem zN_l {K : Int64 → Prop} (ha : zown h a = some (zNc s n)) (k : K (lN (n % 1152921504606846976))) : zGL (some a) 5 2 h K := zX_gl ha rfl k
theorem zL0 {n : Nat} (h : n < 2 ^ 63) : lN n = 0 ↔ n = 0 := pk_lEQ (b := 0) h (by decide)
/-- the constructor, at the cell just made -/
theorem zc33 {hi lo : Int64} (hh : hi = lN (n / 1152921504606846976)) (hlo : lo = lN (n % 1152921504606846976)) (hn : n < 2 ^ 122) (k : K (zadd h (zNc (s && n != 0) n) 3)) : zCN xs (d + 1) 33 (some (h.1.length + zK0)) [.int (zB s), .long hi, .long lo] (zadd h (.inr (5, [.int 0, .long 0, .long 0])) 3) K := by
  subst hh hlo
  refine ⟨_, rfl, by rw [zown_new]; rfl, d, rfl, zm_33 ?_⟩
  have main : ∀ t : Bool, (s && n != 0) = t → zw_33_27 xs d (zKV K fun _ _ => False) (some (h.1.length + zK0)) (lN (n / 1152921504606846976)) (lN (n % 1152921504606846976)) (zB t) (some (h.1.length + zK0)) (zadd h (.inr (5, [.int 0, .long 0, .long 0])) 3) := by
    intro t ht
    refine ⟨zB_01 t, zX_pf zown_new (show 0 < 3 by decide) ?_⟩
    rw [zput_new]
    refine zX_pf zown_new (show 1 < 3 by decide) ?_
    rw [zput_new]
    refine zX_pf zown_new (show 2 < 3 by decide) ?_
    rw [zput_new]
    rw [ht] at k
    exact k
  refine ⟨_, rfl, fun h1 => ?_, fun h1 => ⟨fun h2 => ⟨fun h3 => ?_, fun h3 => ?_⟩, fun h2 => ?_⟩⟩
  · exact main false (by rw [zB_0] at h1; rw [h1]; rfl)
  · rw [zL0 (by omega)] at h2 h3
    exact main false (by rw [show n = 0 by omega]; simp)
  · rw [zL0 (by omega)] at h3
    refine main true ?_
    have : s = true := by cases s; exact absurd rfl h1; rfl
    rw [this]
    have : n ≠ 0 := by omega
    simpa using this
  · rw [zL0 (by omega)] at h2
    refine main true ?_
    have : s = true := by cases s; exact absurd rfl h1; rfl
    rw [this]
    have : n ≠ 0 := by omega
    simpa using this
theorem zc121 (ha : zown h a = some (zNc s n)) (hn : n < 2 ^ 122) (k : Q (.inl (some (.int (zB (n == 0))))) h) : zG xs d (121, 0, lv_args 0 [zo (some a)], []) h Q := by
  apply zm_121
  refine zN_h ha ⟨fun h1 => zN_l ha ⟨fun h2 => ?_, fun h2 => ?_⟩, fun h1 => ?_⟩
  · rw [zL0 (by omega)] at h1 h2
    rw [show (n == 0) = true by simp; omega] at k; exact ⟨Or.inr rfl, k⟩
  · rw [zL0 (by omega)] at h2
    rw [show (n == 0) = false by simp; omega] at k; exact ⟨Or.inl rfl, k⟩
  · rw [zL0 (by omega)] at h1
    rw [show (n == 0) = false by simp; omega] at k; exact ⟨Or.inl rfl, k⟩
theorem zc129 (ha : zown h a = some (zNc s n)) (hn : n < 2 ^ 122) (k : Q (.inl (some (.ref (h.1.length + zK0)))) (zadd h (zNc (!s && n != 0) n) 3)) : zG xs (d + 1) (129, 0, lv_args 0 [zo (some a)], []) h Q := by
  apply zm_129
  refine zNO_i (zN_b (zown_add ha) ⟨fun h1 => ?_, fun h1 => ?_⟩)
  · rw [zB_0] at h1; subst h1
    exact zN_h (zown_add ha) (zN_l (zown_add ha) (zc33 (s := true) rfl rfl hn k))
  · have : s = true := by cases s; exact absurd rfl h1; rfl
    subst this
    exact zN_h (zown_add ha) (zN_l (zown_add ha) (zc33 (s := false) rfl rfl hn k))
theorem zc134 (ha : zown h a = some (zNc s n)) (hn : n < 2 ^ 122) (k : Q (.inl (some (.ref (h.1.length + zK0)))) (zadd h (zNc false n) 3)) : zG xs (d + 1) (134, 0, lv_args 0 [zo (some a)], []) h Q := by
  apply zm_134
  exact zNO_i (zN_h (zown_add ha) (zN_l (zown_add ha) (zc33 (s := false) rfl rfl hn k)))
theorem zc120 (ha : zown h a = some (zNc s n)) (hn : n < 2 ^ 122) (k : Q (.inl (some (.int (if s then -1 else if n = 0 then 0 else 1)))) h) : zG xs (d + 1) (120, 0, lv_args 0 [zo (some a)], []) h Q := by
  apply zm_120
  refine zN_b ha ⟨fun h1 => ?_, fun h1 => ?_⟩
  · rw [zB_0] at h1; subst h1
    refine zX_cv ha (zc121 ha hn ⟨fun h2 => ?_, fun h2 => ?_⟩)
    · rw [zB_0] at h2
      rw [if_neg (by decide), if_neg (by simpa using h2)] at k; exact k
    · have h3 : (n == 0) = true := by cases hb : (n == 0); rw [hb] at h2; exact absurd rfl h2; rfl
      rw [if_neg (by decide), if_pos (by simpa using h3)] at k; exact k
  · have : s = true := by cases s; exact absurd rfl h1; rfl
    subst this
    exact k
/-- the order of two numbers -/
def zord (s : Bool) (n : Nat) (t : Bool) (m : Nat) : Int32 := if s ≠ t then (if s then -1 else 1) else if n = m then 0 else if (decide (n < m)) ≠ s then -1 else 1
theorem zc82 (ha : zown h a = some (zNc s n)) (hb : zown h b = some (zNc t m)) (hn : n < 2 ^ 122) (hm : m < 2 ^ 122) (k : Q (.inl (some (.int (zord s n t m)))) h) : zG xs d (82, 0, lv_args 0 [zo (some a), zo (some b)], []) h Q := by
  apply zm_82
  have e1 : lN (n / 1152921504606846976) = lN (m / 1152921504606846976) ↔ n / 1152921504606846976 = m / 1152921504606846976 := pk_lEQ (by omega) (by omega)
  have e2 : lN (n % 1152921504606846976) = lN (m % 1152921504606846976) ↔ n % 1152921504606846976 = m % 1152921504606846976 := pk_lEQ (by omega) (by omega)
  have e3 : lN (n / 1152921504606846976) < lN (m / 1152921504606846976) ↔ n / 1152921504606846976 < m / 1152921504606846976 := pk_lLT (by omega) (by omega)
  have e4 : lN (n % 1152921504606846976) < lN (m % 1152921504606846976) ↔ n % 1152921504606846976 < m % 1152921504606846976 := pk_lLT (by omega) (by omega)
  have main : s = t → n ≠ m → zw_82_50 xs d Q (some a) (some b) h := by
    intro hst hnm
    unfold zord at k
    rw [if_neg (by simpa using hst), if_neg hnm] at k
    have m1 : n < m → zw_82_86 xs d Q (some a) h := by
      intro hlt
      refine zN_b ha ⟨fun z => ?_, fun z => ?_⟩
      · have : s = true := by cases s; exact absurd z (by decide); rfl
        rw [if_neg (by rw [this]; simpa using hlt)] at k; exact k
      · have : s = false := by cases s; rfl; exact absurd rfl z
        rw [if_pos (by rw [this]; simpa using hlt)] at k; exact k
    have m2 : ¬ n < m → zw_82_90 xs d Q (some a) h := by
      intro hlt
      refine zN_b ha ⟨fun z => ?_, fun z => ?_⟩
      · have : s = false := by cases s; rfl; exact absurd z (by decide)
        rw [if_neg (by rw [this]; simp; omega)] at k; exact k
      · have : s = true := by cases s; exact absurd rfl z; rfl
        rw [if_pos (by rw [this]; simp; omega)] at k; exact k
    refine zN_h ha (zN_h hb ⟨fun z => ?_, fun z => zN_h ha (zN_h hb ⟨fun z2 => zN_l ha (zN_l hb ⟨fun z3 => ?_, fun z3 => ?_⟩), fun z2 => ?_⟩)⟩)
    · rw [e3] at z; exact m1 (by omega)
    · rw [e1] at z2; rw [e4] at z3; exact m1 (by omega)
    · rw [e1] at z2; rw [e4] at z3; exact m2 (by omega)
    · rw [e1] at z2; rw [e3] at z; exact m2 (by omega)
  refine zN_b ha (zN_b hb ⟨fun h1 => zN_h ha (zN_h hb ⟨fun h2 => zN_l ha (zN_l hb ⟨fun h3 => ?_, fun h3 => ?_⟩), fun h2 => ?_⟩), fun h1 => zN_b ha ⟨fun h2 => ?_, fun h2 => ?_⟩⟩)
  · rw [zB_eq] at h1; rw [e1] at h2; rw [e2] at h3
    unfold zord at k
    rw [if_neg (by simpa using h1), if_pos (by omega)] at k; exact k
  · rw [zB_eq] at h1; rw [e2] at h3; exact main h1 (by omega)
  · rw [zB_eq] at h1; rw [e1] at h2; exact main h1 (by omega)
  · rw [zB_eq] at h1; rw [zB_0] at h2
    unfold zord at k
    rw [if_pos h1, h2] at k; exact k
  · rw [zB_eq] at h1
    have : s = true := by cases s; exact absurd rfl h2; rfl
    unfold zord at k
    rw [if_pos h1, this] at k; exact k
theorem zc126 (ha : zown h a = some (zNc s n)) (hb : zown h b = some (zNc t m)) (hn : n < 2 ^ 122) (hmn : m ≤ n) (k : Q (.inl (some (.ref (h.1.length + zK0)))) (zadd h (zNc (s && (n - m) != 0) (n - m)) 3)) : zG xs (d + 1) (126, 0, lv_args 0 [zo (some a), zo (some b)], []) h Q := by
  apply zm_126
  refine zN_l ha (zN_l hb ?_)
  intro x hx
  subst hx
  obtain ⟨q1, q2⟩ := zl_sub (a := n % 1152921504606846976) (b := m % 1152921504606846976) (by omega) (by omega)
  refine zNO_i (zN_b (zown_add ha) (zN_h (zown_add ha) (zN_h (zown_add hb) (zc33 (n := n - m) ?_ ?_ (by omega) k))))
  · rw [q1, lN_sub (by omega)]
    split
    · rename_i hle
      rw [Int64.add_zero]; congr 1; omega
    · rename_i hle
      rw [← Int64.sub_eq_add_neg]
      refine (lN_sub (b := 1) (by omega)).trans ?_
      congr 1; omega
  · rw [q2]; congr 1; omega
/-- the sum -/
def zsum (s : Bool) (n : Nat) (t : Bool) (m : Nat) : Bool × Nat := if s = t then (s && (n + m) != 0, n + m) else if n < m then (t && (m - n) != 0, m - n) else (s && (n - m) != 0, n - m)
theorem zc125 (ha : zown h a = some (zNc s n)) (hb : zown h b = some (zNc t m)) (hn : n < 2 ^ 121) (hm : m < 2 ^ 121) (k : Q (.inl (some (.ref (h.1.length + zK0)))) (zadd h (zNc (zsum s n t m).1 (zsum s n t m).2) 3)) : zG xs (d + 2) (125, 0, lv_args 0 [zo (some a), zo (some b)], []) h Q := by
  apply zm_125
  have e1 : lN (n / 1152921504606846976) = lN (m / 1152921504606846976) ↔ n / 1152921504606846976 = m / 1152921504606846976 := pk_lEQ (by omega) (by omega)
  have e3 : lN (n / 1152921504606846976) < lN (m / 1152921504606846976) ↔ n / 1152921504606846976 < m / 1152921504606846976 := pk_lLT (by omega) (by omega)
  have e4 : lN (n % 1152921504606846976) < lN (m % 1152921504606846976) ↔ n % 1152921504606846976 < m % 1152921504606846976 := pk_lLT (by omega) (by omega)
  unfold zsum at k
  refine zN_b ha (zN_b hb ⟨fun h1 => zN_l ha (zN_l hb ?_), fun h1 => ?_⟩)
  · rw [zB_eq] at h1
    rw [if_pos h1] at k
    intro x hx
    subst hx
    rw [lN_add]
    refine zNO_i (zN_b (zown_add ha) (zN_h (zown_add ha) (zN_h (zown_add hb) (zc33 (n := n + m) ?_ ?_ (by omega) k))))
    · rw [pf_shr (d := 60) rfl (by omega), lN_add, lN_add]; congr 1; omega
    · rw [show (1152921504606846975 : Int64) = lN (2 ^ 60 - 1) by decide, wb_mask (by omega) (by decide)]; congr 1; omega
  · rw [zB_eq] at h1
    rw [if_neg h1] at k
    have m1 : n < m → zw_125_88 xs (d + 2) Q (some a) (some b) h := by
      intro hlt
      rw [if_pos hlt] at k
      exact ⟨fun z => absurd z (by decide), fun _ => ⟨d + 1, rfl, zc126 hb ha (by omega) (by omega) k⟩⟩
    have m2 : ¬ n < m → zw_125_92 xs (d + 2) Q (some a) (some b) h := by
      intro hlt
      rw [if_neg hlt] at k
      exact ⟨fun _ => ⟨d + 1, rfl, zc126 ha hb (by omega) (by omega) k⟩, fun z => absurd rfl z⟩
    refine zN_h ha (zN_h hb ⟨fun z => ?_, fun z => zN_h ha (zN_h hb ⟨fun z2 => zN_l ha (zN_l hb ⟨fun z3 => ?_, fun z3 => ?_⟩), fun z2 => ?_⟩)⟩)
    · rw [e3] at z; exact m1 (by omega)
    · rw [e1] at z2; rw [e4] at z3; exact m1 (by omega)
    · rw [e1] at z2; rw [e4] at z3; exact m2 (by omega)
    · rw [e1] at z2; rw [e3] at z; exact m2 (by omega)
end NUM
section NUM2
variable {xs : List Value} {d : Nat} {h : zH} {Q : zO → zH → Prop} {K : zH → Prop} {s t : Bool} {n m a b : Nat}
theorem zc128 {w : Nat} (ha : zown h a = some (zNc s n)) (hn : n < 2 ^ 122) (hw : 1 ≤ w ∧ w ≤ 120) (k : Q (.inl (some (.int (zB (decide (n < 2 ^ w)))))) h) : zG xs d (128, 0, lv_args 0 [zo (some a), .int (nI w)], []) h Q := by
  apply zm_128
  have t0 : ∀ q : Prop, [Decidable q] → q → decide q = true := fun q _ h => decide_eq_true h
  have p60 : (2 : Nat) ^ 60 = 1152921504606846976 := by decide
  refine ⟨fun h1 => ?_, fun h1 => ?_⟩
  · have hw60 : w < 60 := (nI_ltI (b := 60) (by omega) (by decide)).mp h1
    have hp : 2 ^ w ≤ 2 ^ 59 := Nat.pow_le_pow_right (by decide) (by omega)
    refine zN_h ha ⟨fun h2 => zN_l ha ?_, fun h2 => ?_⟩
    · rw [zL0 (by omega)] at h2
      have e1 : ((1 : Int64) <<< ((nI w).toInt64 &&& 63)) = lN (2 ^ w) := by
        refine (wb_shl 1 (by omega)).trans ?_
        rw [Nat.one_mul]
      rw [e1]
      have e2 : lN (n % 1152921504606846976) < lN (2 ^ w) ↔ n % 1152921504606846976 < 2 ^ w := pk_lLT (by omega) (by omega)
      refine ⟨fun h3 => ?_, fun h3 => ?_⟩
      · rw [e2] at h3
        rw [decide_eq_true (by omega)] at k; exact ⟨Or.inr rfl, k⟩
      · rw [e2] at h3
        rw [decide_eq_false (by omega)] at k; exact ⟨Or.inl rfl, k⟩
    · rw [zL0 (by omega)] at h2
      rw [decide_eq_false (by omega)] at k; exact ⟨Or.inl rfl, k⟩
  · have hw60 : ¬ w < 60 := fun z => h1 ((nI_ltI (b := 60) (by omega) (by decide)).mpr z)
    have hp : 2 ^ (w - 60) ≤ 2 ^ 60 := Nat.pow_le_pow_right (by decide) (by omega)
    have hp2 : 2 ^ w = 2 ^ (w - 60) * 1152921504606846976 := by rw [← p60, ← Nat.pow_add]; congr 1; omega
    have e0 : nI w - 60 = nI (w - 60) := pk_sub (a := w) (b := 60) (by omega)
    have e1 : ((1 : Int64) <<< (((nI w - 60)).toInt64 &&& 63)) = lN (2 ^ (w - 60)) := by
      rw [e0]
      refine (wb_shl 1 (by omega)).trans ?_
      rw [Nat.one_mul]
    refine zN_h ha ?_
    rw [e1]
    have e2 : lN (n / 1152921504606846976) < lN (2 ^ (w - 60)) ↔ n / 1152921504606846976 < 2 ^ (w - 60) := pk_lLT (by omega) (by omega)
    refine ⟨fun h3 => ?_, fun h3 => ?_⟩
    · rw [e2] at h3
      rw [decide_eq_true (by omega)] at k; exact ⟨Or.inr rfl, k⟩
    · rw [e2] at h3
      rw [decide_eq_false (by omega)] at k; exact ⟨Or.inl rfl, k⟩
theorem zc111 {v : Nat} (hv : v < 2 ^ 31) (k : Q (.inl (some (.ref (h.1.length + zK0)))) (zadd h (zNc false v) 3)) : zG xs (d + 1) (111, 0, lv_args 0 [.int (nI v)], []) h Q := by
  apply zm_111
  refine zNO_i ⟨fun z => absurd z (nI_pos hv), fun _ => ⟨fun z => absurd z (nI_pos hv), fun _ => ?_⟩⟩
  rw [nI_l hv]
  refine zc33 (s := false) (n := v) (hi := 0) ?_ ?_ (by omega) k
  · rw [show v / 1152921504606846976 = 0 by omega]; rfl
  · rw [show v % 1152921504606846976 = v by omega]
theorem zc111m (k : Q (.inl (some (.ref (h.1.length + zK0)))) (zadd h (zNc true 1) 3)) : zG xs (d + 1) (111, 0, lv_args 0 [.int (-1)], []) h Q := by
  apply zm_111
  refine zNO_i ⟨fun _ => ⟨fun _ => ?_, fun z => absurd (by decide) z⟩, fun z => absurd (by decide) z⟩
  exact zc33 (s := true) (n := 1) (hi := 0) (by decide) (by decide) (by omega) k
/-- the product; where it is too great, 2 to the 120th -/
def zprd (n m : Nat) : Nat := if n * m < 2 ^ 120 then n * m else 2 ^ 120
theorem zprd_lt (n m : Nat) : zprd n m < 2 ^ 122 := by unfold zprd; split <;> omega
theorem zmul_exp (a0 a1 a2 a3 b0 b1 b2 b3 P : Nat) : (a0 + a1*P + a2*(P*P) + a3*(P*P*P)) * (b0 + b1*P + b2*(P*P) + b3*(P*P*P)) = a0*b0 + (a0*b1+a1*b0)*P + (a0*b2+a1*b1+a2*b0)*(P*P) + (a0*b3+a1*b2+a2*b1+a3*b0)*(P*P*P) + (a1*b3+a2*b2+a3*b1)*(P*P*P*P) + (a2*b3+a3*b2)*(P*P*P*P*P) + a3*b3*(P*P*P*P*P*P) := by grind
theorem zmul_b {a b : Nat} (ha : a < 1073741824) (hb : b < 1073741824) : a * b < 1152921504606846976 :=
  Nat.lt_of_lt_of_le (Nat.mul_lt_mul'' ha hb) (by decide)
theorem zc130 (ha : zown h a = some (zNc s n)) (hb : zown h b = some (zNc t m)) (hn : n < 2 ^ 120) (hm : m < 2 ^ 120) (k : Q (.inl (some (.ref (h.1.length + zK0)))) (zadd h (zNc ((s != t) && zprd n m != 0) (zprd n m)) 3)) : zG xs (d + 1) (130, 0, lv_args 0 [zo (some a), zo (some b)], []) h Q := by
  apply zm_130
  have k30 : (1073741823 : Int64) = lN (2 ^ 30 - 1) := by decide
  have mk : ∀ v, v < 2 ^ 63 → lN v &&& (1073741823 : Int64) = lN (v % 1073741824) := fun v hv => by rw [k30, wb_mask (by omega) (by decide)]
  have sh : ∀ v, v < 2 ^ 63 → lN v >>> ((30 : Int32).toInt64 &&& 63) = lN (v / 1073741824) := fun v hv => by
    apply Int64.toInt_inj.mp
    have e : (lN v >>> ((30 : Int32).toInt64 &&& 63)).toInt = (lN v).toInt >>> 30 := BitVec.toInt_sshiftRight ..
    rw [e, Int.shiftRight_eq_div_pow, pf_lI (by omega), pf_lI (by omega)]
    rfl
  refine zN_l ha ?_
  intro x hx; rw [mk _ (by omega)] at hx; subst hx
  refine zN_l ha ?_
  intro x hx; rw [sh _ (by omega)] at hx; subst hx
  refine zN_h ha ?_
  intro x hx; rw [mk _ (by omega)] at hx; subst hx
  refine zN_h ha ?_
  intro x hx; rw [sh _ (by omega)] at hx; subst hx
  refine zN_l hb ?_
  intro x hx; rw [mk _ (by omega)] at hx; subst hx
  refine zN_l hb ?_
  intro x hx; rw [sh _ (by omega)] at hx; subst hx
  refine zN_h hb ?_
  intro x hx; rw [mk _ (by omega)] at hx; subst hx
  refine zN_h hb ?_
  intro x hx; rw [sh _ (by omega)] at hx; subst hx
  have hexp := zmul_exp (n % 1152921504606846976 % 1073741824) (n % 1152921504606846976 / 1073741824) (n / 1152921504606846976 % 1073741824) (n / 1152921504606846976 / 1073741824) (m % 1152921504606846976 % 1073741824) (m % 1152921504606846976 / 1073741824) (m / 1152921504606846976 % 1073741824) (m / 1152921504606846976 / 1073741824) 1073741824
  rw [show n % 1152921504606846976 % 1073741824 + n % 1152921504606846976 / 1073741824 * 1073741824 + n / 1152921504606846976 % 1073741824 * (1073741824 * 1073741824) + n / 1152921504606846976 / 1073741824 * (1073741824 * 1073741824 * 1073741824) = n by omega, show m % 1152921504606846976 % 1073741824 + m % 1152921504606846976 / 1073741824 * 1073741824 + m / 1152921504606846976 % 1073741824 * (1073741824 * 1073741824) + m / 1152921504606846976 / 1073741824 * (1073741824 * 1073741824 * 1073741824) = m by omega] at hexp
  obtain ⟨a0, ea0⟩ : ∃ v, v = n % 1152921504606846976 % 1073741824 := ⟨_, rfl⟩
  obtain ⟨a1, ea1⟩ : ∃ v, v = n % 1152921504606846976 / 1073741824 := ⟨_, rfl⟩
  obtain ⟨a2, ea2⟩ : ∃ v, v = n / 1152921504606846976 % 1073741824 := ⟨_, rfl⟩
  obtain ⟨a3, ea3⟩ : ∃ v, v = n / 1152921504606846976 / 1073741824 := ⟨_, rfl⟩
  obtain ⟨b0, eb0⟩ : ∃ v, v = m % 1152921504606846976 % 1073741824 := ⟨_, rfl⟩
  obtain ⟨b1, eb1⟩ : ∃ v, v = m % 1152921504606846976 / 1073741824 := ⟨_, rfl⟩
  obtain ⟨b2, eb2⟩ : ∃ v, v = m / 1152921504606846976 % 1073741824 := ⟨_, rfl⟩
  obtain ⟨b3, eb3⟩ : ∃ v, v = m / 1152921504606846976 / 1073741824 := ⟨_, rfl⟩
  have ha0 : a0 < 1073741824 := by omega
  have ha1 : a1 < 1073741824 := by omega
  have ha2 : a2 < 1073741824 := by omega
  have ha3 : a3 < 1073741824 := by omega
  have hb0 : b0 < 1073741824 := by omega
  have hb1 : b1 < 1073741824 := by omega
  have hb2 : b2 < 1073741824 := by omega
  have hb3 : b3 < 1073741824 := by omega
  rw [← ea0, ← ea1, ← ea2, ← ea3, ← eb0, ← eb1, ← eb2, ← eb3] at hexp ⊢
  have q00 := zmul_b ha0 hb0
  have q01 := zmul_b ha0 hb1
  have q02 := zmul_b ha0 hb2
  have q03 := zmul_b ha0 hb3
  have q10 := zmul_b ha1 hb0
  have q11 := zmul_b ha1 hb1
  have q12 := zmul_b ha1 hb2
  have q13 := zmul_b ha1 hb3
  have q20 := zmul_b ha2 hb0
  have q21 := zmul_b ha2 hb1
  have q22 := zmul_b ha2 hb2
  have q23 := zmul_b ha2 hb3
  have q30 := zmul_b ha3 hb0
  have q31 := zmul_b ha3 hb1
  have q32 := zmul_b ha3 hb2
  have q33 := zmul_b ha3 hb3
  clear ea0 ea1 ea2 ea3 eb0 eb1 eb2 eb3
  rw [lN_mul, lN_mul, lN_mul, lN_mul, lN_mul, lN_mul, lN_mul, lN_mul, lN_mul, lN_mul, lN_mul, lN_mul, lN_mul, lN_mul, lN_mul, lN_mul]
  generalize a0 * b0 = p00 at *
  generalize a0 * b1 = p01 at *
  generalize a0 * b2 = p02 at *
  generalize a0 * b3 = p03 at *
  generalize a1 * b0 = p10 at *
  generalize a1 * b1 = p11 at *
  generalize a1 * b2 = p12 at *
  generalize a1 * b3 = p13 at *
  generalize a2 * b0 = p20 at *
  generalize a2 * b1 = p21 at *
  generalize a2 * b2 = p22 at *
  generalize a2 * b3 = p23 at *
  generalize a3 * b0 = p30 at *
  generalize a3 * b1 = p31 at *
  generalize a3 * b2 = p32 at *
  generalize a3 * b3 = p33 at *
  intro c0 hc0
  intro c1 hc1
  rw [hc0, sh _ (by omega), lN_add, lN_add] at hc1
  intro c2 hc2
  rw [hc1, sh _ (by omega), lN_add, lN_add, lN_add] at hc2
  intro c3 hc3
  rw [hc2, sh _ (by omega), lN_add, lN_add, lN_add, lN_add] at hc3
  obtain ⟨w1, ew1⟩ : ∃ v, v = p01 + p10 + p00 / 1073741824 := ⟨_, rfl⟩
  rw [← ew1] at hc1 hc2 hc3
  obtain ⟨w2, ew2⟩ : ∃ v, v = p02 + p11 + p20 + w1 / 1073741824 := ⟨_, rfl⟩
  rw [← ew2] at hc2 hc3
  obtain ⟨w3, ew3⟩ : ∃ v, v = p03 + p12 + p21 + p30 + w2 / 1073741824 := ⟨_, rfl⟩
  rw [← ew3] at hc3
  subst hc0 hc1 hc2 hc3
  have big : n * m ≥ 2 ^ 120 → ∀ u : Bool, (s != t) = u → zw_130_241 xs (d + 1) Q (zB u) h := by
    intro hbig u hu
    have e0 : zprd n m = 2 ^ 120 := if_neg (by omega)
    rw [e0, hu] at k
    exact zNO_i (zc33 (s := u) (n := 2 ^ 120) (by decide) (by decide) (by decide) k)
  have fin : ∀ ab : Bool, (ab = true → n * m ≥ 2 ^ 120) → (ab = false → p13 = 0 ∧ p22 = 0 ∧ p31 = 0 ∧ p23 = 0 ∧ p32 = 0 ∧ p33 = 0) → zw_130_206 xs (d + 1) Q (some a) (some b) (lN p00) (lN w1) (lN w2) (lN w3) (zB ab) h := by
    intro ab h1 h2
    have go : ∀ u : Bool, (s != t) = u → zw_130_224 xs (d + 1) Q (lN p00) (lN w1) (lN w2) (lN w3) (zB ab) (zB u) h := by
      intro u hu
      refine ⟨fun z => ?_, fun z => ?_⟩
      · rw [zB_0] at z
        obtain ⟨z1, z2, z3, z4, z5, z6⟩ := h2 z
        have hprod : n * m = p00 + (p01 + p10) * 1073741824 + (p02 + p11 + p20) * 1152921504606846976 + (p03 + p12 + p21 + p30) * 1237940039285380274899124224 := by rw [hexp, z1, z2, z3, z4, z5, z6]; omega
        rw [sh _ (by omega)]
        refine ⟨fun z7 => ?_, fun z7 => ?_⟩
        · rw [zL0 (by omega)] at z7
          have hlt : n * m < 2 ^ 120 := by omega
          have e0 : zprd n m = n * m := if_pos hlt
          rw [e0, hu] at k
          refine zNO_i (zc33 (s := u) (n := n * m) ?_ ?_ (by omega) k)
          · rw [mk _ (by omega), show lN w3 <<< ((30 : Int32).toInt64 &&& 63) = lN (w3 * 2 ^ 30) from wb_shl w3 (k := 30) (by decide), g_or (k := 30) rfl (by omega) (by omega)]
            congr 1; omega
          · rw [mk _ (by omega), mk _ (by omega), show lN (w1 % 1073741824) <<< ((30 : Int32).toInt64 &&& 63) = lN (w1 % 1073741824 * 2 ^ 30) from wb_shl _ (k := 30) (by decide), g_or (k := 30) rfl (by omega) (by omega)]
            congr 1; omega
        · rw [zL0 (by omega)] at z7
          exact big (by omega) u hu
      · refine big (h1 ?_) u hu
        cases ab
        · exact absurd rfl z
        · rfl
    refine zN_b ha (zN_b hb ⟨fun z => ?_, fun z => ?_⟩)
    · rw [zB_eq] at z
      exact go false (by rw [z]; simp)
    · rw [zB_eq] at z
      exact go true (by simpa using z)
  have hbig : p13 ≠ 0 ∨ p22 ≠ 0 ∨ p31 ≠ 0 ∨ p23 ≠ 0 ∨ p32 ≠ 0 ∨ p33 ≠ 0 → n * m ≥ 2 ^ 120 := by intro z; omega
  rw [lN_add, lN_add, lN_add, zL0 (by omega)]
  refine ⟨fun h1 => ?_, fun h1 => fin true (fun _ => hbig (by omega)) (fun z => absurd z (by decide))⟩
  rw [zL0 (by omega)]
  refine ⟨fun h2 => ?_, fun h2 => fin true (fun _ => hbig (by omega)) (fun z => absurd z (by decide))⟩
  rw [zL0 (by omega)]
  refine ⟨fun h3 => fin false (fun z => absurd z (by decide)) (fun _ => by omega), fun h3 => fin true (fun _ => hbig (by omega)) (fun z => absurd z (by decide))⟩
end NUM2
section NUM3
variable {xs : List Value} {d : Nat} {h : zH} {Q : zO → zH → Prop} {K : zH → Prop} {s t : Bool} {n m a b : Nat}
theorem zdiv_step {n m q r i : Nat} (hm : 0 < m) (hq : n / 2 ^ (i + 1) = q * m + r) (hr : r < m) : n / 2 ^ i = (2 * q + (if m ≤ 2 * r + n / 2 ^ i % 2 then 1 else 0)) * m + (2 * r + n / 2 ^ i % 2 - (if m ≤ 2 * r + n / 2 ^ i % 2 then m else 0)) ∧ 2 * r + n / 2 ^ i % 2 - (if m ≤ 2 * r + n / 2 ^ i % 2 then m else 0) < m := by
  have h1 : n / 2 ^ i = 2 * (n / 2 ^ (i + 1)) + n / 2 ^ i % 2 := by
    rw [Nat.pow_succ, ← Nat.div_div_eq_div_mul]
    omega
  rw [hq] at h1
  have hbt : n / 2 ^ i % 2 < 2 := Nat.mod_lt _ (by decide)
  generalize n / 2 ^ i % 2 = bt at *
  have hb : 2 * (q * m + r) = 2 * q * m + 2 * r := by rw [Nat.mul_add, Nat.mul_assoc]
  split
  · rename_i hle
    refine ⟨?_, by omega⟩
    rw [h1, hb, Nat.add_mul, Nat.one_mul]; omega
  · rename_i hle
    refine ⟨?_, by omega⟩
    rw [h1, hb, Nat.add_zero]; omega
theorem zdbl {v : Nat} (hv : v < 2 ^ 121) : (lN (v / 1152921504606846976) <<< ((1 : Int32).toInt64 &&& 63)) ||| (lN (v % 1152921504606846976) >>> ((59 : Int32).toInt64 &&& 63)) = lN (2 * v / 1152921504606846976) ∧ (lN (v % 1152921504606846976) <<< ((1 : Int32).toInt64 &&& 63)) &&& (1152921504606846975 : Int64) = lN (2 * v % 1152921504606846976) := by
  refine ⟨?_, ?_⟩
  · rw [show lN (v / 1152921504606846976) <<< ((1 : Int32).toInt64 &&& 63) = lN (v / 1152921504606846976 * 2 ^ 1) from wb_shl _ (k := 1) (by decide), pf_shr (d := 59) rfl (by omega), g_or (k := 1) rfl (by omega) (by omega)]
    congr 1; omega
  · rw [show lN (v % 1152921504606846976) <<< ((1 : Int32).toInt64 &&& 63) = lN (v % 1152921504606846976 * 2 ^ 1) from wb_shl _ (k := 1) (by decide), show (1152921504606846975 : Int64) = lN (2 ^ 60 - 1) by decide, wb_mask (by omega) (by decide)]
    congr 1; omega
theorem zdbl_b {v bt : Nat} (hb : bt < 2) : lN (2 * v % 1152921504606846976) ||| lN bt = lN ((2 * v + bt) % 1152921504606846976) := by
  rw [show 2 * v % 1152921504606846976 = (v % 576460752303423488) * 2 by omega, g_or (k := 1) rfl hb (by omega)]
  congr 1; omega
theorem zput_old {h : zH} {k n : Nat} {e e0 e' : zE} (hk : zown h k = some e0) : zput (zadd h e n) k e' = zadd (zput h k e') e n := by
  obtain ⟨h1, h2, h3⟩ := zown_lt hk
  unfold zput zadd
  dsimp only
  rw [List.set_append_left _ _ h2]
theorem zshr_bit {n i : Nat} {D : Int64} (hD : (D.toBitVec.smod 64).toNat = i) (hn : n < 2 ^ 62) : (lN n >>> D) &&& 1 = lN (n / 2 ^ i % 2) := by
  rw [pf_shr hD hn, wb_a1]
  exact Nat.lt_of_le_of_lt (Nat.div_le_self _ _) (by omega)
theorem zsmod : ∀ i, i < 64 → ((((nI i).toInt64 &&& 63) : Int64).toBitVec.smod 64).toNat = i := by decide
/-- quotient and rest, the signs aside -/
theorem zc133 (ha : zown h a = some (zNc s n)) (hb : zown h b = some (zNc t m)) (hn : n < 2 ^ 120) (hm : m < 2 ^ 120) (hm0 : 0 < m)
    (k : Q (.inl (some (.ref (h.1.length + zK0)))) (zadd (zadd (zadd h (.inl (9, [.ref (h.1.length + zK0 + 1), .ref (h.1.length + zK0 + 2)])) 2) (zNc false (n / m)) 3) (zNc false (n % m)) 3)) : zG xs (d + 1) (133, 0, lv_args 0 [zo (some a), zo (some b)], []) h Q := by
  refine zm_133 (fun i l0 l1 l2 l4 l6 l8 l10 h1 => ∃ q r, i ≤ 120 ∧ l0 = some a ∧ l1 = some b ∧ l2 = lN (q / 1152921504606846976) ∧ l4 = lN (q % 1152921504606846976) ∧ l6 = lN (r / 1152921504606846976) ∧ l8 = lN (r % 1152921504606846976) ∧ l10 = nI i - 1 ∧ h1 = h ∧ n / 2 ^ i = q * m + r ∧ r < m) ?_ ?_
  · rintro i l0 l1 l2 l4 l6 l8 l10 h1 ⟨q, r, hi, rfl, rfl, rfl, rfl, rfl, rfl, rfl, rfl, hq, hr⟩
    have hqn : q ≤ n := by
      have h1 : q ≤ q * m := Nat.le_mul_of_pos_right q hm0
      have h2 : n / 2 ^ i ≤ n := Nat.div_le_self _ _
      omega
    cases i with
    | zero =>
      refine ⟨fun _ => ?_, fun z => absurd (by decide) z⟩
      rw [Nat.pow_zero, Nat.div_one] at hq
      have eq : q = n / m := by
        rw [hq]
        refine (Nat.div_eq_of_lt_le ?_ ?_).symm
        · omega
        · rw [Nat.add_mul, Nat.one_mul]; omega
      have er : r = n % m := by
        have := Nat.div_add_mod n m
        rw [← eq, Nat.mul_comm] at this
        omega
      rw [← eq, ← er] at k
      refine ⟨by decide, zNO_i ?_⟩
      refine zc33 (s := false) (n := q) rfl rfl (by omega) ?_
      have c1 := zown_add (n := 3) (e' := zNc (false && q != 0) q) (zown_new (h := h1) (n := 2) (e := .inl (9, [.null, .null])))
      refine ⟨_, 9, [.null, .null], rfl, c1, by decide, by decide, by decide, Or.inr ⟨_, 5, _, rfl, zown_new, rfl⟩, zNO_i ?_⟩
      rw [zput_old zown_new, show zput (zadd h1 (.inl (9, List.replicate (Int32.toNatClampNeg 2) .null)) (Int32.toNatClampNeg 2)) (h1.1.length + zK0) = zput (zadd h1 (.inl (9, [.null, .null])) 2) (h1.1.length + zK0) from rfl, zput_new]
      refine zc33 (s := false) (n := r) rfl rfl (by omega) ?_
      have c2 := zown_add (n := 3) (e' := zNc (false && r != 0) r) (zown_add (n := 3) (e' := zNc (false && q != 0) q) (zown_new (h := h1) (n := 2) (e := .inl (9, [.ref (h1.1.length + zK0 + 1), .null]))))
      have l1 : (zadd h1 (Sum.inl (9, List.replicate (Int32.toNatClampNeg 2) Value.null)) (Int32.toNatClampNeg 2)).1.length + zK0 = h1.1.length + zK0 + 1 := by
        show (h1.1 ++ [_]).length + zK0 = _
        rw [List.length_append, List.length_singleton]; omega
      refine ⟨_, 9, [.ref (h1.1.length + zK0 + 1), .null], rfl, ?_, by decide, by decide, (show 1 < 2 by decide), Or.inr ⟨_, 5, _, rfl, zown_new, rfl⟩, ?_⟩
      · rw [l1]; exact c2
      · rw [zput_old (zown_add zown_new), zput_old zown_new, zput_new]
        refine (congrArg (Q _) ?_).mp k
        have l2 : (zadd (zadd h1 (Sum.inl (9, [.null, .null].set (Int32.toNatClampNeg 0) (zo (some ((zadd h1 (Sum.inl (9, List.replicate (Int32.toNatClampNeg 2) Value.null)) (Int32.toNatClampNeg 2)).1.length + zK0))))) 2) (zNc (false && q != 0) q) 3).1.length + zK0 = h1.1.length + zK0 + 2 := by
          show ((h1.1 ++ [_]) ++ [_]).length + zK0 = _
          rw [List.length_append, List.length_append, List.length_singleton, List.length_singleton]; omega
        rw [l2]
        rfl
    | succ i =>
      rw [nI_pred]
      refine ⟨fun z => absurd z (nI_pos (by omega)), fun _ => ?_⟩
      have hst := zdiv_step hm0 hq hr
      have hbt : n / 2 ^ i % 2 < 2 := Nat.mod_lt _ (by decide)
      have h2q : 2 * q ≤ n := by
        have h1 : 2 * q ≤ 2 * q * m := Nat.le_mul_of_pos_right _ hm0
        have h2 : n / 2 ^ i ≤ n := Nat.div_le_self _ _
        have h3 := hst.1
        rw [Nat.add_mul] at h3
        omega
      have main : ∀ bt, bt = n / 2 ^ i % 2 → ∀ s0 : Int64, s0 &&& 1 = lN bt → zw_133_47 xs (d + 1) Q (fun l0 l1 l2 l4 l6 l8 l10 h2 => ∃ n1, n1 < i + 1 ∧ ∃ q r, n1 ≤ 120 ∧ l0 = some a ∧ l1 = some b ∧ l2 = lN (q / 1152921504606846976) ∧ l4 = lN (q % 1152921504606846976) ∧ l6 = lN (r / 1152921504606846976) ∧ l8 = lN (r % 1152921504606846976) ∧ l10 = nI n1 - 1 ∧ h2 = h1 ∧ n / 2 ^ n1 = q * m + r ∧ r < m) (some a) (some b) (lN (q / 1152921504606846976)) (lN (q % 1152921504606846976)) (lN (r / 1152921504606846976)) (lN (r % 1152921504606846976)) (nI i) s0 h1 := by
        intro bt ebt s0 hs0
        rw [← ebt] at hst hbt
        intro x hx; rw [hs0] at hx; subst hx
        intro x hx; rw [(zdbl (by omega)).1, show 2 * r / 1152921504606846976 = (2 * r + bt) / 1152921504606846976 by omega] at hx; subst hx
        intro x hx; rw [(zdbl (by omega)).2, zdbl_b hbt] at hx; subst hx
        intro x hx; rw [(zdbl (by omega)).1] at hx; subst hx
        intro x hx; rw [(zdbl (by omega)).2] at hx; subst hx
        have go0 : ¬ m ≤ 2 * r + bt → zw_133_164 xs (d + 1) Q (fun l0 l1 l2 l4 l6 l8 l10 h2 => ∃ n1, n1 < i + 1 ∧ ∃ q r, n1 ≤ 120 ∧ l0 = some a ∧ l1 = some b ∧ l2 = lN (q / 1152921504606846976) ∧ l4 = lN (q % 1152921504606846976) ∧ l6 = lN (r / 1152921504606846976) ∧ l8 = lN (r % 1152921504606846976) ∧ l10 = nI n1 - 1 ∧ h2 = h1 ∧ n / 2 ^ n1 = q * m + r ∧ r < m) (some a) (some b) (lN (2 * q / 1152921504606846976)) (lN (2 * q % 1152921504606846976)) (lN ((2 * r + bt) / 1152921504606846976)) (lN ((2 * r + bt) % 1152921504606846976)) (nI i) h1 := by
          intro hle
          intro x hx
          rw [if_neg hle, if_neg hle, Nat.add_zero, Nat.sub_zero] at hst
          exact ⟨i, by omega, 2 * q, 2 * r + bt, by omega, rfl, rfl, rfl, rfl, rfl, rfl, by rw [hx, Int32.sub_eq_add_neg], rfl, hst.1, hst.2⟩
        have go1 : m ≤ 2 * r + bt → zw_133_126 xs (d + 1) Q (fun l0 l1 l2 l4 l6 l8 l10 h2 => ∃ n1, n1 < i + 1 ∧ ∃ q r, n1 ≤ 120 ∧ l0 = some a ∧ l1 = some b ∧ l2 = lN (q / 1152921504606846976) ∧ l4 = lN (q % 1152921504606846976) ∧ l6 = lN (r / 1152921504606846976) ∧ l8 = lN (r % 1152921504606846976) ∧ l10 = nI n1 - 1 ∧ h2 = h1 ∧ n / 2 ^ n1 = q * m + r ∧ r < m) (some a) (some b) (lN (2 * q / 1152921504606846976)) (lN (2 * q % 1152921504606846976)) (lN ((2 * r + bt) / 1152921504606846976)) (lN ((2 * r + bt) % 1152921504606846976)) (nI i) h1 := by
          intro hle
          rw [if_pos hle, if_pos hle] at hst
          obtain ⟨q1, q2⟩ := zl_sub (a := (2 * r + bt) % 1152921504606846976) (b := m % 1152921504606846976) (by omega) (by omega)
          refine zN_l hb ?_
          intro x hx; subst hx
          refine zN_h hb ?_
          intro x hx
          rw [q1] at hx
          have hx : x = lN ((2 * r + bt - m) / 1152921504606846976) := by
            rw [hx]
            by_cases hc : m % 1152921504606846976 ≤ (2 * r + bt) % 1152921504606846976
            · rw [if_pos hc, Int64.add_zero, lN_sub (by omega)]; congr 1; omega
            · rw [if_neg hc, ← Int64.sub_eq_add_neg, lN_sub (by omega)]
              refine (lN_sub (b := 1) (by omega)).trans ?_
              congr 1; omega
          subst hx
          intro x hx
          rw [q2, show ((2 * r + bt) % 1152921504606846976 + 1152921504606846976 - m % 1152921504606846976) % 1152921504606846976 = (2 * r + bt - m) % 1152921504606846976 by omega] at hx
          subst hx
          intro x hx
          rw [show (1 : Int64) = lN 1 from rfl, zdbl_b (by decide)] at hx
          subst hx
          intro x hx
          exact ⟨i, by omega, 2 * q + 1, 2 * r + bt - m, by omega, rfl, rfl, by congr 1; omega, rfl, rfl, rfl, by rw [hx, Int32.sub_eq_add_neg], rfl, hst.1, hst.2⟩
        have e1 : lN ((2 * r + bt) / 1152921504606846976) = lN (m / 1152921504606846976) ↔ (2 * r + bt) / 1152921504606846976 = m / 1152921504606846976 := pk_lEQ (by omega) (by omega)
        have e3 : lN (m / 1152921504606846976) < lN ((2 * r + bt) / 1152921504606846976) ↔ m / 1152921504606846976 < (2 * r + bt) / 1152921504606846976 := pk_lLT (by omega) (by omega)
        have e4 : lN ((2 * r + bt) % 1152921504606846976) < lN (m % 1152921504606846976) ↔ (2 * r + bt) % 1152921504606846976 < m % 1152921504606846976 := pk_lLT (by omega) (by omega)
        refine zN_h hb ⟨fun z => ?_, fun z => zN_h hb ⟨fun z2 => zN_l hb ⟨fun z3 => ?_, fun z3 => ?_⟩, fun z2 => ?_⟩⟩
        · rw [e3] at z; exact go1 (by omega)
        · rw [e1] at z2; rw [e4] at z3; exact go0 (by omega)
        · rw [e1] at z2; rw [e4] at z3; exact go1 (by omega)
        · rw [e1] at z2; rw [e3] at z; exact go0 (by omega)
      refine ⟨fun z => zN_l ha (main _ rfl _ ?_), fun z => zN_h ha (main _ rfl _ ?_)⟩
      · have hi60 : i < 60 := (nI_ltI (b := 60) (by omega) (by decide)).mp z
        rw [zshr_bit (zsmod i (by omega)) (by omega)]
        congr 1
        have e9 : n / 2 ^ i = n % 1152921504606846976 / 2 ^ i + n / 1152921504606846976 * 2 ^ (60 - i) := by
          have p1 : (1152921504606846976 : Nat) = 2 ^ (60 - i) * 2 ^ i := by rw [← Nat.pow_add, show 60 - i + i = 60 by omega]
          have p2 : n = n % 1152921504606846976 + n / 1152921504606846976 * 2 ^ (60 - i) * 2 ^ i := by rw [Nat.mul_assoc, ← p1]; omega
          rw [p2, Nat.add_mul_div_right _ _ (Nat.two_pow_pos i)]
          congr 1
          · rw [← p2]
          · rw [← p2]
        rw [e9, show 60 - i = (59 - i) + 1 by omega, Nat.pow_succ, ← Nat.mul_assoc, Nat.add_mul_mod_self_right]
      · have hi60 : ¬ i < 60 := fun q => z ((nI_ltI (b := 60) (by omega) (by decide)).mpr q)
        rw [show nI i - 60 = nI (i - 60) from pk_sub (a := i) (b := 60) (by omega), zshr_bit (zsmod (i - 60) (by omega)) (by omega)]
        congr 1
        rw [show (2 : Nat) ^ i = 1152921504606846976 * 2 ^ (i - 60) by rw [show (1152921504606846976 : Nat) = 2 ^ 60 by decide, ← Nat.pow_add]; congr 1; omega, ← Nat.div_div_eq_div_mul]
  · refine ⟨120, 0, 0, by decide, rfl, rfl, rfl, rfl, rfl, rfl, rfl, rfl, ?_, hm0⟩
    rw [Nat.div_eq_of_lt hn]; omega
end NUM3
/-! heaps that only grow: c cells and s slots at most -/
def zEx (h h' : zH) (c s : Nat) : Prop := (∀ k e, zown h k = some e → zown h' k = some e) ∧ h.1.length ≤ h'.1.length ∧ h'.2.1 ≤ h.2.1 + c ∧ h'.2.2 ≤ h.2.2 + s
theorem zEx_refl (h : zH) : zEx h h 0 0 := ⟨fun _ _ q => q, Nat.le_refl _, Nat.le_refl _, Nat.le_refl _⟩
theorem zEx_trans {h h1 h2 : zH} {c s c' s' : Nat} (a : zEx h h1 c s) (b : zEx h1 h2 c' s') : zEx h h2 (c + c') (s + s') :=
  ⟨fun k e q => b.1 k e (a.1 k e q), Nat.le_trans a.2.1 b.2.1, by have := a.2.2.1; have := b.2.2.1; omega, by have := a.2.2.2; have := b.2.2.2; omega⟩
theorem zEx_le {h h1 : zH} {c s c' s' : Nat} (a : zEx h h1 c s) (hc : c ≤ c') (hs : s ≤ s') : zEx h h1 c' s' := ⟨a.1, a.2.1, by have := a.2.2.1; omega, by have := a.2.2.2; omega⟩
theorem zEx_add {h : zH} {e : zE} {n : Nat} : zEx h (zadd h e n) 1 n := ⟨fun _ _ q => zown_add q, by show _ ≤ (h.1 ++ [e]).length; rw [List.length_append]; omega, Nat.le_refl _, Nat.le_refl _⟩
theorem zEx_add' {h h1 : zH} {e : zE} {n c s : Nat} (a : zEx h h1 c s) : zEx h (zadd h1 e n) (c + 1) (s + n) := zEx_trans a zEx_add
theorem zown_bd {h : zH} {k : Nat} {e : zE} (hk : zown h k = some e) : k < h.1.length + zK0 := by have := zown_lt hk; omega
theorem zEx_put {h h1 : zH} {k c s : Nat} {e e0 : zE} (a : zEx h h1 c s) (hk : zown h1 k = some e0) (hn : h.1.length + zK0 ≤ k) : zEx h (zput h1 k e) c s := by
  refine ⟨fun j ej q => ?_, ?_, a.2.2.1, a.2.2.2⟩
  · rw [zown_ne hk (by have := zown_bd q; omega)]
    exact a.1 j ej q
  · show _ ≤ (h1.1.set _ _).length
    rw [List.length_set]
    exact a.2.1
theorem zadd_ln {h : zH} {e : zE} {n : Nat} : (zadd h e n).1.length = h.1.length + 1 := by
  show (h.1 ++ [e]).length = _
  rw [List.length_append, List.length_singleton]
section DIV
variable {xs : List Value} {d : Nat} {h : zH} {Q : zO → zH → Prop} {s t : Bool} {n m a b : Nat}
/-- quotient and rest: the rest is never below 0 -/
def zquo (s : Bool) (n : Nat) (t : Bool) (m : Nat) : (Bool × Nat) × Nat := if s = true ∧ n % m ≠ 0 then ((s != t, n / m + 1), m - n % m) else (((s != t) && n / m != 0, n / m), n % m)
theorem zc132 (ha : zown h a = some (zNc s n)) (hb : zown h b = some (zNc t m)) (hn : n < 2 ^ 120) (hm : m < 2 ^ 120) (hm0 : 0 < m)
    (k : ∀ h' i j, zEx h h' 8 23 → zown h' (h.1.length + zK0) = some (.inl (9, [.ref i, .ref j])) → zown h' i = some (zNc (zquo s n t m).1.1 (zquo s n t m).1.2) → zown h' j = some (zNc false (zquo s n t m).2) → Q (.inl (some (.ref (h.1.length + zK0)))) h') : zG xs (d + 3) (132, 0, lv_args 0 [zo (some a), zo (some b)], []) h Q := by
  apply zm_132
  refine ⟨d + 2, rfl, zc133 (d := d + 1) ha hb hn hm hm0 ?_⟩
  have hqn : n / m ≤ n := Nat.div_le_self _ _
  have hrm : n % m < m := Nat.mod_lt _ hm0
  obtain ⟨h1, e1⟩ : ∃ h1, h1 = zadd (zadd (zadd h (.inl (9, [.ref (h.1.length + zK0 + 1), .ref (h.1.length + zK0 + 2)])) 2) (zNc false (n / m)) 3) (zNc false (n % m)) 3 := ⟨_, rfl⟩
  rw [← e1]
  have x1 : zEx h h1 3 8 := by rw [e1]; exact zEx_add' (zEx_add' zEx_add)
  have g0 : zown h1 (h.1.length + zK0) = some (.inl (9, [.ref (h.1.length + zK0 + 1), .ref (h.1.length + zK0 + 2)])) := by rw [e1]; exact zown_add (zown_add zown_new)
  have g1 : zown h1 (h.1.length + zK0 + 1) = some (zNc false (n / m)) := by
    have q := zown_add (n := 3) (e' := zNc false (n % m)) (zown_new (h := zadd h (.inl (9, [.ref (h.1.length + zK0 + 1), .ref (h.1.length + zK0 + 2)])) 2) (n := 3) (e := zNc false (n / m)))
    rw [zadd_ln, show h.1.length + 1 + zK0 = h.1.length + zK0 + 1 by omega] at q
    rw [e1]; exact q
  have g2 : zown h1 (h.1.length + zK0 + 2) = some (zNc false (n % m)) := by
    have q := zown_new (h := zadd (zadd h (.inl (9, [.ref (h.1.length + zK0 + 1), .ref (h.1.length + zK0 + 2)])) 2) (zNc false (n / m)) 3) (n := 3) (e := zNc false (n % m))
    rw [zadd_ln, zadd_ln, show h.1.length + 1 + 1 + zK0 = h.1.length + zK0 + 2 by omega] at q
    rw [e1]; exact q
  -- the end: the two parts go into the array
  have fin : ∀ h2 i j u v w, zEx h h2 7 20 → zown h2 (h.1.length + zK0) = some (.inl (9, [.ref (h.1.length + zK0 + 1), .ref (h.1.length + zK0 + 2)])) → zown h2 i = some (zNc u v) → zown h2 j = some (zNc false w) → v < 2 ^ 121 → zquo s n t m = (((s != t) && v != 0, v), w) → u = false → h.1.length + zK0 < i → h.1.length + zK0 < j → zw_132_50 xs (d + 3) Q (some a) (some b) (some (h.1.length + zK0)) (some i) (some j) h2 := by
    intro h2 i j u v w y1 y2 y3 y4 y5 y6 y7 y8 y9
    rw [y6] at k
    have put2 : ∀ h3 i', zEx h h3 8 23 → zown h3 (h.1.length + zK0) = some (.inl (9, [.ref (h.1.length + zK0 + 1), .ref (h.1.length + zK0 + 2)])) → zown h3 i' = some (zNc ((s != t) && v != 0) v) → zown h3 j = some (zNc false w) → h.1.length + zK0 < i' → zw_132_71 xs (d + 3) Q (some (h.1.length + zK0)) (some j) (some i') 0 (some (h.1.length + zK0)) h3 := by
      intro h3 i' w1 w2 w3 w4 w5
      refine ⟨_, 9, _, rfl, w2, by decide, by decide, (show 0 < 2 by decide), Or.inr ⟨_, 5, _, rfl, w3, rfl⟩, ?_⟩
      have a1 := zown_put (e := .inl (9, [.ref i', .ref (h.1.length + zK0 + 2)])) w2
      have a2 : zown (zput h3 (h.1.length + zK0) (.inl (9, [.ref i', .ref (h.1.length + zK0 + 2)]))) j = some (zNc false w) := by rw [zown_ne w2 (by omega)]; exact w4
      have a3 : zown (zput h3 (h.1.length + zK0) (.inl (9, [.ref i', .ref (h.1.length + zK0 + 2)]))) i' = some (zNc ((s != t) && v != 0) v) := by rw [zown_ne w2 (by omega)]; exact w3
      refine ⟨_, 9, _, rfl, a1, by decide, by decide, (show 1 < 2 by decide), Or.inr ⟨_, 5, _, rfl, a2, rfl⟩, ?_⟩
      refine k _ i' j (zEx_put (zEx_put w1 w2 (Nat.le_refl _)) a1 (Nat.le_refl _)) (zown_put a1) ?_ ?_
      · exact (zown_ne a1 (by omega)).trans a3
      · exact (zown_ne a1 (by omega)).trans a2
    refine zN_b (y1.1 _ _ ha) (zN_b (y1.1 _ _ hb) ⟨fun z => ?_, fun z => ?_⟩)
    · rw [zB_eq] at z
      refine put2 h2 i (zEx_le y1 (by decide) (by decide)) y2 ?_ y4 y8
      rw [y3, y7, z]; simp
    · rw [zB_eq] at z
      refine zX_cv y3 (zc129 (d := d + 1) y3 (by omega) ?_)
      refine put2 _ _ (zEx_add' y1) (zown_add y2) ?_ (zown_add y4) (by have := zown_bd y2; omega)
      rw [zown_new, y7, show (s != t) = true by simpa using z]; rfl
  refine ⟨_, 9, _, some (h.1.length + zK0 + 1), rfl, g0, by decide, by decide, rfl, ?_⟩
  refine ⟨_, 9, _, some (h.1.length + zK0 + 2), rfl, g0, by decide, by decide, rfl, ?_⟩
  refine zN_b (x1.1 _ _ ha) ⟨fun z => ?_, fun z => ?_⟩
  · rw [zB_0] at z
    refine fin h1 _ _ false (n / m) (n % m) (zEx_le x1 (by decide) (by decide)) g0 g1 g2 (by omega) ?_ rfl (by omega) (by omega)
    unfold zquo
    rw [if_neg (by rw [z]; simp)]
  · have hs : s = true := by cases s; exact absurd rfl z; rfl
    refine zX_cv g2 (zc121 g2 (by omega) ⟨fun z2 => ?_, fun z2 => ?_⟩)
    · rw [zB_0] at z2
      have hr0 : n % m ≠ 0 := by simpa using z2
      refine ⟨d + 2, rfl, zc111 (v := 1) (d := d + 1) (by decide) ?_⟩
      refine ⟨d + 2, rfl, zc125 (d := d) (zown_add g1) zown_new (by omega) (by decide) ?_⟩
      refine zX_cv (zown_add (zown_add (x1.1 _ _ hb))) (zc134 (d := d + 1) (zown_add (zown_add (x1.1 _ _ hb))) (by omega) ?_)
      refine ⟨d + 2, rfl, zc126 (d := d + 1) zown_new (zown_add (zown_add (zown_add g2))) (by omega) (by omega) ?_⟩
      have x2 := zEx_add' (e := zNc (false && (m - n % m) != 0) (m - n % m)) (n := 3) (zEx_add' (e := zNc false m) (n := 3) (zEx_add' (e := zNc (zsum false (n / m) false 1).1 (zsum false (n / m) false 1).2) (n := 3) (zEx_add' (e := zNc false 1) (n := 3) x1)))
      refine fin _ _ _ (zsum false (n / m) false 1).1 (n / m + 1) (m - n % m) (zEx_le x2 (by decide) (by decide)) (zown_add (zown_add (zown_add (zown_add g0)))) (zown_add (zown_add ?_)) ?_ (by omega) ?_ ?_ ?_ ?_
      · exact zown_new
      · rw [zown_new]; simp
      · unfold zquo
        rw [if_pos ⟨hs, hr0⟩]; simp
      · unfold zsum; simp
      · have := zown_bd g0; rw [zadd_ln]; omega
      · have := zown_bd g0; rw [zadd_ln, zadd_ln, zadd_ln]; omega
    · have hr0 : n % m = 0 := by
        cases hz : (n % m == 0)
        · rw [hz] at z2; exact absurd rfl z2
        · simpa using hz
      refine fin h1 _ _ false (n / m) (n % m) (zEx_le x1 (by decide) (by decide)) g0 g1 g2 (by omega) ?_ rfl (by omega) (by omega)
      unfold zquo
      rw [if_neg (by rw [hr0]; simp)]
end DIV
