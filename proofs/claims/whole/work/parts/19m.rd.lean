/-! the reading of bytes by the class -/
/-- the buffer while it is read: its bytes, what is wrong, the next place, how many nodes -/
def zBf (h : zH) (B : List Nat) (w : Int32) (p q : Nat) : Prop := zown h 4 = some (.inr (1, [.ref 5, .ref 6, .int 0, .int w, .int (nI B.length), .int (nI p), .int (nI q)])) ∧ zown h 6 = some (.inl (6, [])) ∧ B.length ≤ 240 ∧ ∃ bs, zown h 5 = some (.inl (2, bs)) ∧ bs.length = 240 ∧ ∀ (i b : Nat), B[i]? = some b → b < 256 ∧ bs[i]? = some (.int (zby b))
/-- what was there stays, but for the buffer's object; c cells and s slots more at most -/
def zRx (h h' : zH) (c s : Nat) : Prop := (∀ k e, k ≠ 4 → zown h k = some e → zown h' k = some e) ∧ h.1.length ≤ h'.1.length ∧ h'.2.1 ≤ h.2.1 + c ∧ h'.2.2 ≤ h.2.2 + s
theorem zRx_refl {h : zH} : zRx h h 0 0 := ⟨fun _ _ _ q => q, Nat.le_refl _, Nat.le_refl _, Nat.le_refl _⟩
theorem zRx_trans {h h1 h2 : zH} {c s c' s' : Nat} (a : zRx h h1 c s) (b : zRx h1 h2 c' s') : zRx h h2 (c + c') (s + s') :=
  ⟨fun k e hk q => b.1 k e hk (a.1 k e hk q), Nat.le_trans a.2.1 b.2.1, by have := a.2.2.1; have := b.2.2.1; omega, by have := a.2.2.2; have := b.2.2.2; omega⟩
theorem zRx_le {h h1 : zH} {c s c' s' : Nat} (a : zRx h h1 c s) (hc : c ≤ c') (hs : s ≤ s') : zRx h h1 c' s' := ⟨a.1, a.2.1, by have := a.2.2.1; omega, by have := a.2.2.2; omega⟩
theorem zRx_ex {h h' : zH} {c s : Nat} (a : zEx h h' c s) : zRx h h' c s := ⟨fun k e _ q => a.1 k e q, a.2⟩
theorem zRx_put {h : zH} {e e0 : zE} (h4 : zown h 4 = some e0) : zRx h (zput h 4 e) 0 0 := ⟨fun k e hk q => by rw [zown_ne h4 hk]; exact q, by rw [zput_ln]; exact Nat.le_refl _, Nat.le_refl _, Nat.le_refl _⟩
theorem zBf_put {h : zH} {B : List Nat} {w w' : Int32} {p q p' q' : Nat} (hb : zBf h B w p q) : zBf (zput h 4 (.inr (1, [.ref 5, .ref 6, .int 0, .int w', .int (nI B.length), .int (nI p'), .int (nI q')]))) B w' p' q' := by
  obtain ⟨h4, h6, hl, bs, h5, l5, v5⟩ := hb
  exact ⟨zown_put h4, by rw [zown_ne h4 (by decide)]; exact h6, hl, bs, by rw [zown_ne h4 (by decide)]; exact h5, l5, v5⟩
theorem zBf_ex {h h' : zH} {B : List Nat} {w : Int32} {p q : Nat} (H : ∀ k e, zown h k = some e → zown h' k = some e) (hb : zBf h B w p q) : zBf h' B w p q := by
  obtain ⟨h4, h6, hl, bs, h5, l5, v5⟩ := hb
  exact ⟨H _ _ h4, H _ _ h6, hl, bs, H _ _ h5, l5, v5⟩
/-- refused at place w: the buffer tells it, an exception is on its way -/
def zBad (h : zH) (B : List Nat) (w c s : Nat) (h' : zH) : Prop := zRx h h' (c + 1) (s + 6) ∧ ∃ p q, zBf h' B (nI w) p q
theorem zBad_of {h h1 h' : zH} {B : List Nat} {w c s c' s' : Nat} (a : zRx h h1 c s) (b : zBad h1 B w c' s' h') : zBad h B w (c + c') (s + s') h' := ⟨zRx_le (zRx_trans a b.1) (by omega) (by omega), b.2⟩
theorem zBad_le {h h' : zH} {B : List Nat} {w c s c' s' : Nat} (a : zBad h B w c s h') (hc : c ≤ c') (hs : s ≤ s') : zBad h B w c' s' h' := ⟨zRx_le a.1 (by omega) (by omega), a.2⟩
section RD
variable {xs : List Value} {d : Nat} {h : zH} {Q : zO → zH → Prop} {B : List Nat} {w : Int32} {p q a b n : Nat}
theorem zc27b {x : Nat} (hd : 8 ≤ d) (hb : zBf h B w p q) (k : ∀ h', zBad h B x 0 0 h' → Q (.inr 0) h') : zG xs d (27, 0, lv_args 0 [zo (some 4), .int 0, .int (nI x)], []) h Q := by
  refine zc27f hd hb.1 (k _ ⟨?_, p, q, ?_⟩)
  · have := zRx_put (e := .inr (1, [.ref 5, .ref 6, .int 0, .int (nI x), .int (nI B.length), .int (nI p), .int (nI q)])) hb.1
    exact ⟨this.1, this.2.1, Nat.le_refl _, Nat.le_refl _⟩
  · exact zBf_put (w' := nI x) (p' := p) (q' := q) hb
/-- the next byte -/
theorem zc26 (hb : zBf h B w p q) (hp : B[p]? = some b) (k : ∀ h', zRx h h' 0 0 → zBf h' B w (p + 1) q → b < 256 → Q (.inl (some (.int (nI b)))) h') : zG xs (d + 1) (26, 0, lv_args 0 [zo (some 4)], []) h Q := by
  have hb0 := hb
  obtain ⟨h4, h6, hl, bs, h5, l5, v5⟩ := hb
  have hpl := (List.getElem?_eq_some_iff.mp hp).1
  obtain ⟨b1, b2⟩ := v5 p b hp
  apply zm_26
  refine zX_gi h4 rfl (zX_gi h4 rfl ⟨fun _ => zX_gi h4 rfl (zX_gr h4 rfl ⟨5, 2, bs, rfl, zarr_own h5, by decide, ?_⟩), fun z => absurd (nI_lt hpl (by omega)) z⟩)
  rw [l5]
  refine ⟨fun _ => zX_gi h4 rfl (zX_cv h4 (zc27t (zKV_v ?_))), fun z => absurd (nI_lt (by omega : p < 240) (by decide)) z⟩
  refine zX_gr h4 rfl (zX_gi h4 rfl ⟨5, 2, bs, zby b, rfl, h5, Or.inl rfl, nI_pos (by omega), by rw [nI_clamp (by omega)]; exact b2, ?_⟩)
  intro x hx
  rw [zby_and b b1] at hx
  subst hx
  refine zX_gi h4 rfl (zX_pf h4 (show 5 < 7 by decide) ?_)
  rw [nI_1]
  exact k _ (zRx_put h4) (zBf_put (w' := w) (p' := p + 1) (q' := q) hb0) b1
theorem zc26b (hd : 8 ≤ d) (hb : zBf h B w p q) (hp : B[p]? = none) (hp2 : p < 1000) (k : ∀ h', zBad h B B.length 0 0 h' → Q (.inr 0) h') : zG xs (d + 1) (26, 0, lv_args 0 [zo (some 4)], []) h Q := by
  have hpl : B.length ≤ p := List.getElem?_eq_none_iff.mp hp
  have h4 := hb.1
  have hl := hb.2.2.1
  exact zm_26 (zX_gi h4 rfl (zX_gi h4 rfl ⟨fun z => absurd z (nI_nlt hpl (by omega)), fun _ => zX_gi h4 rfl (zX_cv h4 (zc27b hd hb k))⟩))
/-- the next byte, or the end -/
theorem zc26e (hd : 8 ≤ d) (hb : zBf h B w p q) (hp2 : p < 1000) (k0 : B[p]? = none → ∀ h', zBad h B B.length 0 0 h' → Q (.inr 0) h') (k1 : ∀ b, B[p]? = some b → ∀ h', zRx h h' 0 0 → zBf h' B w (p + 1) q → b < 256 → Q (.inl (some (.int (nI b)))) h') : zG xs (d + 1) (26, 0, lv_args 0 [zo (some 4)], []) h Q := by
  cases hp : B[p]? with
  | none => exact zc26b hd hb hp hp2 (k0 hp)
  | some b => exact zc26 hb hp (k1 b hp)
theorem zc37 {most : Nat} (hd : 8 ≤ d) (hm : most < 256) (hb : zBf h B w p q) (hp2 : p < 1000) (k0 : B[p]? = none → ∀ h', zBad h B B.length 0 0 h' → Q (.inr 0) h') (k1 : ∀ b, B[p]? = some b → most < b → ∀ h', zBad h B p 0 0 h' → Q (.inr 0) h') (k2 : ∀ b, B[p]? = some b → b ≤ most → ∀ h', zRx h h' 0 0 → zBf h' B w (p + 1) q → Q (.inl (some (.int (nI b)))) h') : zG xs (d + 2) (37, 0, lv_args 0 [zo (some 4), .int (nI most)], []) h Q := by
  refine zm_37 (zX_cv hb.1 (zc26e (d := d) hd hb hp2 (fun z h' hz => k0 z h' hz) ?_))
  intro b hbp h1 r1 b1 hb256
  refine zKI_v ⟨fun z => zX_gi b1.1 rfl ?_, fun z => zX_gi b1.1 rfl ?_⟩
  · have hmb : most < b := (nI_ltI (by omega) (by omega)).mp z
    rw [nI_pred]
    exact zX_cv b1.1 (zc27b (d := d + 1) (by omega) b1 (fun h' hz => k1 b hbp hmb h' (zBad_le (zBad_of r1 hz) (by omega) (by omega))))
  · have hmb : ¬ most < b := fun z2 => z ((nI_ltI (by omega) (by omega)).mpr z2)
    exact zX_cv b1.1 (zc27t (zKV_v (k2 b hbp (by omega) h1 r1 b1)))
/-- the characters of a text: from the bytes, at a place, so many, that many behind -/
def zptx (B : List Nat) : Nat → Nat → Nat → Nat → Nat ⊕ Nat
  | 0, _, _, v => .inr v
  | n + 1, i, at_, v => match B[at_]? with
    | none => .inl B.length
    | some b => if b < 32 ∨ 126 < b then .inl at_ else zptx B n (i + 1) (at_ + 1) (v + b * 2 ^ (8 * (7 - i)))
theorem zc38 (hd : 8 ≤ d) (hb : zBf h B w p q) (hn : n ≤ 8) (hp2 : p < 900) (k0 : ∀ e, zptx B n 0 p 0 = .inl e → ∀ h', zBad h B e 0 0 h' → Q (.inr 0) h')
    (k1 : ∀ v, zptx B n 0 p 0 = .inr v → v < 2 ^ 63 → ∀ h', zRx h h' 1 7 → zBf h' B w (p + n) q → ∀ a, zown h' a = some (.inr (3, [.int 1, .int (nI n), .long (lN v), .null, .null, .null, .null])) → Q (.inl (some (.ref a))) h') : zG xs (d + 2) (38, 0, lv_args 0 [zo (some 4), .int (nI n)], []) h Q := by
  refine zm_38 (fun m l0 l1 l2 l4 h1 => ∃ i v, m = n - i ∧ i ≤ n ∧ l0 = some 4 ∧ l1 = nI n ∧ l2 = lN v ∧ l4 = nI i ∧ zRx h h1 0 0 ∧ zBf h1 B w (p + i) q ∧ zptx B n 0 p 0 = zptx B (n - i) i (p + i) v ∧ v % 2 ^ (8 * (8 - i)) = 0 ∧ v < 2 ^ 63) ?_ ⟨n, 0, 0, by omega, by omega, rfl, rfl, rfl, rfl, zRx_refl, hb, rfl, rfl, by decide⟩
  rintro m l0 l1 l2 l4 h1 ⟨i, v, rfl, hi, rfl, rfl, rfl, rfl, r1, b1, he, hv, hv63⟩
  refine ⟨fun z => ?_, fun z => ?_⟩
  · have hin : i < n := (nI_ltI (by omega) (by omega)).mp z
    rw [show n - i = (n - (i + 1)) + 1 by omega, zptx] at he
    refine zX_cv b1.1 (zc26e (d := d) hd b1 (by omega) (fun z h' hz => ?_) ?_)
    · rw [z] at he
      exact k0 _ he h' (zBad_le (zBad_of r1 hz) (by omega) (by omega))
    · intro b hbp h2 r2 b2 hb256
      rw [hbp] at he
      dsimp only at he
      have bad : (b < 32 ∨ 126 < b) → ∀ J, zw_38_36 xs (d + 2) Q J (some 4) (nI n) (lN v) (nI i) (nI b) (some 4) h2 := by
        intro hbb J
        rw [if_pos hbb] at he
        refine zX_gi b2.1 rfl ?_
        rw [nI_pred]
        exact zX_cv b2.1 (zc27b (d := d + 1) (by omega) b2 (fun h' hz => k0 _ he h' (zBad_le (zBad_of (zRx_trans r1 r2) hz) (by omega) (by omega))))
      refine zKI_v ⟨fun z2 => bad (Or.inl ((nI_ltI (b := 32) (by omega) (by decide)).mp z2)) _, fun z2 => ⟨fun z3 => bad (Or.inr ((nI_ltI (a := 126) (by decide) (by omega)).mp z3)) _, fun z3 => ?_⟩⟩
      have h32 : ¬ b < 32 := fun z4 => z2 ((nI_ltI (b := 32) (by omega) (by decide)).mpr z4)
      have h126 : ¬ 126 < b := fun z4 => z3 ((nI_ltI (a := 126) (by decide) (by omega)).mpr z4)
      rw [if_neg (by omega)] at he
      refine zX_gi b2.1 rfl (zX_cv b2.1 (zc27t (zKV_v ?_)))
      have hi8 : i < 8 := by omega
      have hpw : 2 ^ (8 * (8 - i)) = 256 * 2 ^ (8 * (7 - i)) := by rw [show 8 * (8 - i) = 8 * (7 - i) + 8 by omega, Nat.pow_add, Nat.mul_comm]
      have hpw2 : 2 ^ (8 * (7 - i)) ≤ 2 ^ 56 := Nat.pow_le_pow_right (by decide) (by omega)
      have hbm : b * 2 ^ (8 * (7 - i)) ≤ 126 * 2 ^ (8 * (7 - i)) := Nat.mul_le_mul_right _ (by omega)
      have hpos : 0 < 2 ^ (8 * (7 - i)) := Nat.two_pow_pos _
      have hdv : v = v / 2 ^ (8 * (8 - i)) * 2 ^ (8 * (8 - i)) := by
        have := Nat.div_add_mod v (2 ^ (8 * (8 - i)))
        rw [hv, Nat.add_zero, Nat.mul_comm] at this
        exact this.symm
      have hlt : b * 2 ^ (8 * (7 - i)) < 2 ^ (8 * (8 - i)) := by rw [hpw]; omega
      have hv2 : v + b * 2 ^ (8 * (7 - i)) < 2 ^ 63 := by
        by_cases h0 : i = 0
        · subst h0
          have : v = 0 := by
            rw [show 8 * (8 - 0) = 64 from rfl] at hdv hv
            omega
          rw [this]
          have : b * 2 ^ (8 * (7 - 0)) = b * 72057594037927936 := rfl
          omega
        · have hm63 : (2 ^ 63) % 2 ^ (8 * (8 - i)) = 0 := by
            rw [show 63 = (63 - 8 * (8 - i)) + 8 * (8 - i) by omega, Nat.pow_add, Nat.mul_mod_left]
          have hd63 : 2 ^ 63 = 2 ^ 63 / 2 ^ (8 * (8 - i)) * 2 ^ (8 * (8 - i)) := by
            have := Nat.div_add_mod (2 ^ 63) (2 ^ (8 * (8 - i)))
            rw [hm63, Nat.add_zero, Nat.mul_comm] at this
            exact this.symm
          have hq : v / 2 ^ (8 * (8 - i)) < 2 ^ 63 / 2 ^ (8 * (8 - i)) := by
            rw [hdv, hd63] at hv63
            exact Nat.lt_of_mul_lt_mul_right hv63
          have := Nat.mul_le_mul_right (2 ^ (8 * (8 - i))) hq
          rw [Nat.succ_mul, ← hd63, ← hdv] at this
          omega
      intro x hx
      have hx : x = lN (v + b * 2 ^ (8 * (7 - i))) := by
        rw [hx, show (7 : Int32) - nI i = nI (7 - i) from pk_sub (a := 7) (by omega), show (8 : Int32) * nI (7 - i) = nI (8 * (7 - i)) from pk_mul 8 (7 - i), nI_l (by omega), wb_shl _ (by omega), hdv, g_or (k := 8 * (8 - i)) rfl hlt (by rw [← hdv]; omega)]
      intro y hy
      refine ⟨n - (i + 1), by omega, i + 1, v + b * 2 ^ (8 * (7 - i)), rfl, hin, rfl, rfl, hx, by rw [hy, nI_1], zRx_trans r1 r2, b2, he, ?_, hv2⟩
      rw [show 8 - (i + 1) = 7 - i by omega, Nat.add_mul_mod_self_right]
      rw [hdv, hpw, ← Nat.mul_assoc, Nat.mul_mod_left]
  · have hin : i = n := by
      have := mt (nI_ltI (a := i) (b := n) (by omega) (by omega)).mpr z
      omega
    subst hin
    rw [Nat.sub_self, zptx] at he
    refine ⟨d + 1, rfl, zc39 (d := d) (zKR_v (k1 v he hv63 _ (zRx_le (zRx_trans r1 (zRx_ex zEx_add)) (by omega) (by omega)) (zBf_ex (fun _ _ => zown_add) b1) _ zown_new))⟩
end RD
/-- the bytes of a number behind its first: place, shift, what came so far -/
def zpmo (B : List Nat) : Nat → Nat → Nat → Nat → Nat ⊕ (Nat × Nat)
  | 0, _, _, _ => .inl B.length
  | f + 1, at_, sh, v => match B[at_]? with
    | none => .inl B.length
    | some b => if b = 0 ∨ 2 ^ 120 ≤ b % 128 * 2 ^ sh then .inl at_ else if b < 128 then .inr (at_ + 1, v + b % 128 * 2 ^ sh) else zpmo B f (at_ + 1) (sh + 7) (v + b % 128 * 2 ^ sh)
/-- a number: behind it, its sign, its amount -/
def zpnu (B : List Nat) (at_ : Nat) : Nat ⊕ (Nat × Nat × Nat) := match B[at_]? with
  | none => .inl B.length
  | some b => if b = 64 then .inl at_ else if b < 128 then .inr (at_ + 1, b / 64 % 2, b % 64) else match zpmo B B.length (at_ + 1) 6 (b % 64) with
    | .inl e => .inl e
    | .inr (p, v) => .inr (p, b / 64 % 2, v)
set_option maxRecDepth 100000 in
theorem zan127 : ∀ b, b < 256 → nI b &&& 127 = nI (b % 128) := by decide
set_option maxRecDepth 100000 in
theorem zan64 : ∀ b, b < 256 → (nI b &&& 64 = 0 ↔ b / 64 % 2 = 0) := by decide
set_option maxRecDepth 100000 in
theorem zan63 : ∀ b, b < 256 → (nI b &&& 63).toInt64 = lN (b % 64) := by decide
section RDN
variable {xs : List Value} {d : Nat} {h : zH} {Q : zO → zH → Prop} {B : List Nat} {w : Int32} {p q a b n : Nat}
theorem zc29 {c sh : Nat} (hc : c < 128) (hs : sh < 100000) (k : Q (.inl (some (.int (zB (decide (c * 2 ^ sh < 2 ^ 120)))))) h) : zG xs d (29, 0, lv_args 0 [.int (nI c), .int (nI sh)], []) h Q := by
  apply zm_29
  intro x hx
  have yes : c * 2 ^ sh < 2 ^ 120 → zw_29_21 xs d Q h := by
    intro z
    rw [decide_eq_true z] at k
    exact ⟨Or.inr rfl, k⟩
  have no : ¬ c * 2 ^ sh < 2 ^ 120 → zw_29_26 xs d Q 0 h := by
    intro z
    rw [decide_eq_false z] at k
    exact ⟨Or.inl rfl, k⟩
  -- the room that is left
  obtain ⟨r, hr, hx⟩ : ∃ r, r = 120 - sh ∧ x = nI r := by
    refine ⟨_, rfl, ?_⟩
    rw [hx]
    by_cases h1 : sh < 120
    · rw [show (120 : Int32) - nI sh = nI (120 - sh) from pk_sub (a := 120) (by omega), if_pos (show (0 : Int32) < nI (120 - sh) from nI_lt (a := 0) (by omega) (by omega))]
    · rw [if_neg]
      · rw [show 120 - sh = 0 by omega]; rfl
      · intro z
        have h2 : ((120 : Int32) - nI sh).toInt = (120 : Int) - sh := pk_sub_toInt (a := 120) (by decide) (by omega)
        rw [Int32.lt_iff_toInt_lt, h2, Int32.toInt_zero] at z
        omega
  subst hx
  have hsh : 7 ≤ r ∨ r < 7 := by omega
  have key : c * 2 ^ sh < 2 ^ 120 ↔ c < 2 ^ r := by
    by_cases h1 : sh ≤ 120
    · have e1 : 2 ^ 120 = 2 ^ r * 2 ^ sh := by rw [← Nat.pow_add]; congr 1; omega
      rw [e1]
      exact ⟨fun z => Nat.lt_of_mul_lt_mul_right z, fun z => Nat.mul_lt_mul_of_pos_right z (Nat.two_pow_pos _)⟩
    · have e0 : r = 0 := by omega
      rw [e0, Nat.pow_zero]
      have e1 : 2 ^ 120 < 2 ^ sh := Nat.pow_lt_pow_right (by decide) (by omega)
      refine ⟨fun z => ?_, fun z => ?_⟩
      · by_cases hc0 : c = 0
        · omega
        · have : 1 * 2 ^ sh ≤ c * 2 ^ sh := Nat.mul_le_mul_right _ (by omega)
          omega
      · rw [show c = 0 by omega]; omega
  refine ⟨fun z => ?_, fun z => ?_⟩
  · have hr7 : r < 7 := (nI_ltI (b := 7) (by omega) (by decide)).mp z
    have e2 : nI c >>> (nI r &&& 31) = nI (c / 2 ^ r) := by
      have h7 : ∀ r, r < 7 → (((nI r &&& 31) : Int32).toBitVec.smod 32).toNat = r := by decide
      exact pk_shrN (by omega) _ r (h7 r hr7)
    rw [e2]
    have e3 : nI (c / 2 ^ r) = 0 ↔ c / 2 ^ r = 0 := nI_eq (b := 0) (by have := Nat.div_le_self c (2 ^ r); omega) (by decide)
    rw [e3]
    have e4 : c / 2 ^ r = 0 ↔ c < 2 ^ r := by rw [Nat.div_eq_zero_iff]; have := Nat.two_pow_pos r; omega
    exact ⟨fun z2 => yes (key.mpr (e4.mp z2)), fun z2 => no (fun z3 => z2 (e4.mpr (key.mp z3)))⟩
  · have hr7 : ¬ r < 7 := fun z2 => z ((nI_ltI (b := 7) (by omega) (by decide)).mpr z2)
    refine yes (key.mpr ?_)
    have : 2 ^ 7 ≤ 2 ^ r := Nat.pow_le_pow_right (by decide) (by omega)
    omega
theorem zc31 {c sh : Nat} (hc : c < 128) (hs : sh < 100000) (hr : c * 2 ^ sh < 2 ^ 120) (k : Q (.inl (some (.long (lN (c * 2 ^ sh / 1152921504606846976))))) h) : zG xs d (31, 0, lv_args 0 [.int (nI c), .int (nI sh)], []) h Q := by
  apply zm_31
  refine ⟨fun z => ⟨fun z2 => ?_, fun z2 => ?_⟩, fun z => ?_⟩
  · have h60 : sh < 60 := (nI_ltI (b := 60) (by omega) (by decide)).mp z2
    rw [show (60 : Int32) - nI sh = nI (60 - sh) from pk_sub (a := 60) (by omega), nI_l (by omega)]
    have e : lN c >>> ((nI (60 - sh)).toInt64 &&& 63) = lN (c * 2 ^ sh / 1152921504606846976) := by
      rw [pf_shr (zsmod (60 - sh) (by omega)) (by omega)]
      congr 1
      rw [show (1152921504606846976 : Nat) = 2 ^ (60 - sh) * 2 ^ sh by rw [← Nat.pow_add, show 60 - sh + sh = 60 by omega], Nat.mul_div_mul_right _ _ (Nat.two_pow_pos _)]
    rw [e]
    exact k
  · have h60 : ¬ sh < 60 := fun z3 => z2 ((nI_ltI (b := 60) (by omega) (by decide)).mpr z3)
    have h120 : sh < 120 := (nI_ltI (b := 120) (by omega) (by decide)).mp z
    rw [show nI sh - 60 = nI (sh - 60) from pk_sub (b := 60) (by omega), nI_l (by omega), wb_shl _ (by omega)]
    rw [show c * 2 ^ sh / 1152921504606846976 = c * 2 ^ (sh - 60) by
      rw [show (2 : Nat) ^ sh = 2 ^ (sh - 60) * 1152921504606846976 by rw [show (1152921504606846976 : Nat) = 2 ^ 60 by decide, ← Nat.pow_add]; congr 1; omega, ← Nat.mul_assoc, Nat.mul_div_cancel _ (by decide)]] at k
    exact k
  · have h120 : ¬ sh < 120 := fun z3 => z ((nI_ltI (b := 120) (by omega) (by decide)).mpr z3)
    have hc0 : c = 0 := by
      by_cases h0 : c = 0
      · exact h0
      · have e1 : 2 ^ 120 ≤ 2 ^ sh := Nat.pow_le_pow_right (by decide) (by omega)
        have : 1 * 2 ^ sh ≤ c * 2 ^ sh := Nat.mul_le_mul_right _ (by omega)
        omega
    rw [hc0, Nat.zero_mul] at k
    exact k
theorem zc32 {c sh : Nat} (hc : c < 128) (hs : sh < 100000) (k : Q (.inl (some (.long (lN (c * 2 ^ sh % 1152921504606846976))))) h) : zG xs d (32, 0, lv_args 0 [.int (nI c), .int (nI sh)], []) h Q := by
  apply zm_32
  refine ⟨fun z => ?_, fun z => ?_⟩
  · have h60 : sh < 60 := (nI_ltI (b := 60) (by omega) (by decide)).mp z
    rw [nI_l (by omega), wb_shl _ (by omega)]
    have mk : ∀ v, lN v &&& (1152921504606846975 : Int64) = lN (v % 1152921504606846976) := fun v => by
      rw [wb_mod v, show (1152921504606846975 : Int64) = lN (2 ^ 60 - 1) by decide, wb_mask (Nat.mod_lt _ (by decide)) (by decide)]
      congr 1
      omega
    rw [mk]
    exact k
  · have h60 : ¬ sh < 60 := fun z3 => z ((nI_ltI (b := 60) (by omega) (by decide)).mpr z3)
    rw [show c * 2 ^ sh % 1152921504606846976 = 0 by
      rw [show (2 : Nat) ^ sh = 2 ^ (sh - 60) * 1152921504606846976 by rw [show (1152921504606846976 : Nat) = 2 ^ 60 by decide, ← Nat.pow_add]; congr 1; omega, ← Nat.mul_assoc, Nat.mul_mod_left]] at k
    exact k
/-- what lies below and what is put on top -/
theorem zor_hl {v c sh : Nat} (hv : v < 2 ^ sh) (hs : sh < 100000) (hr : c * 2 ^ sh < 2 ^ 120) (hv2 : v < 2 ^ 120) : lN (v / 1152921504606846976) ||| lN (c * 2 ^ sh / 1152921504606846976) = lN ((v + c * 2 ^ sh) / 1152921504606846976) ∧ lN (v % 1152921504606846976) ||| lN (c * 2 ^ sh % 1152921504606846976) = lN ((v + c * 2 ^ sh) % 1152921504606846976) ∧ v + c * 2 ^ sh < 2 ^ 120 := by
  have or0 : ∀ x : Int64, x ||| lN 0 = x := fun x => Int64.or_zero
  have zor0 : ∀ x : Int64, lN 0 ||| x = x := fun x => Int64.zero_or
  by_cases hc0 : c = 0
  · subst hc0
    rw [Nat.zero_mul, Nat.add_zero]
    exact ⟨or0 _, or0 _, hv2⟩
  have hs120 : sh < 120 := by
    by_cases h0 : sh < 120
    · exact h0
    · have e1 : 2 ^ 120 ≤ 2 ^ sh := Nat.pow_le_pow_right (by decide) (by omega)
      have : 1 * 2 ^ sh ≤ c * 2 ^ sh := Nat.mul_le_mul_right _ (by omega)
      omega
  have e120 : (2 : Nat) ^ 120 = 2 ^ (120 - sh) * 2 ^ sh := by rw [← Nat.pow_add]; congr 1; omega
  have hcl : c < 2 ^ (120 - sh) := by rw [e120] at hr; exact Nat.lt_of_mul_lt_mul_right hr
  have hsum : v + c * 2 ^ sh < 2 ^ 120 := by
    have := Nat.mul_le_mul_right (2 ^ sh) hcl
    rw [Nat.succ_mul, ← e120] at this
    omega
  refine ⟨?_, ?_, hsum⟩
  · by_cases h60 : sh < 60
    · have e60 : (1152921504606846976 : Nat) = 2 ^ (60 - sh) * 2 ^ sh := by rw [← Nat.pow_add, show 60 - sh + sh = 60 by omega]
      have hvl : v < 1152921504606846976 := Nat.lt_of_lt_of_le hv (by have : 2 ^ sh ≤ 2 ^ 60 := Nat.pow_le_pow_right (by decide) (by omega); exact this)
      rw [Nat.div_eq_of_lt hvl, zor0]
      congr 1
      have h1 : c * 2 ^ sh / 1152921504606846976 = c / 2 ^ (60 - sh) := by rw [e60, Nat.mul_div_mul_right _ _ (Nat.two_pow_pos _)]
      have h2 : (v + c * 2 ^ sh) / 1152921504606846976 = c / 2 ^ (60 - sh) := by
        rw [e60, Nat.mul_comm (2 ^ (60 - sh)), ← Nat.div_div_eq_div_mul, Nat.add_mul_div_right _ _ (Nat.two_pow_pos _), Nat.div_eq_of_lt hv, Nat.zero_add]
      rw [h1, h2]
    · have e2 : (2 : Nat) ^ sh = 2 ^ (sh - 60) * 1152921504606846976 := by rw [show (1152921504606846976 : Nat) = 2 ^ 60 by decide, ← Nat.pow_add]; congr 1; omega
      have h1 : c * 2 ^ sh / 1152921504606846976 = c * 2 ^ (sh - 60) := by rw [e2, ← Nat.mul_assoc, Nat.mul_div_cancel _ (by decide)]
      have h2 : (v + c * 2 ^ sh) / 1152921504606846976 = v / 1152921504606846976 + c * 2 ^ (sh - 60) := by rw [e2, ← Nat.mul_assoc, Nat.add_mul_div_right _ _ (by decide)]
      have h3 : v / 1152921504606846976 < 2 ^ (sh - 60) := by rw [Nat.div_lt_iff_lt_mul (by decide), ← e2]; exact hv
      rw [h1, h2, g_or' (k := sh - 60) rfl h3 (by rw [← h2]; omega)]
  · by_cases h60 : sh < 60
    · have e60 : (1152921504606846976 : Nat) = 2 ^ (60 - sh) * 2 ^ sh := by rw [← Nat.pow_add, show 60 - sh + sh = 60 by omega]
      have hvl : v < 1152921504606846976 := Nat.lt_of_lt_of_le hv (by have : 2 ^ sh ≤ 2 ^ 60 := Nat.pow_le_pow_right (by decide) (by omega); exact this)
      have h1 : c * 2 ^ sh % 1152921504606846976 = c % 2 ^ (60 - sh) * 2 ^ sh := by rw [e60, Nat.mul_mod_mul_right]
      have h4 : c % 2 ^ (60 - sh) * 2 ^ sh + 2 ^ sh ≤ 1152921504606846976 := by
        have : c % 2 ^ (60 - sh) + 1 ≤ 2 ^ (60 - sh) := Nat.mod_lt _ (Nat.two_pow_pos _)
        have := Nat.mul_le_mul_right (2 ^ sh) this
        rw [Nat.add_mul, Nat.one_mul, ← e60] at this
        exact this
      have h5 : v + c * 2 ^ sh = v + c % 2 ^ (60 - sh) * 2 ^ sh + 1152921504606846976 * (c * 2 ^ sh / 1152921504606846976) := by
        have := Nat.mod_add_div (c * 2 ^ sh) 1152921504606846976
        rw [h1] at this
        omega
      have hlt : v + c % 2 ^ (60 - sh) * 2 ^ sh < 1152921504606846976 := by omega
      rw [Nat.mod_eq_of_lt hvl, h1, g_or' (k := sh) rfl hv (by omega)]
      congr 1
      rw [h5, Nat.add_mul_mod_self_left, Nat.mod_eq_of_lt hlt]
    · have e2 : (2 : Nat) ^ sh = 2 ^ (sh - 60) * 1152921504606846976 := by rw [show (1152921504606846976 : Nat) = 2 ^ 60 by decide, ← Nat.pow_add]; congr 1; omega
      rw [e2, ← Nat.mul_assoc, Nat.mul_mod_left, or0, Nat.add_mul_mod_self_right]
theorem zc28 (hd : 8 ≤ d) (hb : zBf h B w p q) (hp2 : p < 500) (k0 : ∀ e, zpnu B p = .inl e → ∀ h', zBad h B e 0 0 h' → Q (.inr 0) h')
    (k1 : ∀ p' s v, zpnu B p = .inr (p', s, v) → v < 2 ^ 120 → p < p' → p' ≤ B.length → ∀ h', zRx h h' 2 10 → zBf h' B w p' q → ∀ a b, zown h' a = some (.inr (3, [.int 0, .int 0, .long 0, .ref b, .null, .null, .null])) → zown h' b = some (zNc (s == 1 && v != 0) v) → Q (.inl (some (.ref a))) h') : zG xs (d + 3) (28, 0, lv_args 0 [zo (some 4)], []) h Q := by
  -- the end: the number is made
  have fin : ∀ J p' s v h1, zpnu B p = .inr (p', s, v) → v < 2 ^ 120 → s < 2 → p < p' → p' ≤ B.length → zRx h h1 0 0 → zBf h1 B w p' q → zw_28_145 xs (d + 3) Q J (nI s) (lN (v / 1152921504606846976)) (lN (v % 1152921504606846976)) h1 := by
    intro J p' s v h1 e1 e2 e3 e4 e5 r1 b1
    have es : nI s = zB (s == 1) := by
      have : s = 0 ∨ s = 1 := by omega
      rcases this with rfl | rfl <;> rfl
    rw [es]
    refine zNO_i (zc33 (n := v) rfl rfl (by omega) ⟨d + 2, rfl, zc34 (d := d + 1) (zKR_v ?_)⟩)
    exact k1 p' s v e1 e2 e4 e5 _ (zRx_le (zRx_trans r1 (zRx_ex (zEx_add' zEx_add))) (by omega) (by omega)) (zBf_ex (fun _ _ z => zown_add (zown_add z)) b1) _ _ zown_new (zown_add zown_new)
  refine zm_28 (fun m l0 l1 l2 l3 l5 l7 l8 h1 => ∃ b s v sh p' i, m = 240 - i ∧ l0 = some 4 ∧ l1 = nI b ∧ l2 = nI s ∧ l3 = lN (v / 1152921504606846976) ∧ l5 = lN (v % 1152921504606846976) ∧ l7 = nI sh ∧ l8 = nI i ∧ zRx h h1 0 0 ∧ zBf h1 B w p' q ∧ v < 2 ^ 120 ∧ v < 2 ^ sh ∧ sh = 6 + 7 * i ∧ p' = p + 1 + i ∧ p' ≤ B.length ∧ s < 2 ∧ b < 256 ∧ (b < 128 → zpnu B p = .inr (p', s, v)) ∧ (128 ≤ b → zpnu B p = match zpmo B (B.length - i) p' sh v with | .inl e => .inl e | .inr (p2, v2) => .inr (p2, s, v2))) ?_ ?_
  · rintro m l0 l1 l2 l3 l5 l7 l8 h1 ⟨b, s, v, sh, p', i, rfl, rfl, rfl, rfl, rfl, rfl, rfl, rfl, r1, b1, hv, hvs, hsh, hp', hpl, hs, hb256, c0, c1⟩
    have hBl := b1.2.2.1
    refine ⟨fun z => ⟨fun z2 => ?_, fun z2 => ?_⟩, fun z => ?_⟩
    · have hb128 : b < 128 := (nI_ltI (b := 128) (by omega) (by decide)).mp z2
      exact fin _ p' s v h1 (c0 hb128) hv hs (by omega) hpl r1 b1
    · have hb128 : ¬ b < 128 := fun z3 => z2 ((nI_ltI (b := 128) (by omega) (by decide)).mpr z3)
      have hi240 : i < 240 := (nI_ltI (b := 240) (by omega) (by decide)).mp z
      have c1 := c1 (by omega)
      rw [show B.length - i = (B.length - (i + 1)) + 1 by omega, zpmo] at c1
      refine zX_cv b1.1 (zc26e (d := d + 1) (by omega) b1 (by omega) (fun z3 h' hz => ?_) ?_)
      · rw [z3] at c1
        exact k0 _ c1 h' (zBad_le (zBad_of r1 hz) (by omega) (by omega))
      · intro b2 hb2 h2 r2 bb2 hb2256
        rw [hb2] at c1
        dsimp only at c1
        have hp'l := (List.getElem?_eq_some_iff.mp hb2).1
        refine zKI_v ?_
        intro x hx
        have hx : x = nI (b2 % 128) := by
          rw [hx]
          exact zan127 b2 hb2256
        subst hx
        have bad : (b2 = 0 ∨ 2 ^ 120 ≤ b2 % 128 * 2 ^ sh) → ∀ J h3, zRx h2 h3 0 0 → zBf h3 B w (p' + 1) q → zw_28_100 xs (d + 3) Q J (some 4) (nI b2) (nI s) (lN (v / 1152921504606846976)) (lN (v % 1152921504606846976)) (nI sh) (nI i) (nI (b2 % 128)) (some 4) h3 := by
          intro hbb J h3 r3 bb3
          rw [if_pos hbb] at c1
          refine zX_gi bb3.1 rfl ?_
          rw [nI_pred]
          exact zX_cv bb3.1 (zc27b (d := d + 2) (by omega) bb3 (fun h' hz => k0 _ c1 h' (zBad_le (zBad_of (zRx_trans (zRx_trans r1 r2) r3) hz) (by omega) (by omega))))
        have h0 : nI b2 = 0 ↔ b2 = 0 := nI_eq (b := 0) (by omega) (by decide)
        refine ⟨fun z3 => bad (Or.inl (h0.mp z3)) _ h2 zRx_refl bb2, fun z3 => ?_⟩
        refine ⟨d + 2, rfl, zc29 (c := b2 % 128) (sh := sh) (Nat.mod_lt _ (by decide)) (by omega) (zKI_v ⟨fun z4 => ?_, fun z4 => ?_⟩)⟩
        · rw [zB_0, decide_eq_false_iff_not] at z4
          exact bad (Or.inr (by omega)) _ h2 zRx_refl bb2
        · have z5 : b2 % 128 * 2 ^ sh < 2 ^ 120 := by
            by_cases hz : b2 % 128 * 2 ^ sh < 2 ^ 120
            · exact hz
            · rw [decide_eq_false hz] at z4; exact absurd rfl z4
          have hb20 : b2 ≠ 0 := fun z6 => z3 (h0.mpr z6)
          rw [if_neg (by omega)] at c1
          obtain ⟨o1, o2, o3⟩ := zor_hl (c := b2 % 128) hvs (by omega) z5 hv
          refine zX_gi bb2.1 rfl (zX_cv bb2.1 (zc27t (zKV_v ⟨d + 2, rfl, zc31 (Nat.mod_lt _ (by decide)) (by omega) z5 (zKL_v ?_)⟩)))
          intro y hy
          rw [o1] at hy
          refine ⟨d + 2, rfl, zc32 (Nat.mod_lt _ (by decide)) (by omega) (zKL_v ?_)⟩
          intro u hu
          rw [o2] at hu
          intro t ht
          intro r hr
          refine ⟨240 - (i + 1), by omega, b2, s, v + b2 % 128 * 2 ^ sh, sh + 7, p' + 1, i + 1, rfl, rfl, rfl, rfl, hy, hu, by rw [ht]; exact nI_add sh 7, by rw [hr, nI_1], zRx_trans r1 r2, bb2, o3, ?_, by omega, by omega, by omega, hs, hb2256, ?_, ?_⟩
          · have : b2 % 128 + 1 ≤ 128 := Nat.mod_lt _ (by decide)
            have := Nat.mul_le_mul_right (2 ^ sh) this
            rw [Nat.add_mul, Nat.one_mul] at this
            rw [Nat.pow_add]
            omega
          · intro hlt
            rw [if_pos hlt] at c1
            exact c1
          · intro hge
            rw [if_neg (by omega)] at c1
            exact c1
    · have hi240 : ¬ i < 240 := fun z2 => z (nI_lt z2 (by decide))
      omega
  · refine zX_cv hb.1 (zc26e (d := d + 1) (by omega) hb (by omega) (fun z3 h' hz => ?_) ?_)
    · refine k0 B.length ?_ h' hz
      unfold zpnu
      rw [z3]
    · intro b hbp h1 r1 b1 hb256
      have hpl := (List.getElem?_eq_some_iff.mp hbp).1
      have e0 : zpnu B p = if b = 64 then .inl p else if b < 128 then .inr (p + 1, b / 64 % 2, b % 64) else match zpmo B B.length (p + 1) 6 (b % 64) with
        | .inl e => .inl e
        | .inr (p, v) => .inr (p, b / 64 % 2, v) := by
        unfold zpnu
        rw [hbp]
      have h64 : nI b = 64 ↔ b = 64 := nI_eq (b := 64) (by omega) (by decide)
      refine zKI_v ⟨fun z => zX_gi b1.1 rfl ?_, fun z => zX_gi b1.1 rfl ?_⟩
      · rw [nI_pred]
        rw [if_pos (h64.mp z)] at e0
        exact zX_cv b1.1 (zc27b (d := d + 2) (by omega) b1 (fun h' hz => k0 _ e0 h' (zBad_le (zBad_of r1 hz) (by omega) (by omega))))
      · rw [if_neg (fun z2 => z (h64.mpr z2))] at e0
        refine zX_cv b1.1 (zc27t (zKV_v ?_))
        have hand := zan64
        have hlow := zan63
        have go : ∀ J : zP → Int32 → Int32 → Int64 → Int64 → Int32 → Int32 → zH → Prop, J (some 4) (nI b) (nI (b / 64 % 2)) 0 (lN (b % 64)) 6 0 h1 → ∀ s0, s0 = nI (b / 64 % 2) → zw_28_38 xs (d + 3) Q J (some 4) (nI b) s0 h1 := by
          intro J hJ s0 hs0
          subst hs0
          intro x hx
          rw [hlow b hb256] at hx
          subst hx
          exact hJ
        have inv : ∃ n1, ∃ b' s v sh p' i, n1 = 240 - i ∧ (some 4 : zP) = some 4 ∧ nI b = nI b' ∧ nI (b / 64 % 2) = nI s ∧ (0 : Int64) = lN (v / 1152921504606846976) ∧ lN (b % 64) = lN (v % 1152921504606846976) ∧ (6 : Int32) = nI sh ∧ (0 : Int32) = nI i ∧ zRx h h1 0 0 ∧ zBf h1 B w p' q ∧ v < 2 ^ 120 ∧ v < 2 ^ sh ∧ sh = 6 + 7 * i ∧ p' = p + 1 + i ∧ p' ≤ B.length ∧ s < 2 ∧ b' < 256 ∧ (b' < 128 → zpnu B p = .inr (p', s, v)) ∧ (128 ≤ b' → zpnu B p = match zpmo B (B.length - i) p' sh v with | .inl e => .inl e | .inr (p2, v2) => .inr (p2, s, v2)) := by
          refine ⟨240, b, b / 64 % 2, b % 64, 6, p + 1, 0, by omega, rfl, rfl, rfl, ?_, ?_, rfl, rfl, r1, b1, by omega, by omega, by omega, by omega, by omega, by omega, hb256, ?_, ?_⟩
          · rw [show b % 64 / 1152921504606846976 = 0 by omega]; rfl
          · rw [show b % 64 % 1152921504606846976 = b % 64 by omega]
          · intro hlt; rw [if_pos hlt] at e0; exact e0
          · intro hge; rw [if_neg (by omega)] at e0; exact e0
        refine ⟨fun z2 => go _ inv _ ?_, fun z2 => go _ inv _ ?_⟩
        · rw [(hand b hb256).mp z2]; rfl
        · have : b / 64 % 2 ≠ 0 := fun z3 => z2 ((hand b hb256).mpr z3)
          rw [show b / 64 % 2 = 1 by omega]; rfl
end RDN
