/-! the values, as trees of Jvm's type Term: a number .sub (.arg s) (.arg n); a text .mul (.arg size) (.arg bits); words .arg c, .div (.arg c) v, .add (.div (.arg c) v) w; rows .old l (a list), .length l (a map), .sum l (a BIG); a row's elements .null, .rem v l -/
def zVal (h : zH) : Term → Nat ⊕ List Nat → Prop
  | .sub (.arg s) (.arg n), .inl a => ∃ b, zown h a = some (.inr (3, [.int 0, .int 0, .long 0, .ref b, .null, .null, .null])) ∧ zown h b = some (zNc (s == 1) n) ∧ n < 2 ^ 120 ∧ (s = 0 ∨ (s = 1 ∧ n ≠ 0))
  | .mul (.arg k) (.arg w), .inl a => zown h a = some (.inr (3, [.int 1, .int (nI k), .long (lN w), .null, .null, .null, .null])) ∧ k ≤ 8 ∧ w < 2 ^ 63
  | .arg c, .inl a => zown h a = some (.inr (3, [.int (nI c), .int 0, .long 0, .null, .null, .null, .null])) ∧ c < 256
  | .div (.arg c) v, .inl a => ∃ b, zown h a = some (.inr (3, [.int (nI c), .int 0, .long 0, .null, .ref b, .null, .null])) ∧ c < 256 ∧ zVal h v (.inl b)
  | .add (.div (.arg c) v) w, .inl a => ∃ b e, zown h a = some (.inr (3, [.int (nI c), .int 0, .long 0, .null, .ref b, .ref e, .null])) ∧ c < 256 ∧ zVal h v (.inl b) ∧ zVal h w (.inl e)
  | .old l, .inl a => ∃ r is, zown h a = some (.inr (3, [.int 2, .int (nI is.length), .long 0, .null, .null, .null, .ref r])) ∧ zown h r = some (.inl (8, is.map Value.ref)) ∧ is.length < 1000 ∧ zVal h l (.inr is)
  | .length l, .inl a => ∃ r is, zown h a = some (.inr (3, [.int 2, .int (nI is.length), .long 0, .null, .null, .null, .ref r])) ∧ zown h r = some (.inl (8, is.map Value.ref)) ∧ is.length < 1000 ∧ zVal h l (.inr is)
  | .sum l, .inl a => ∃ r is, zown h a = some (.inr (3, [.int 2, .int (nI is.length), .long 0, .null, .null, .null, .ref r])) ∧ zown h r = some (.inl (8, is.map Value.ref)) ∧ is.length < 1000 ∧ zVal h l (.inr is)
  | .null, .inr is => is = []
  | .rem v l, .inr is => ∃ a as, is = a :: as ∧ zVal h v (.inl a) ∧ zVal h l (.inr as)
  | _, _ => False
theorem zVal_ex {h h' : zH} (H : ∀ k e, zown h k = some e → zown h' k = some e) : ∀ (V : Term) (x : Nat ⊕ List Nat), zVal h V x → zVal h' V x := by
  intro V x
  fun_induction zVal h V x with
  | case1 s n a => rintro ⟨b, h1, h2, h3⟩; exact ⟨b, H _ _ h1, H _ _ h2, h3⟩
  | case2 k w a => rintro ⟨h1, h2⟩; exact ⟨H _ _ h1, h2⟩
  | case3 c a => rintro ⟨h1, h2⟩; exact ⟨H _ _ h1, h2⟩
  | case4 c v a ih => rintro ⟨b, h1, h2, h3⟩; exact ⟨b, H _ _ h1, h2, ih b h3⟩
  | case5 c v w a ih1 ih2 => rintro ⟨b, e, h1, h2, h3, h4⟩; exact ⟨b, e, H _ _ h1, h2, ih1 b h3, ih2 e h4⟩
  | case6 l a ih => rintro ⟨r, is, h1, h2, h3, h4⟩; exact ⟨r, is, H _ _ h1, H _ _ h2, h3, ih is h4⟩
  | case7 l a ih => rintro ⟨r, is, h1, h2, h3, h4⟩; exact ⟨r, is, H _ _ h1, H _ _ h2, h3, ih is h4⟩
  | case8 l a ih => rintro ⟨r, is, h1, h2, h3, h4⟩; exact ⟨r, is, H _ _ h1, H _ _ h2, h3, ih is h4⟩
  | case9 is => exact fun h => h
  | case10 v l is ih1 ih2 => rintro ⟨a, as, h1, h2, h3⟩; exact ⟨a, as, h1, ih1 a h2, ih2 as h3⟩
  | case11 => exact fun h => h.elim
/-- two simple values of one type -/
def zSimp : Term → Term → Prop
  | .sub (.arg _) (.arg _), .sub (.arg _) (.arg _) => True
  | .mul (.arg _) (.arg _), .mul (.arg _) (.arg _) => True
  | .arg c, .arg e => (c = 21 ∨ c = 22) ∧ (e = 21 ∨ e = 22)
  | .add (.div (.arg c) a) b, .add (.div (.arg e) u) v => (c = 23 ∧ e = 23) ∧ zSimp a u ∧ zSimp b v
  | _, _ => False
def zcmp : Term → Term → Int32
  | .sub (.arg s) (.arg n), .sub (.arg t) (.arg m) => zord (s == 1) n (t == 1) m
  | .mul (.arg _) (.arg w), .mul (.arg _) (.arg u) => if w < u then -1 else if w = u then 0 else 1
  | .arg c, .arg e => if c < e then -1 else if c = e then 0 else 1
  | .add (.div (.arg _) a) b, .add (.div (.arg _) u) v => if zcmp a u = 0 then zcmp b v else zcmp a u
  | _, _ => 0
/-- how deep the pairs are -/
def zdep : Term → Nat
  | .add (.div (.arg _) a) b => 1 + max (zdep a) (zdep b)
  | _ => 0
section ORD
variable {xs : List Value} {d : Nat} {h : zH} {Q : zO → zH → Prop} {a b : Nat}
theorem zc12 {c : Int32} {s : Int32} {w : Int64} {x y z : Value} (ha : zown h a = some (.inr (3, [.int c, .int s, .long w, x, .ref b, y, z]))) (q : Q (.inl (some (.ref b))) h) : zG xs d (12, 0, lv_args 0 [zo (some a)], []) h Q :=
  zm_12 (zX_gr ha rfl ⟨fun z => absurd z (by simp), fun _ => zX_gr ha rfl q⟩)
theorem zc81 {c : Int32} {s : Int32} {w : Int64} {x y z : Value} (ha : zown h a = some (.inr (3, [.int c, .int s, .long w, x, y, .ref b, z]))) (q : Q (.inl (some (.ref b))) h) : zG xs d (81, 0, lv_args 0 [zo (some a)], []) h Q :=
  zm_81 (zX_gr ha rfl ⟨fun z => absurd z (by simp), fun _ => zX_gr ha rfl q⟩)
theorem zc115 {s : Bool} {n : Nat} {x y : Value} (ha : zown h a = some (.inr (3, [.int 0, .int 0, .long 0, .ref b, .null, .null, .null]))) (q : Q (.inl (some (.ref b))) h) : zG xs d (115, 0, lv_args 0 [zo (some a)], []) h Q :=
  zm_115 (zX_gr ha rfl ⟨fun z => absurd z (by simp), fun _ => zX_gr ha rfl q⟩)
theorem zc107 {c : Nat} {s : Int32} {w : Int64} {x y z u : Value} (hc : c < 256) (ha : zown h a = some (.inr (3, [.int (nI c), .int s, .long w, x, y, z, u]))) (q : Q (.inl (some (.int (zB (c == 22))))) h) : zG xs d (107, 0, lv_args 0 [zo (some a)], []) h Q := by
  refine zm_107 (zX_gi ha rfl ⟨fun z => ?_, fun z => ?_⟩)
  · rw [show (22 : Int32) = nI 22 from rfl, nI_eq (by omega) (by decide)] at z
    subst z
    exact ⟨Or.inr rfl, q⟩
  · rw [show (22 : Int32) = nI 22 from rfl, nI_eq (by omega) (by decide)] at z
    rw [show (c == 22) = false by simpa using z] at q
    exact ⟨Or.inl rfl, q⟩
theorem zc83 {n m : Nat} (hn : n < 2 ^ 63) (hm : m < 2 ^ 63) (q : Q (.inl (some (.int (if n < m then -1 else if n = m then 0 else 1)))) h) : zG xs d (83, 0, lv_args 0 [.long (lN n), .long (lN m)], []) h Q := by
  apply zm_83
  refine ⟨fun z => ?_, fun z => ⟨fun z2 => ?_, fun z2 => ?_⟩⟩
  · rw [pk_lLT hn hm] at z; rw [if_pos z] at q; exact q
  · rw [pk_lLT hn hm] at z; rw [pk_lEQ hn hm] at z2; rw [if_neg z, if_pos z2] at q; exact q
  · rw [pk_lLT hn hm] at z; rw [pk_lEQ hn hm] at z2; rw [if_neg z, if_neg z2] at q; exact q
theorem zc84 {n m : Nat} (hn : n < 2 ^ 31) (hm : m < 2 ^ 31) (q : Q (.inl (some (.int (if n < m then -1 else if n = m then 0 else 1)))) h) : zG xs d (84, 0, lv_args 0 [.int (nI n), .int (nI m)], []) h Q := by
  apply zm_84
  refine ⟨fun z => ?_, fun z => ⟨fun z2 => ?_, fun z2 => ?_⟩⟩
  · rw [nI_ltI hn hm] at z; rw [if_pos z] at q; exact q
  · rw [nI_ltI hn hm] at z; rw [nI_eq hn hm] at z2; rw [if_neg z, if_pos z2] at q; exact q
  · rw [nI_ltI hn hm] at z; rw [nI_eq hn hm] at z2; rw [if_neg z, if_neg z2] at q; exact q
theorem zc80 : ∀ (V W : Term) (a b d : Nat) (Q : zO → zH → Prop), zSimp V W → zVal h V (.inl a) → zVal h W (.inl b) → zdep V ≤ d → Q (.inl (some (.int (zcmp V W)))) h → zG xs (d + 1) (80, 0, lv_args 0 [zo (some a), zo (some b)], []) h Q := by
  intro V W
  fun_induction zSimp V W with
  | case1 s n t m =>
    intro a b d Q _ hv hw hd q
    obtain ⟨i, v1, v2, v3, v4⟩ := hv
    obtain ⟨j, w1, w2, w3, w4⟩ := hw
    apply zm_80
    refine zX_gi v1 rfl ⟨fun z => absurd z (by decide), fun _ => zX_gr v1 rfl ⟨fun z => absurd z (by simp), fun _ => zX_gr w1 rfl ⟨fun z => absurd z (by simp), fun _ => zX_gr v1 rfl (zX_gr w1 rfl ⟨d, rfl, zc82 v2 w2 (by omega) (by omega) ?_⟩)⟩⟩⟩
    unfold zcmp at q
    exact q
  | case2 k w l u =>
    intro a b d Q _ hv hw hd q
    obtain ⟨v1, v2, v3⟩ := hv
    obtain ⟨w1, w2, w3⟩ := hw
    apply zm_80
    refine zX_gi v1 rfl ⟨fun z => absurd z (by decide), fun _ => zX_gn v1 rfl ⟨fun _ => ?_, fun z => absurd rfl z⟩⟩
    refine zX_gi v1 rfl ⟨fun _ => zX_gl v1 rfl (zX_gl w1 rfl ⟨d, rfl, zc83 v3 w3 ?_⟩), fun z => absurd rfl z⟩
    unfold zcmp at q
    exact q
  | case3 c e =>
    intro a b d Q hs hv hw hd q
    obtain ⟨v1, v2⟩ := hv
    obtain ⟨w1, w2⟩ := hw
    have hc : c = 21 ∨ c = 22 := hs.1
    apply zm_80
    refine zX_gi v1 rfl ⟨fun z => absurd z ?_, fun _ => zX_gn v1 rfl ⟨fun _ => ?_, fun z => absurd rfl z⟩⟩
    · rcases hc with rfl | rfl <;> decide
    refine zX_gi v1 rfl ⟨fun z => absurd z ?_, fun _ => zX_gi v1 rfl (zX_gi w1 rfl ⟨d, rfl, zc84 (by omega) (by omega) ?_⟩)⟩
    · rcases hc with rfl | rfl <;> decide
    unfold zcmp at q
    exact q
  | case4 c a' b' e u v ih1 ih2 =>
    intro a b d Q hs hv hw hd q
    obtain ⟨⟨rfl, rfl⟩, s1, s2⟩ := hs
    obtain ⟨i, j, v1, v2, v3, v4⟩ := hv
    obtain ⟨i', j', w1, w2, w3, w4⟩ := hw
    unfold zdep at hd
    obtain ⟨d, rfl⟩ : ∃ d', d = d' + 1 := ⟨d - 1, by omega⟩
    apply zm_80
    refine zX_gi v1 rfl ⟨fun _ => ?_, fun z => absurd rfl z⟩
    refine zX_cv v1 (zc12 v1 (zX_cv w1 (zc12 w1 ⟨d + 1, rfl, ih1 i i' d _ s1 v3 w3 (by omega) ?_⟩)))
    unfold zcmp at q
    refine ⟨fun z => ?_, fun z => ?_⟩
    · rw [if_pos z] at q
      exact zX_cv v1 (zc81 v1 (zX_cv w1 (zc81 w1 ⟨d + 1, rfl, ih2 j j' d _ s2 v4 w4 (by omega) q⟩)))
    · rw [if_neg z] at q
      exact q
  | case5 => intro a b d Q hs; exact hs.elim
end ORD
/-! making values -/
theorem zKR_v {K : zP → zH → Prop} {E : Nat → zH → Prop} {a : Nat} {h : zH} (k : K (some a) h) : zKR K E (.inl (some (.ref a))) h := k
theorem zKR_n {K : zP → zH → Prop} {E : Nat → zH → Prop} {h : zH} (k : K none h) : zKR K E (.inl (some .null)) h := k
theorem zKV_v {K : zH → Prop} {E : Nat → zH → Prop} {h : zH} (k : K h) : zKV K E (.inl none) h := k
theorem zKL_v {K : Int64 → zH → Prop} {E : Nat → zH → Prop} {x : Int64} {h : zH} (k : K x h) : zKL K E (.inl (some (.long x))) h := k
section MKV
variable {xs : List Value} {d : Nat} {h : zH} {Q : zO → zH → Prop} {a b c n : Nat}
theorem zc35 {K : zH → Prop} {k s : Int32} {w : Int64} {p q r u : zP} (g : K (zadd h (.inr (3, [.int k, .int s, .long w, zo p, zo q, zo r, zo u])) 7)) : zCN xs (d + 1) 35 (some (h.1.length + zK0)) [.int k, .int s, .long w, zo p, zo q, zo r, zo u] (zadd h (.inr (3, [.int 0, .int 0, .long 0, .null, .null, .null, .null])) 7) K := by
  refine ⟨_, rfl, by rw [zown_new]; rfl, d, rfl, zm_35 ⟨_, rfl, ?_⟩⟩
  refine zX_pf zown_new (show 0 < 7 by decide) ?_
  rw [zput_new]
  refine zX_pf zown_new (show 1 < 7 by decide) ?_
  rw [zput_new]
  refine zX_pf zown_new (show 2 < 7 by decide) ?_
  rw [zput_new]
  refine zX_pf zown_new (show 3 < 7 by decide) ?_
  rw [zput_new]
  refine zX_pf zown_new (show 4 < 7 by decide) ?_
  rw [zput_new]
  refine zX_pf zown_new (show 5 < 7 by decide) ?_
  rw [zput_new]
  refine zX_pf zown_new (show 6 < 7 by decide) ?_
  rw [zput_new]
  exact g
theorem zc34 (g : Q (.inl (some (.ref (h.1.length + zK0)))) (zadd h (.inr (3, [.int 0, .int 0, .long 0, .ref b, .null, .null, .null])) 7)) : zG xs (d + 1) (34, 0, lv_args 0 [zo (some b)], []) h Q :=
  zm_34 (zNO_i (zc35 (p := some b) (q := none) (r := none) (u := none) g))
theorem zc39 {w : Int64} {k : Int32} (g : Q (.inl (some (.ref (h.1.length + zK0)))) (zadd h (.inr (3, [.int 1, .int k, .long w, .null, .null, .null, .null])) 7)) : zG xs (d + 1) (39, 0, lv_args 0 [.long w, .int k], []) h Q :=
  zm_39 (zNO_i (zc35 (p := none) (q := none) (r := none) (u := none) g))
theorem zc43 {k : Int32} {p q : zP} (g : Q (.inl (some (.ref (h.1.length + zK0)))) (zadd h (.inr (3, [.int k, .int 0, .long 0, .null, zo p, zo q, .null])) 7)) : zG xs (d + 1) (43, 0, lv_args 0 [.int k, zo p, zo q], []) h Q :=
  zm_43 (zNO_i (zc35 (p := none) (q := p) (r := q) (u := none) g))
theorem zc41 {vs : List Value} (hb : zown h b = some (.inl (8, vs))) (g : Q (.inl (some (.ref (h.1.length + zK0)))) (zadd h (.inr (3, [.int 2, .int (nI vs.length), .long 0, .null, .null, .null, .ref b])) 7)) : zG xs (d + 1) (41, 0, lv_args 0 [zo (some b)], []) h Q :=
  zm_41 (zNO_i ⟨b, 8, vs, rfl, zarr_own (zown_add hb), by decide, zc35 (p := none) (q := none) (r := none) (u := some b) g⟩)
theorem zc131 (g : Q (.inl (some (.ref (h.1.length + zK0)))) (zadd h (.inr (3, [.int 24, .int 0, .long 0, .null, .null, .null, .null])) 7)) : zG xs (d + 2) (131, 0, lv_args 0 [], []) h Q := zm_131 ⟨d + 1, rfl, zc43 (p := none) (q := none) g⟩
theorem zc136 (g : Q (.inl (some (.ref (h.1.length + zK0)))) (zadd h (.inr (3, [.int 25, .int 0, .long 0, .null, .ref b, .null, .null])) 7)) : zG xs (d + 2) (136, 0, lv_args 0 [zo (some b)], []) h Q := zm_136 ⟨d + 1, rfl, zc43 (p := some b) (q := none) g⟩
theorem zc123 {t : Bool} (g : Q (.inl (some (.ref (h.1.length + zK0)))) (zadd h (.inr (3, [.int (nI (if t then 22 else 21)), .int 0, .long 0, .null, .null, .null, .null])) 7)) : zG xs (d + 2) (123, 0, lv_args 0 [.int (zB t)], []) h Q := by
  refine zm_123 ⟨fun z => ?_, fun z => ?_⟩
  · rw [zB_0] at z; subst z; exact ⟨d + 1, rfl, zc43 (p := none) (q := none) g⟩
  · have : t = true := by cases t; exact absurd rfl z; rfl
    subst this; exact ⟨d + 1, rfl, zc43 (p := none) (q := none) g⟩
/-- a row by the labels of its elements -/
def zRl (h : zH) (a : Nat) (is : List Nat) : Prop := ∃ r, zown h a = some (.inr (3, [.int 2, .int (nI is.length), .long 0, .null, .null, .null, .ref r])) ∧ zown h r = some (.inl (8, is.map Value.ref)) ∧ is.length < 1000 ∧ ∀ b ∈ is, ∃ fs, zown h b = some (.inr (3, fs))
theorem zRl_ex {h h' : zH} {is : List Nat} (H : ∀ k e, zown h k = some e → zown h' k = some e) (hr : zRl h a is) : zRl h' a is := by
  obtain ⟨r, h1, h2, h3, h4⟩ := hr
  exact ⟨r, H _ _ h1, H _ _ h2, h3, fun b hb => by obtain ⟨fs, z⟩ := h4 b hb; exact ⟨fs, H _ _ z⟩⟩
theorem zc44 (g : ∀ h', zEx h h' 2 7 → zRl h' (h.1.length + zK0 + 1) [] → Q (.inl (some (.ref (h.1.length + zK0 + 1)))) h') : zG xs (d + 2) (44, 0, lv_args 0 [], []) h Q := by
  refine zm_44 ⟨by decide, d + 1, rfl, zc41 (vs := []) zown_new ?_⟩
  rw [show (zadd h (.inl (8, List.replicate (Int32.toNatClampNeg 0) Value.null)) (Int32.toNatClampNeg 0)).1.length + zK0 = h.1.length + zK0 + 1 by rw [zadd_ln]; omega]
  refine g _ (zEx_add' (zEx_add (n := 0))) ⟨h.1.length + zK0, ?_, zown_add zown_new, by decide, fun b hb => absurd hb (by simp)⟩
  have := zown_new (h := zadd h (.inl (8, List.replicate (Int32.toNatClampNeg 0) Value.null)) (Int32.toNatClampNeg 0)) (n := 7) (e := .inr (3, [.int 2, .int (nI 0), .long 0, .null, .null, .null, .ref (h.1.length + zK0)]))
  rw [zadd_ln, show h.1.length + 1 + zK0 = h.1.length + zK0 + 1 by omega] at this
  exact this
theorem zc15 {is : List Nat} {i : Nat} (hr : zRl h a is) (hi : is[i]? = some b) (q : Q (.inl (some (.ref b))) h) : zG xs d (15, 0, lv_args 0 [zo (some a), .int (nI i)], []) h Q := by
  obtain ⟨r, h1, h2, h3, h4⟩ := hr
  have hil := (List.getElem?_eq_some_iff.mp hi).1
  have ha : (is.map Value.ref)[(nI i).toNatClampNeg]? = some (.ref b) := by rw [nI_clamp (by omega), List.getElem?_map, hi]; rfl
  apply zm_15
  refine zX_gr h1 rfl ⟨fun z => absurd z (by simp), fun _ => ⟨fun z => absurd z (nI_pos (by omega)), fun _ => zX_gr h1 rfl ⟨r, 8, _, rfl, zarr_own h2, by decide, ?_⟩⟩⟩
  rw [List.length_map]
  refine ⟨fun _ => zX_gr h1 rfl ⟨r, 8, _, some b, rfl, h2, by decide, nI_pos (by omega), ha, ⟨fun z => absurd z (by simp), fun _ => zX_gr h1 rfl ⟨r, 8, _, some b, rfl, h2, by decide, nI_pos (by omega), ha, q⟩⟩⟩, fun z => absurd (nI_lt hil (by omega)) z⟩
/-- an array of labels that is being filled -/
def zpad (L : List Nat) (n : Nat) : List Value := L.map Value.ref ++ List.replicate (n - L.length) Value.null
theorem zpad_len {L : List Nat} (hn : L.length ≤ n) : (zpad L n).length = n := by
  unfold zpad; rw [List.length_append, List.length_map, List.length_replicate]; omega
theorem zpad_set {L : List Nat} (hn : L.length < n) : (zpad L n).set L.length (.ref b) = zpad (L ++ [b]) n := by
  unfold zpad
  rw [List.set_append_right _ _ (by rw [List.length_map]; omega), List.length_map, Nat.sub_self, List.map_append, List.length_append, List.length_singleton, List.append_assoc]
  congr 1
  rw [show n - L.length = (n - (L.length + 1)) + 1 by omega, List.replicate_succ]
  rfl
theorem zpad_full {L : List Nat} (hn : L.length = n) : zpad L n = L.map Value.ref := by
  unfold zpad; rw [hn, Nat.sub_self]; exact List.append_nil _
theorem zpad_nil : zpad [] n = List.replicate n Value.null := rfl
/-- one more element goes into the array that was made last -/
theorem zpad_as {L : List Nat} {K : zH → Prop} {m : Nat} {fs : List Value} {j : Int32} (hn : L.length < n) (hn2 : n < 2 ^ 31) (hb : zown h b = some (.inr (3, fs))) (hj : j = nI L.length) (k : K (zadd h (.inl (8, zpad (L ++ [b]) n)) m)) : zAS (some (h.1.length + zK0)) j (some b) (zadd h (.inl (8, zpad L n)) m) K := by
  subst hj
  refine ⟨_, 8, _, rfl, zown_new, by decide, nI_pos (by omega), by rw [nI_clamp (by omega), zpad_len (by omega)]; exact hn, Or.inr ⟨b, 3, fs, rfl, zown_add hb, rfl⟩, ?_⟩
  rw [zput_new, nI_clamp (by omega)]
  rw [show (zpad L n).set L.length (zo (some b)) = zpad (L ++ [b]) n from zpad_set hn]
  exact k
theorem ztake_s {L : List Nat} {i : Nat} (hi : L[i]? = some b) : L.take (i + 1) = L.take i ++ [b] := by
  rw [List.take_add_one, hi]; rfl
/-- the row with one more in front -/
theorem zc145 {is : List Nat} {fs : List Value} (hr : zRl h a is) (hb : zown h b = some (.inr (3, fs))) (hn : is.length + 1 < 1000)
    (g : ∀ h', zEx h h' 2 (is.length + 8) → zRl h' (h.1.length + zK0 + 1) (b :: is) → Q (.inl (some (.ref (h.1.length + zK0 + 1)))) h') : zG xs (d + 2) (145, 0, lv_args 0 [zo (some a), zo (some b)], []) h Q := by
  have hr0 := hr
  obtain ⟨r, h1, h2, h3, h4⟩ := hr
  refine zm_145 (fun m l0 l2 l3 h' => ∃ i, m = is.length - i ∧ i ≤ is.length ∧ l0 = some a ∧ l2 = some (h.1.length + zK0) ∧ l3 = nI i ∧ h' = zadd h (.inl (8, zpad ((b :: is).take (i + 1)) (is.length + 1))) (is.length + 1)) ?_ ?_
  · rintro m l0 l2 l3 h' ⟨i, rfl, hi, rfl, rfl, rfl, rfl⟩
    refine zX_gi (zown_add h1) rfl ⟨fun z => ?_, fun z => ?_⟩
    · have hil : i < is.length := (nI_ltI (by omega) (by omega)).mp z
      obtain ⟨v, hv⟩ : ∃ v, is[i]? = some v := ⟨_, List.getElem?_eq_getElem hil⟩
      obtain ⟨fv, hfv⟩ := h4 v (List.mem_of_getElem? hv)
      refine zX_cv (zown_add h1) (zc15 (zRl_ex (fun _ _ => zown_add) hr0) hv (zKR_v ?_))
      have hlt : ((b :: is).take (i + 1)).length = i + 1 := by rw [List.length_take, List.length_cons]; omega
      refine zpad_as (L := (b :: is).take (i + 1)) (n := is.length + 1) (by omega) (by omega) hfv (by rw [nI_1, hlt]) ?_
      intro x hx
      refine ⟨is.length - (i + 1), by omega, i + 1, rfl, hil, rfl, rfl, by rw [hx, nI_1], ?_⟩
      rw [ztake_s (L := b :: is) (i := i + 1) (b := v) hv]
    · have hil : i = is.length := by
        have := mt (nI_ltI (a := i) (b := is.length) (by omega) (by omega)).mpr z
        omega
      subst hil
      rw [show (b :: is).take (is.length + 1) = b :: is from List.take_of_length_le (by rw [List.length_cons]; omega), zpad_full (by rw [List.length_cons])]
      refine ⟨d + 1, rfl, zc41 zown_new ?_⟩
      rw [show (zadd h (.inl (8, (b :: is).map Value.ref)) (is.length + 1)).1.length + zK0 = h.1.length + zK0 + 1 by rw [zadd_ln]; omega]
      refine g _ (zEx_le (zEx_add' zEx_add) (by omega) (by omega)) ⟨h.1.length + zK0, ?_, zown_add zown_new, by rw [List.length_cons]; exact hn, ?_⟩
      · have := zown_new (h := zadd h (.inl (8, (b :: is).map Value.ref)) (is.length + 1)) (n := 7) (e := .inr (3, [.int 2, .int (nI (List.map Value.ref (b :: is)).length), .long 0, .null, .null, .null, .ref (h.1.length + zK0)]))
        rw [zadd_ln, show h.1.length + 1 + zK0 = h.1.length + zK0 + 1 by omega, List.length_map] at this
        rw [List.length_map]
        exact this
      · intro v hv
        rcases List.mem_cons.mp hv with rfl | hv
        · exact ⟨fs, zown_add (zown_add hb)⟩
        · obtain ⟨fv, hfv⟩ := h4 v hv
          exact ⟨fv, zown_add (zown_add hfv)⟩
  · refine zX_gi h1 rfl ⟨⟨by rw [nI_1]; exact nI_pos (by omega), by rw [nI_1, nI_clamp (by omega)]; omega⟩, ?_⟩
    rw [nI_1, nI_clamp (by omega)]
    refine zpad_as (L := []) (n := is.length + 1) (by simp) (by omega) hb rfl ?_
    exact ⟨is.length, 0, by omega, by omega, rfl, rfl, rfl, rfl⟩
/-- the row without its first -/
theorem zc109 {is : List Nat} (hr : zRl h a (b :: is)) (g : ∀ h', zEx h h' 2 (is.length + 7) → zRl h' (h.1.length + zK0 + 1) is → Q (.inl (some (.ref (h.1.length + zK0 + 1)))) h') : zG xs (d + 2) (109, 0, lv_args 0 [zo (some a)], []) h Q := by
  have hr0 := hr
  obtain ⟨r, h1, h2, h3, h4⟩ := hr
  rw [List.length_cons] at h3
  refine zm_109 (fun m l0 l2 l3 h' => ∃ i, m = is.length - i ∧ i ≤ is.length ∧ l0 = some a ∧ l2 = some (h.1.length + zK0) ∧ l3 = nI i ∧ h' = zadd h (.inl (8, zpad (is.take i) is.length)) is.length) ?_ ?_
  · rintro m l0 l2 l3 h' ⟨i, rfl, hi, rfl, rfl, rfl, rfl⟩
    refine ⟨_, 8, _, rfl, zarr_own zown_new, by decide, ?_⟩
    rw [zpad_len (by rw [List.length_take]; omega)]
    refine ⟨fun z => ?_, fun z => ?_⟩
    · have hil : i < is.length := (nI_ltI (by omega) (by omega)).mp z
      obtain ⟨v, hv⟩ : ∃ v, is[i]? = some v := ⟨_, List.getElem?_eq_getElem hil⟩
      obtain ⟨fv, hfv⟩ := h4 v (List.mem_cons_of_mem _ (List.mem_of_getElem? hv))
      rw [nI_1]
      refine zX_cv (zown_add h1) (zc15 (i := i + 1) (zRl_ex (fun _ _ => zown_add) hr0) hv (zKR_v ?_))
      have hlt : (is.take i).length = i := by rw [List.length_take]; omega
      refine zpad_as (L := is.take i) (n := is.length) (by omega) (by omega) hfv (by rw [hlt]) ?_
      intro x hx
      refine ⟨is.length - (i + 1), by omega, i + 1, rfl, hil, rfl, rfl, by rw [hx], ?_⟩
      rw [ztake_s hv]
    · have hil : i = is.length := by
        have := mt (nI_ltI (a := i) (b := is.length) (by omega) (by omega)).mpr z
        omega
      subst hil
      rw [List.take_length, zpad_full rfl]
      refine ⟨d + 1, rfl, zc41 zown_new ?_⟩
      rw [show (zadd h (.inl (8, is.map Value.ref)) is.length).1.length + zK0 = h.1.length + zK0 + 1 by rw [zadd_ln]; omega]
      refine g _ (zEx_le (zEx_add' zEx_add) (by omega) (by omega)) ⟨h.1.length + zK0, ?_, zown_add zown_new, by omega, ?_⟩
      · have := zown_new (h := zadd h (.inl (8, is.map Value.ref)) is.length) (n := 7) (e := .inr (3, [.int 2, .int (nI (List.map Value.ref is).length), .long 0, .null, .null, .null, .ref (h.1.length + zK0)]))
        rw [zadd_ln, show h.1.length + 1 + zK0 = h.1.length + zK0 + 1 by omega, List.length_map] at this
        rw [List.length_map]
        exact this
      · intro v hv
        obtain ⟨fv, hfv⟩ := h4 v (List.mem_cons_of_mem _ hv)
        exact ⟨fv, zown_add (zown_add hfv)⟩
  · refine zX_gi h1 rfl ?_
    rw [List.length_cons, nI_pred]
    have e : (if (0 : Int32) < nI is.length then nI is.length else 0) = nI is.length := by
      split
      · rfl
      · rename_i z
        have := mt (nI_ltI (a := 0) (b := is.length) (by decide) (by omega)).mpr z
        rw [show is.length = 0 by omega]; rfl
    rw [e]
    refine ⟨⟨nI_pos (by omega), by rw [nI_clamp (by omega)]; omega⟩, ?_⟩
    rw [nI_clamp (by omega)]
    exact ⟨is.length, 0, by omega, by omega, rfl, rfl, rfl, rfl⟩
end MKV
/-! rows by their values -/
def zenc : List Term → Term
  | [] => .null
  | v :: L => .rem v (zenc L)
def zVs (h : zH) (L : List Term) (is : List Nat) : Prop := is.length = L.length ∧ ∀ (i : Nat) (v : Term) (b : Nat), L[i]? = some v → is[i]? = some b → zVal h v (.inl b)
theorem zVal_cls {h : zH} : ∀ (V : Term) (x : Nat ⊕ List Nat), zVal h V x → ∀ a, x = .inl a → ∃ fs, zown h a = some (.inr (3, fs)) := by
  intro V x
  fun_induction zVal h V x with
  | case1 s n a => rintro ⟨b, h1, _⟩ a' e; cases e; exact ⟨_, h1⟩
  | case2 k w a => rintro ⟨h1, _⟩ a' e; cases e; exact ⟨_, h1⟩
  | case3 c a => rintro ⟨h1, _⟩ a' e; cases e; exact ⟨_, h1⟩
  | case4 c v a ih => rintro ⟨b, h1, _⟩ a' e; cases e; exact ⟨_, h1⟩
  | case5 c v w a ih1 ih2 => rintro ⟨b, e, h1, _⟩ a' e; cases e; exact ⟨_, h1⟩
  | case6 l a ih => rintro ⟨r, is, h1, _⟩ a' e; cases e; exact ⟨_, h1⟩
  | case7 l a ih => rintro ⟨r, is, h1, _⟩ a' e; cases e; exact ⟨_, h1⟩
  | case8 l a ih => rintro ⟨r, is, h1, _⟩ a' e; cases e; exact ⟨_, h1⟩
  | case9 is => intro _ a' e; cases e
  | case10 v l is ih1 ih2 => intro _ a' e; cases e
  | case11 => exact fun h => h.elim
theorem zVal_enc {h : zH} : ∀ (L : List Term) (is : List Nat), zVal h (zenc L) (.inr is) ↔ zVs h L is
  | [], is => by
    refine ⟨fun e => ?_, fun e => List.length_eq_zero_iff.mp e.1⟩
    have e : is = [] := e
    subst e
    exact ⟨rfl, fun i v b hv => by simp at hv⟩
  | v :: L, is => by
    have ih := zVal_enc (h := h) L
    refine ⟨fun e => ?_, fun e => ?_⟩
    · obtain ⟨a, as, rfl, h1, h2⟩ := e
      obtain ⟨k1, k2⟩ := (ih as).mp h2
      refine ⟨by rw [List.length_cons, List.length_cons, k1], fun i w b hw hb => ?_⟩
      cases i with
      | zero =>
        obtain rfl : v = w := Option.some.inj hw
        obtain rfl : a = b := Option.some.inj hb
        exact h1
      | succ i => exact k2 i w b hw hb
    · obtain ⟨k1, k2⟩ := e
      cases is with
      | nil => simp at k1
      | cons a as =>
        refine ⟨a, as, rfl, k2 0 v a rfl rfl, (ih as).mpr ⟨by simpa using k1, fun i w b hw hb => k2 (i + 1) w b hw hb⟩⟩
/-- the row at a has these values -/
def zRv (h : zH) (a : Nat) (L : List Term) (is : List Nat) : Prop := zRl h a is ∧ zVs h L is
theorem zRv_val {h : zH} {a : Nat} {L : List Term} : zVal h (.old (zenc L)) (.inl a) ↔ ∃ is, zRv h a L is := by
  refine ⟨?_, ?_⟩
  · rintro ⟨r, is, h1, h2, h3, h4⟩
    have h5 := (zVal_enc L is).mp h4
    refine ⟨is, ⟨r, h1, h2, h3, fun b hb => ?_⟩, h5⟩
    obtain ⟨i, hi⟩ := List.mem_iff_getElem?.mp hb
    have hil := (List.getElem?_eq_some_iff.mp hi).1
    exact zVal_cls _ _ (h5.2 i _ b (List.getElem?_eq_getElem (by rw [← h5.1]; exact hil)) hi) b rfl
  · rintro ⟨is, ⟨r, h1, h2, h3, _⟩, h5⟩
    exact ⟨r, is, h1, h2, h3, (zVal_enc L is).mpr h5⟩
theorem zRv_len {h : zH} {a : Nat} {L : List Term} : zVal h (.length (zenc L)) (.inl a) ↔ ∃ is, zRv h a L is := zRv_val (h := h) (a := a) (L := L)
theorem zRv_sum {h : zH} {a : Nat} {L : List Term} : zVal h (.sum (zenc L)) (.inl a) ↔ ∃ is, zRv h a L is := zRv_val (h := h) (a := a) (L := L)
theorem zVs_ex {h h' : zH} {L : List Term} {is : List Nat} (H : ∀ k e, zown h k = some e → zown h' k = some e) (hv : zVs h L is) : zVs h' L is := ⟨hv.1, fun i v b hi hb => zVal_ex H v _ (hv.2 i v b hi hb)⟩
theorem zRv_ex {h h' : zH} {a : Nat} {L : List Term} {is : List Nat} (H : ∀ k e, zown h k = some e → zown h' k = some e) (hv : zRv h a L is) : zRv h' a L is := ⟨zRl_ex H hv.1, zVs_ex H hv.2⟩
/-- an entry, its key -/
def zent2 (k v : Term) : Term := .add (.div (.arg 28) k) v
/-- how many keys stand ahead that are below this one -/
def zkb (key : Term) : List (Term × Term) → Nat
  | [] => 0
  | e :: es => if zcmp e.1 key < 0 then zkb key es + 1 else 0
theorem zkb_le {key : Term} : ∀ es : List (Term × Term), zkb key es ≤ es.length
  | [] => Nat.le_refl _
  | e :: es => by
    unfold zkb
    have := zkb_le (key := key) es
    split <;> simp <;> omega
theorem zkb_drop {key : Term} : ∀ (es : List (Term × Term)) (i : Nat), (∀ j e, j < i → es[j]? = some e → zcmp e.1 key < 0) → i ≤ es.length → zkb key es = i + zkb key (es.drop i)
  | es, 0, _, _ => by rw [List.drop_zero, Nat.zero_add]
  | [], i + 1, _, h2 => by simp at h2
  | e :: es, i + 1, h1, h2 => by
    rw [List.drop_succ_cons]
    unfold zkb
    rw [if_pos (h1 0 e (by omega) rfl), zkb_drop es i (fun j e' hj he => h1 (j + 1) e' (by omega) he) (by simpa using h2)]
    have e1 : ∀ l : List (Term × Term), zkb key l = zkb key l := fun _ => rfl
    rw [show (match es.drop i with | [] => 0 | e :: es => if zcmp e.1 key < 0 then zkb key es + 1 else 0) = zkb key (es.drop i) by cases es.drop i <;> rfl]
    omega
section MAPS
variable {xs : List Value} {d : Nat} {h : zH} {Q : zO → zH → Prop} {a b c n : Nat} {es : List (Term × Term)} {is : List Nat} {key : Term}
/-- what is needed of a map and a key -/
def zKok (h : zH) (es : List (Term × Term)) (key : Term) (b d : Nat) : Prop := zVal h key (.inl b) ∧ ∀ e ∈ es, zSimp e.1 key ∧ zdep e.1 ≤ d
theorem zent_at (hr : zRv h a (es.map fun e => zent2 e.1 e.2) is) {i : Nat} {e : Term × Term} (hi : es[i]? = some e) : ∃ v bk bv, is[i]? = some v ∧ zown h v = some (.inr (3, [.int (nI 28), .int 0, .long 0, .null, .ref bk, .ref bv, .null])) ∧ zVal h e.1 (.inl bk) ∧ zVal h e.2 (.inl bv) := by
  have hil := (List.getElem?_eq_some_iff.mp hi).1
  obtain ⟨v, hv⟩ : ∃ v, is[i]? = some v := ⟨_, List.getElem?_eq_getElem (by rw [hr.2.1, List.length_map]; exact hil)⟩
  obtain ⟨bk, bv, h1, _, h2, h3⟩ := hr.2.2 i (zent2 e.1 e.2) v (by rw [List.getElem?_map, hi]; rfl) hv
  exact ⟨v, bk, bv, hv, h1, h2, h3⟩
theorem zc139 (hr : zRv h a (es.map fun e => zent2 e.1 e.2) is) (hk : zKok h es key b d) (q : Q (.inl (some (.int (nI (zkb key es))))) h) : zG xs (d + 2) (139, 0, lv_args 0 [zo (some a), zo (some b)], []) h Q := by
  have hr1 := hr.1
  obtain ⟨r, h1, h2, h3, h4⟩ := hr.1
  have hlen : is.length = es.length := by rw [hr.2.1, List.length_map]
  refine zm_139 (fun m l0 l1 l2 h' => ∃ i, m = es.length - i ∧ i ≤ es.length ∧ l0 = some a ∧ l1 = some b ∧ l2 = nI i ∧ h' = h ∧ ∀ j e, j < i → es[j]? = some e → zcmp e.1 key < 0) ?_ ⟨es.length, 0, by omega, by omega, rfl, rfl, rfl, rfl, fun j e hj => absurd hj (by omega)⟩
  rintro m l0 l1 l2 h' ⟨i, rfl, hi, rfl, rfl, rfl, rfl, hb⟩
  have hz := zkb_drop (key := key) es i hb hi
  refine zX_gi h1 rfl ⟨fun z => ?_, fun z => ?_⟩
  · have hil : i < es.length := by rw [← hlen]; exact (nI_ltI (by omega) (by omega)).mp z
    obtain ⟨e, he⟩ : ∃ e, es[i]? = some e := ⟨_, List.getElem?_eq_getElem hil⟩
    obtain ⟨v, bk, bv, v1, v2, v3, v4⟩ := zent_at hr he
    obtain ⟨s1, s2⟩ := hk.2 e (List.mem_of_getElem? he)
    refine zX_cv h1 (zc15 hr1 v1 (zKR_v (zX_cv v2 (zc12 v2 (zKR_v ⟨d + 1, rfl, zc80 e.1 key bk b d _ s1 v3 hk.1 s2 (zKI_v ⟨fun z2 => ?_, fun z2 => ?_⟩)⟩)))))
    · intro x hx
      refine ⟨es.length - (i + 1), by omega, i + 1, rfl, hil, rfl, rfl, by rw [hx, nI_1], rfl, fun j e' hj he' => ?_⟩
      by_cases hji : j < i
      · exact hb j e' hji he'
      · obtain rfl : j = i := by omega
        rw [he] at he'
        obtain rfl : e = e' := Option.some.inj he'
        exact z2
    · rw [List.drop_eq_getElem_cons hil] at hz
      have : es[i] = e := by rw [List.getElem?_eq_getElem hil] at he; exact Option.some.inj he
      rw [this] at hz
      have hz1 : zkb key (e :: es.drop (i + 1)) = 0 := by unfold zkb; rw [if_neg z2]
      rw [hz1, Nat.add_zero] at hz
      rw [hz] at q
      exact q
  · have hil : i = es.length := by
      have := mt (nI_ltI (a := i) (b := is.length) (by omega) (by omega)).mpr z
      omega
    rw [hil, List.drop_length] at hz
    have hz : zkb key es = es.length + 0 := hz
    rw [hz] at q
    subst hil
    exact q
/-- whether the key stands at place i -/
def zka (key : Term) (es : List (Term × Term)) (i : Nat) : Bool := match es[i]? with
  | some e => zcmp e.1 key == 0
  | none => false
theorem zc140 {i : Nat} (hr : zRv h a (es.map fun e => zent2 e.1 e.2) is) (hk : zKok h es key b d) (hi : i ≤ es.length) (q : Q (.inl (some (.int (zB (zka key es i))))) h) : zG xs (d + 2) (140, 0, lv_args 0 [zo (some a), .int (nI i), zo (some b)], []) h Q := by
  have hr1 := hr.1
  obtain ⟨r, h1, h2, h3, h4⟩ := hr.1
  have hlen : is.length = es.length := by rw [hr.2.1, List.length_map]
  apply zm_140
  refine zX_gi h1 rfl ⟨fun z => ?_, fun z => ?_⟩
  · have hil : i < es.length := by rw [← hlen]; exact (nI_ltI (by omega) (by omega)).mp z
    obtain ⟨e, he⟩ : ∃ e, es[i]? = some e := ⟨_, List.getElem?_eq_getElem hil⟩
    obtain ⟨v, bk, bv, v1, v2, v3, v4⟩ := zent_at hr he
    obtain ⟨s1, s2⟩ := hk.2 e (List.mem_of_getElem? he)
    unfold zka at q
    rw [he] at q
    dsimp only at q
    refine zX_cv h1 (zc15 hr1 v1 (zKR_v (zX_cv v2 (zc12 v2 (zKR_v ⟨d + 1, rfl, zc80 e.1 key bk b d _ s1 v3 hk.1 s2 (zKI_v ⟨fun z2 => ?_, fun z2 => ?_⟩)⟩)))))
    · rw [show (zcmp e.1 key == 0) = true by simpa using z2] at q
      exact ⟨Or.inr rfl, q⟩
    · rw [show (zcmp e.1 key == 0) = false by simpa using z2] at q
      exact ⟨Or.inl rfl, q⟩
  · have hil : i = es.length := by
      have := mt (nI_ltI (a := i) (b := is.length) (by omega) (by omega)).mpr z
      omega
    unfold zka at q
    rw [hil, List.getElem?_eq_none (Nat.le_refl _)] at q
    exact ⟨Or.inl rfl, q⟩
theorem zc142 (hr : zRv h a (es.map fun e => zent2 e.1 e.2) is) (hk : zKok h es key b d) (q : Q (.inl (some (.int (zB (zka key es (zkb key es)))))) h) : zG xs (d + 3) (142, 0, lv_args 0 [zo (some a), zo (some b)], []) h Q := by
  obtain ⟨r, h1, h2, h3, h4⟩ := hr.1
  exact zm_142 (zX_cv h1 (zc139 hr hk (zKI_v (zX_cv h1 (zc140 hr hk (zkb_le es) (zKI_v ⟨zB_01 _, q⟩))))))
/-- what a map has for a key -/
def zget (key : Term) (es : List (Term × Term)) : Term := if zka key es (zkb key es) then .div (.arg 25) ((es[zkb key es]?.map fun e => e.2).getD .null) else .arg 24
theorem zc138 (hr : zRv h a (es.map fun e => zent2 e.1 e.2) is) (hk : zKok h es key b d) (q : ∀ h', zEx h h' 1 7 → zVal h' (zget key es) (.inl (h.1.length + zK0)) → Q (.inl (some (.ref (h.1.length + zK0)))) h') : zG xs (d + 3) (138, 0, lv_args 0 [zo (some a), zo (some b)], []) h Q := by
  have hr1 := hr.1
  obtain ⟨r, h1, h2, h3, h4⟩ := hr.1
  refine zm_138 (zX_cv h1 (zc139 hr hk (zKI_v (zX_cv h1 (zc140 hr hk (zkb_le es) (zKI_v ⟨fun z => ?_, fun z => ?_⟩))))))
  · rw [zB_0] at z
    refine ⟨d + 2, rfl, zc131 (d := d) (zKR_v (q _ zEx_add ?_))⟩
    unfold zget
    rw [z]
    exact ⟨zown_new, by decide⟩
  · have z1 : zka key es (zkb key es) = true := by cases hz : zka key es (zkb key es); rw [hz] at z; exact absurd rfl z; rfl
    have z2 := z1
    unfold zka at z2
    cases he : es[zkb key es]? with
    | none => rw [he] at z2; cases z2
    | some e =>
      obtain ⟨v, bk, bv, v1, v2, v3, v4⟩ := zent_at hr he
      refine zX_cv h1 (zc15 hr1 v1 (zKR_v (zX_cv v2 (zc81 v2 (zKR_v ⟨d + 2, rfl, zc136 (d := d) (zKR_v (q _ zEx_add ?_))⟩)))))
      unfold zget
      rw [if_pos z1, he]
      exact ⟨bv, zown_new, by decide, zVal_ex (fun _ _ => zown_add) _ _ v4⟩
end MAPS
/-- a map with what the option holds for the key -/
def zupl (key opt : Term) (es : List (Term × Term)) : List (Term × Term) := es.take (zkb key es) ++ ((match opt with | .div (.arg _) v => [(key, v)] | _ => []) ++ es.drop (zkb key es + (zka key es (zkb key es)).toNat))
theorem zmap_ref_len {L : List Nat} : (L.map Value.ref).length = L.length := List.length_map _
section UPD
variable {xs : List Value} {d : Nat} {h : zH} {Q : zO → zH → Prop} {a b c n o : Nat} {es : List (Term × Term)} {is : List Nat} {key opt : Term}
theorem zc15n (hr : zRl h a is) (q : Q (.inl (some (.ref a))) h) : zG xs d (15, 0, lv_args 0 [zo (some a), .int (-1)], []) h Q := by
  obtain ⟨r, h1, h2, h3, h4⟩ := hr
  exact zm_15 (zX_gr h1 rfl ⟨fun z => absurd z (by simp), fun _ => ⟨fun _ => q, fun z => absurd (by decide) z⟩⟩)
/-- rows of values that are put together -/
theorem zVs_app {L1 L2 : List Term} {i1 i2 : List Nat} (h1 : zVs h L1 i1) (h2 : zVs h L2 i2) : zVs h (L1 ++ L2) (i1 ++ i2) := by
  refine ⟨by rw [List.length_append, List.length_append, h1.1, h2.1], fun i v b hv hb => ?_⟩
  by_cases hi : i < L1.length
  · rw [List.getElem?_append_left hi] at hv
    rw [List.getElem?_append_left (by rw [h1.1]; exact hi)] at hb
    exact h1.2 i v b hv hb
  · rw [List.getElem?_append_right (by omega)] at hv
    rw [List.getElem?_append_right (by rw [h1.1]; omega), h1.1] at hb
    exact h2.2 _ v b hv hb
theorem zVs_take {L : List Term} {k : Nat} (h1 : zVs h L is) : zVs h (L.take k) (is.take k) := by
  refine ⟨by rw [List.length_take, List.length_take, h1.1], fun i v b hv hb => ?_⟩
  rw [List.getElem?_take] at hv hb
  split at hv
  · rename_i hi
    rw [if_pos hi] at hb
    exact h1.2 i v b hv hb
  · cases hv
theorem zVs_drop {L : List Term} {k : Nat} (h1 : zVs h L is) : zVs h (L.drop k) (is.drop k) := by
  refine ⟨by rw [List.length_drop, List.length_drop, h1.1], fun i v b hv hb => ?_⟩
  rw [List.getElem?_drop] at hv hb
  exact h1.2 _ v b hv hb
theorem zVs_one {v : Term} (hv : zVal h v (.inl b)) : zVs h [v] [b] := by
  refine ⟨rfl, fun i w c hw hc => ?_⟩
  cases i with
  | zero =>
    obtain rfl : v = w := Option.some.inj hw
    obtain rfl : b = c := Option.some.inj hc
    exact hv
  | succ i => simp at hw
/-- a row value of an array whose labels are known -/
theorem zRv_row {L : List Term} {h' : zH} (hv : zVs h L is) (hl : is.length < 1000) (he : zEx h h' 0 0 ∨ True) (H : ∀ k e, zown h k = some e → zown h' k = some e) {r c : Nat} (h1 : zown h' c = some (.inr (3, [.int 2, .int (nI is.length), .long 0, .null, .null, .null, .ref r]))) (h2 : zown h' r = some (.inl (8, is.map Value.ref))) : zRv h' c L is := by
  refine ⟨⟨r, h1, h2, hl, fun b hb => ?_⟩, zVs_ex H hv⟩
  obtain ⟨i, hi⟩ := List.mem_iff_getElem?.mp hb
  have hil := (List.getElem?_eq_some_iff.mp hi).1
  exact zVal_cls _ _ (zVal_ex H _ _ (hv.2 i _ b (List.getElem?_eq_getElem (by rw [← hv.1]; exact hil)) hi)) b rfl
/-- UPDATE -/
theorem zc141 (hr : zRv h a (es.map fun e => zent2 e.1 e.2) is) (hk : zKok h es key b d) (ho : zVal h opt (.inl o)) (hopt : opt = .arg 24 ∨ ∃ v, opt = .div (.arg 25) v) (hn : es.length + 1 < 1000)
    (q : ∀ h' c is', zEx h h' 3 (es.length + 15) → zRv h' c ((zupl key opt es).map fun e => zent2 e.1 e.2) is' → Q (.inl (some (.ref c))) h') : zG xs (d + 3) (141, 0, lv_args 0 [zo (some a), zo (some b), zo (some o)], []) h Q := by
  have hr1 := hr.1
  obtain ⟨r, h1, h2, h3, h4⟩ := hr.1
  have hlen : is.length = es.length := by rw [hr.2.1, List.length_map]
  have hkb := zkb_le (key := key) es
  -- how many there were, how many come
  obtain ⟨old, eold⟩ : ∃ z : Bool, z = zka key es (zkb key es) := ⟨_, rfl⟩
  have hold : old = true → zkb key es < es.length := by
    intro hz
    rw [eold] at hz
    unfold zka at hz
    cases he : es[zkb key es]? with
    | none => rw [he] at hz; cases hz
    | some e => exact (List.getElem?_eq_some_iff.mp he).1
  obtain ⟨add, fs, o1, hadd⟩ : ∃ (add : Bool) (fs : List Value), zown h o = some (.inr (3, .int (nI (if add then 25 else 24)) :: fs)) ∧ ((add = false ∧ opt = .arg 24) ∨ (add = true ∧ ∃ v bv s w x y z, opt = .div (.arg 25) v ∧ zVal h v (.inl bv) ∧ fs = [.int s, .long w, x, .ref bv, y, z])) := by
    rcases hopt with rfl | ⟨v, rfl⟩
    · exact ⟨false, _, ho.1, Or.inl ⟨rfl, rfl⟩⟩
    · obtain ⟨bv, k1, k2, k3⟩ := ho
      exact ⟨true, _, k1, Or.inr ⟨rfl, v, bv, _, _, _, _, _, rfl, k3, rfl⟩⟩
  have hZ : ∀ t : Bool, zB t = nI t.toNat := fun t => by cases t <;> rfl
  obtain ⟨at_, eat⟩ : ∃ k, k = zkb key es := ⟨_, rfl⟩
  obtain ⟨N, eN⟩ : ∃ N, N = es.length - old.toNat + add.toNat := ⟨_, rfl⟩
  have hot : old.toNat ≤ 1 := by cases old <;> decide
  have hat : add.toNat ≤ 1 := by cases add <;> decide
  have hon : old.toNat ≤ es.length - at_ := by
    cases old
    · simp
    · have := hold rfl
      rw [← eat] at this
      show 1 ≤ _
      omega
  rw [← eat] at hkb
  -- the labels that the loop puts in
  let lab : Nat → Nat := fun i => if i < at_ then is.getD i a else if i + old.toNat < add.toNat then a else is.getD (i + old.toNat - add.toNat) a
  have main : zw_141_50 xs (d + 3) Q (fun l0 l1 l2 l3 l4 l5 l6 l7 h' => ∃ n1, (fun m l0 l1 l2 l3 l4 l5 l6 l7 h' => ∃ i, m = N - i ∧ i ≤ N ∧ l0 = some a ∧ l1 = some b ∧ l2 = some o ∧ l3 = nI at_ ∧ l4 = zB old ∧ l5 = zB add ∧ l6 = some (h.1.length + zK0) ∧ l7 = nI i ∧ h' = zadd h (.inl (8, zpad ((List.range i).map lab) N)) N) n1 l0 l1 l2 l3 l4 l5 l6 l7 h') (some a) (some b) (some o) (nI at_) (zB old) (zB add) h := by
    refine zX_gi h1 rfl ?_
    rw [hZ, hZ, hlen, pk_sub (by omega), nI_add]
    have e : (if (0 : Int32) < nI (es.length - old.toNat + add.toNat) then nI (es.length - old.toNat + add.toNat) else 0) = nI N := by
      rw [← eN]
      split
      · rfl
      · rename_i z
        have := mt (nI_ltI (a := 0) (b := N) (by decide) (by omega)).mpr z
        rw [show N = 0 by omega]; rfl
    rw [e]
    refine ⟨⟨nI_pos (by omega), by rw [nI_clamp (by omega)]; omega⟩, ?_⟩
    rw [nI_clamp (by omega)]
    exact ⟨N, 0, by omega, by omega, rfl, rfl, rfl, rfl, rfl, rfl, rfl, rfl, rfl⟩
  refine zm_141 (fun m l0 l1 l2 l3 l4 l5 l6 l7 h' => ∃ i, m = N - i ∧ i ≤ N ∧ l0 = some a ∧ l1 = some b ∧ l2 = some o ∧ l3 = nI at_ ∧ l4 = zB old ∧ l5 = zB add ∧ l6 = some (h.1.length + zK0) ∧ l7 = nI i ∧ h' = zadd h (.inl (8, zpad ((List.range i).map lab) N)) N) ?_ ?_
  · rintro m l0 l1 l2 l3 l4 l5 l6 l7 h' ⟨i, rfl, hi, rfl, rfl, rfl, rfl, rfl, rfl, rfl, rfl, rfl⟩
    have hli : ((List.range i).map lab).length = i := by rw [List.length_map, List.length_range]
    refine ⟨_, 8, _, rfl, zarr_own zown_new, by decide, ?_⟩
    rw [zpad_len (by rw [hli]; exact hi)]
    refine ⟨fun z => ?_, fun z => ?_⟩
    · have hil : i < N := (nI_ltI (by omega) (by omega)).mp z
      have put : ∀ v fv, lab i = v → zown h v = some (.inr (3, fv)) → zw_141_111 xs (d + 3) Q (fun l0 l1 l2 l3 l4 l5 l6 l7 h' => ∃ n1, n1 < N - i ∧ ∃ i, n1 = N - i ∧ i ≤ N ∧ l0 = some a ∧ l1 = some b ∧ l2 = some o ∧ l3 = nI at_ ∧ l4 = zB old ∧ l5 = zB add ∧ l6 = some (h.1.length + zK0) ∧ l7 = nI i ∧ h' = zadd h (.inl (8, zpad ((List.range i).map lab) N)) N) (some a) (some b) (some o) (nI at_) (zB old) (zB add) (some (h.1.length + zK0)) (nI i) (some v) (nI i) (some (h.1.length + zK0)) (zadd h (.inl (8, zpad ((List.range i).map lab) N)) N) := by
        intro v fv hv hfv
        refine zpad_as (L := (List.range i).map lab) (n := N) (by rw [hli]; exact hil) (by omega) hfv (by rw [hli]) ?_
        intro x hx
        refine ⟨N - (i + 1), by omega, i + 1, rfl, hil, rfl, rfl, rfl, rfl, rfl, rfl, rfl, by rw [hx, nI_1], ?_⟩
        rw [List.range_succ, List.map_append, List.map_singleton, hv]
      have itm : ∀ k, k < es.length → ∀ R : zO → zH → Prop, (∀ v fv, is[k]? = some v → zown h v = some (.inr (3, fv)) → R (.inl (some (.ref v))) (zadd h (.inl (8, zpad ((List.range i).map lab) N)) N)) → zCV xs (d + 3) 15 3 (some a) [.int (nI k)] (zadd h (.inl (8, zpad ((List.range i).map lab) N)) N) R := by
        intro k hk R hR
        obtain ⟨v, hv⟩ : ∃ v, is[k]? = some v := ⟨_, List.getElem?_eq_getElem (by omega)⟩
        obtain ⟨fv, hfv⟩ := h4 v (List.mem_of_getElem? hv)
        exact zX_cv (zown_add h1) (zc15 (zRl_ex (fun _ _ => zown_add) hr1) hv (hR v fv hv hfv))
      refine ⟨fun z2 => ?_, fun z2 => ?_⟩
      · have hia : i < at_ := (nI_ltI (by omega) (by omega)).mp z2
        refine itm i (by omega) _ (fun v fv hv hfv => zKR_v (put v fv ?_ hfv))
        show (if i < at_ then is.getD i a else _) = v
        rw [if_pos hia, List.getD_eq_getElem?_getD, hv]; rfl
      · have hia : ¬ i < at_ := fun z3 => z2 ((nI_ltI (by omega) (by omega)).mpr z3)
        by_cases hz : i + old.toNat < add.toNat
        · have e0 : i = 0 ∧ old.toNat = 0 ∧ add.toNat = 1 := by omega
          have e1 : nI i + zB old - zB add = -1 := by rw [hZ, hZ, nI_add, e0.1, e0.2.1, e0.2.2]; decide
          rw [e1]
          refine zX_cv (zown_add h1) (zc15n (zRl_ex (fun _ _ => zown_add) hr1) (zKR_v ?_))
          exact put a _ (by show (if i < at_ then is.getD i a else _) = a; rw [if_neg hia, if_pos hz]) h1
        · have e1 : nI i + zB old - zB add = nI (i + old.toNat - add.toNat) := by rw [hZ, hZ, nI_add, pk_sub (by omega)]
          rw [e1]
          refine itm (i + old.toNat - add.toNat) (by omega) _ (fun v fv hv hfv => zKR_v (put v fv ?_ hfv))
          show (if i < at_ then is.getD i a else _) = v
          rw [if_neg hia, if_neg hz, List.getD_eq_getElem?_getD, hv]; rfl
    · have hil : i = N := by
        have := mt (nI_ltI (a := i) (b := N) (by omega) (by omega)).mpr z
        omega
      subst hil
      rw [zpad_full (by rw [hli])]
      have lget : ∀ k, k < i → ((List.range i).map lab)[k]? = some (lab k) := fun k hk => by rw [List.getElem?_map, List.getElem?_range hk]; rfl
      -- the end: the array is a row
      have fin : ∀ h2 is', zEx h h2 2 (es.length + 8) → zVs h2 ((zupl key opt es).map fun e => zent2 e.1 e.2) is' → is'.length = i → zown h2 (h.1.length + zK0) = some (.inl (8, is'.map Value.ref)) → ∀ J, zw_141_145 xs (d + 3) Q J (some (h.1.length + zK0)) h2 := by
        intro h2 is' x1 x2 x3 x4 J
        refine ⟨d + 2, rfl, zc41 (d := d + 1) x4 (zKR_v (q _ _ is' (zEx_le (zEx_add' x1) (by omega) (by omega)) ?_))⟩
        refine zRv_row x2 (by omega) (Or.inr trivial) (fun _ _ => zown_add) (r := h.1.length + zK0) ?_ (zown_add x4)
        rw [zown_new, zmap_ref_len]
      rcases hadd with ⟨rfl, rfl⟩ | ⟨rfl, v, bv, s', w', x', y', z', rfl, hv, rfl⟩
      · refine ⟨fun z => absurd z (by decide), fun _ => ?_⟩
        have hLL : (List.range i).map lab = is.take at_ ++ is.drop (at_ + old.toNat) := by
          apply List.ext_getElem?
          intro k
          by_cases hki : k < i
          · rw [lget k hki]
            by_cases hka : k < at_
            · rw [List.getElem?_append_left (by rw [List.length_take]; omega), List.getElem?_take, if_pos hka]
              show some (if k < at_ then is.getD k a else _) = _
              rw [if_pos hka, List.getD_eq_getElem?_getD, List.getElem?_eq_getElem (by omega)]; rfl
            · rw [List.getElem?_append_right (by rw [List.length_take]; omega), List.length_take, List.getElem?_drop, show at_ + old.toNat + (k - min at_ is.length) = k + old.toNat by omega]
              show some (if k < at_ then is.getD k a else _) = _
              rw [if_neg hka, if_neg (by simp), List.getD_eq_getElem?_getD, show k + old.toNat - false.toNat = k + old.toNat from rfl, List.getElem?_eq_getElem (by simp at eN; omega)]; rfl
          · rw [List.getElem?_eq_none (by rw [hli]; omega), List.getElem?_eq_none]
            rw [List.length_append, List.length_take, List.length_drop]; simp at eN; omega
        rw [hLL]
        refine fin _ _ (zEx_le zEx_add (by omega) (by simp at eN; omega)) ?_ (by rw [← hLL, hli]) zown_new _
        have x := zVs_app (zVs_take (k := at_) hr.2) (zVs_drop (k := at_ + old.toNat) hr.2)
        rw [← List.map_take, ← List.map_drop, ← List.map_append] at x
        refine zVs_ex (fun _ _ => zown_add) ?_
        unfold zupl
        rw [← eat]
        rw [← eat] at eold
        rw [← eold]
        exact x
      · refine ⟨fun _ => ?_, fun z => absurd rfl z⟩
        refine ⟨_, 8, _, rfl, zarr_own zown_new, by decide, ?_⟩
        rw [zmap_ref_len, hli]
        have hai : at_ < i := by simp at eN; omega
        refine ⟨fun _ => ?_, fun z => absurd (nI_lt hai (by omega)) z⟩
        refine zX_cv (zown_add o1) (zc12 (zown_add o1) (zKR_v ⟨d + 2, rfl, zc43 (d := d + 1) (p := some b) (q := some bv) (zKR_v ?_)⟩))
        have eE : (zadd h (.inl (8, ((List.range i).map lab).map Value.ref)) i).1.length + zK0 = h.1.length + zK0 + 1 := by rw [zadd_ln]; omega
        rw [eE]
        have wE : zown (zadd (zadd h (.inl (8, ((List.range i).map lab).map Value.ref)) i) (.inr (3, [.int 28, .int 0, .long 0, .null, zo (some b), zo (some bv), .null])) 7) (h.1.length + zK0 + 1) = some (.inr (3, [.int 28, .int 0, .long 0, .null, zo (some b), zo (some bv), .null])) := by
          rw [← eE]; exact zown_new
        refine ⟨_, 8, _, rfl, zown_add zown_new, by decide, nI_pos (by omega), by rw [nI_clamp (by omega), zmap_ref_len, hli]; exact hai, Or.inr ⟨_, 3, _, rfl, wE, rfl⟩, ?_⟩
        rw [zput_old zown_new, zput_new, nI_clamp (by omega)]
        have hLL : (((List.range i).map lab).map Value.ref).set at_ (zo (some (h.1.length + zK0 + 1))) = (is.take at_ ++ ([h.1.length + zK0 + 1] ++ is.drop (at_ + old.toNat))).map Value.ref := by
          rw [show (zo (some (h.1.length + zK0 + 1))) = Value.ref (h.1.length + zK0 + 1) from rfl, ← List.map_set]
          congr 1
          apply List.ext_getElem?
          intro k
          by_cases hka : k < at_
          · rw [List.getElem?_set_ne (by omega), lget k (by omega), List.getElem?_append_left (by rw [List.length_take]; omega), List.getElem?_take, if_pos hka]
            show some (if k < at_ then is.getD k a else _) = _
            rw [if_pos hka, List.getD_eq_getElem?_getD, List.getElem?_eq_getElem (by omega)]; rfl
          · by_cases hke : k = at_
            · subst hke
              rw [List.getElem?_set_self (by rw [hli]; exact hai), List.getElem?_append_right (by rw [List.length_take]; omega), List.length_take, show k - min k is.length = 0 by omega]; rfl
            · rw [List.getElem?_set_ne (by omega), List.getElem?_append_right (by rw [List.length_take]; omega), List.length_take, List.getElem?_append_right (by simp; omega), List.getElem?_drop, show at_ + old.toNat + (k - min at_ is.length - [h.1.length + zK0 + 1].length) = k + old.toNat - 1 by simp; omega]
              by_cases hki : k < i
              · rw [lget k hki]
                show some (if k < at_ then is.getD k a else _) = _
                rw [if_neg hka, if_neg (by simp; omega), List.getD_eq_getElem?_getD, show k + old.toNat - true.toNat = k + old.toNat - 1 from rfl, List.getElem?_eq_getElem (by simp at eN; omega)]; rfl
              · rw [List.getElem?_eq_none (by rw [hli]; omega), List.getElem?_eq_none (by simp at eN; omega)]
        rw [hLL]
        have wE2 : zown (zadd (zadd h (.inl (8, (is.take at_ ++ ([h.1.length + zK0 + 1] ++ is.drop (at_ + old.toNat))).map Value.ref)) i) (.inr (3, [.int 28, .int 0, .long 0, .null, zo (some b), zo (some bv), .null])) 7) (h.1.length + zK0 + 1) = some (.inr (3, [.int 28, .int 0, .long 0, .null, zo (some b), zo (some bv), .null])) := by
          have := zown_new (h := zadd h (.inl (8, (is.take at_ ++ ([h.1.length + zK0 + 1] ++ is.drop (at_ + old.toNat))).map Value.ref)) i) (n := 7) (e := .inr (3, [.int 28, .int 0, .long 0, .null, zo (some b), zo (some bv), .null]))
          rw [zadd_ln, show h.1.length + 1 + zK0 = h.1.length + zK0 + 1 by omega] at this
          exact this
        refine fin _ _ (zEx_le (zEx_add' zEx_add) (by omega) (by simp at eN; omega)) ?_ ?_ (zown_add zown_new) _
        · have up : ∀ k e, zown h k = some e → zown (zadd (zadd h (.inl (8, (is.take at_ ++ ([h.1.length + zK0 + 1] ++ is.drop (at_ + old.toNat))).map Value.ref)) i) (.inr (3, [.int 28, .int 0, .long 0, .null, zo (some b), zo (some bv), .null])) 7) k = some e := fun _ _ z => zown_add (zown_add z)
          have x := zVs_app (zVs_take (k := at_) (zVs_ex up hr.2)) (zVs_app (zVs_one (v := zent2 key v) (b := h.1.length + zK0 + 1) ⟨b, bv, wE2, by decide, zVal_ex up _ _ hk.1, zVal_ex up _ _ hv⟩) (zVs_drop (k := at_ + old.toNat) (zVs_ex up hr.2)))
          rw [← List.map_take, ← List.map_drop, show [zent2 key v] = [(key, v)].map (fun e => zent2 e.1 e.2) from rfl, ← List.map_append, ← List.map_append] at x
          unfold zupl
          rw [← eat]
          rw [← eat] at eold
          rw [← eold]
          exact x
        · rw [List.length_append, List.length_append, List.length_take, List.length_drop]; simp at eN ⊢; omega
  · refine zX_cv h1 (zc139 (d := d) hr hk (zKI_v (zX_cv h1 (zc140 (d := d) hr hk (zkb_le es) (zKI_v ?_)))))
    rw [← eat] at eold ⊢
    rw [← eold]
    have go : ∀ J, zw_141_50 xs (d + 3) Q J (some a) (some b) (some o) (nI at_) (zB old) (zB add) h → ∀ s0, s0 = zB old → zw_141_20 xs (d + 3) Q J (some a) (some b) (some o) (nI at_) s0 h := by
      intro J main s0 hs0
      subst hs0
      have go2 : ∀ s1, s1 = zB add → zw_141_36 xs (d + 3) Q J (some a) (some b) (some o) (nI at_) (zB old) s1 h := by
        intro s1 hs1
        subst hs1
        refine ⟨fun z => ⟨fun z2 => ?_, fun z2 => main⟩, fun z => main⟩
        rw [zB_0] at z z2
        refine q h a is (zEx_le (zEx_refl h) (by omega) (by omega)) ?_
        rcases hadd with ⟨_, rfl⟩ | ⟨ha, _⟩
        · unfold zupl
          rw [← eat, ← eold, z]
          rw [show (false.toNat) = 0 from rfl, Nat.add_zero, List.nil_append, List.take_append_drop]
          exact hr
        · rw [z2] at ha; cases ha
      refine zX_gi o1 rfl ⟨fun z => go2 _ ?_, fun z => go2 _ ?_⟩
      · cases add
        · exact absurd z (by decide)
        · rfl
      · cases add
        · rfl
        · exact absurd rfl z
    refine ⟨fun z => go _ main _ ?_, fun z => go _ main _ ?_⟩
    · rw [zB_0] at z; rw [z]; rfl
    · have : old = true := by cases old; exact absurd rfl z; rfl
      rw [this]; rfl
end UPD
