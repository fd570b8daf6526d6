/-- the cells that the law makes ahead of its loop: 3 .. 9 the class's, 10 .. 52 the reference's, 53 the law's -/
def zh0 : zH := ([.inr (0, [.ref 4, .ref 7, .ref 9, .int 0]), .inr (1, [.ref 5, .ref 6, .int 0, .int (-1), .int 0, .int 0, .int 0]), .inl (2, List.replicate 240 (.int 0)), .inl (6, List.replicate 0 (.null)), .inr (2, [.ref 8, .int 0]), .inl (2, List.replicate 2686 (.int 0)), .inl (5, List.replicate 4 (.null)), .inr (12, [.int 0, .ref 11, .ref 12, .int 0, .int 0, .int (-1), .int 0, .int 0, .int 0, .ref 13, .ref 14, .ref 15, .ref 16, .ref 17, .ref 18, .ref 19, .ref 20, .ref 21, .ref 22, .ref 23, .ref 24, .int 0, .ref 25, .ref 26, .ref 27, .ref 28, .ref 29, .int 0, .int 0, .int 0, .ref 30, .ref 31, .ref 32, .ref 33, .ref 34, .ref 35, .ref 36, .ref 37, .ref 38, .ref 39, .ref 40, .ref 41, .ref 42, .ref 43, .ref 44, .ref 45, .ref 46, .ref 47, .ref 48, .int 0, .int 0, .int 0, .int 0, .int 0, .int 0, .int 0, .int 0, .int 0, .int 0, .int 0, .int 0, .ref 49, .ref 50, .ref 51, .ref 52, .long 0, .long 0]), .inl (0, List.replicate 8660 (.int 0)), .inl (0, List.replicate 2800 (.int 0)), .inl (0, List.replicate 100 (.int 0)), .inl (0, List.replicate 100 (.int 0)), .inl (0, List.replicate 100 (.int 0)), .inl (0, List.replicate 100 (.int 0)), .inl (0, List.replicate 100 (.int 0)), .inl (0, List.replicate 100 (.int 0)), .inl (0, List.replicate 100 (.int 0)), .inl (0, List.replicate 100 (.int 0)), .inl (1, List.replicate 100 (.long 0)), .inl (1, List.replicate 100 (.long 0)), .inl (0, List.replicate 10 (.int 0)), .inl (0, List.replicate 10 (.int 0)), .inl (0, List.replicate 220 (.int 0)), .inl (0, List.replicate 220 (.int 0)), .inl (0, List.replicate 220 (.int 0)), .inl (0, List.replicate 220 (.int 0)), .inl (4, List.replicate 220 (.int 0)), .inl (2, List.replicate 1400 (.int 0)), .inl (3, List.replicate 1400 (.int 0)), .inl (3, List.replicate 1400 (.int 0)), .inl (1, List.replicate 600 (.long 0)), .inl (1, List.replicate 600 (.long 0)), .inl (0, List.replicate 60 (.int 0)), .inl (0, List.replicate 60 (.int 0)), .inl (0, List.replicate 60 (.int 0)), .inl (0, List.replicate 12 (.int 0)), .inl (0, List.replicate 12 (.int 0)), .inl (0, List.replicate 12 (.int 0)), .inl (0, List.replicate 12 (.int 0)), .inl (0, List.replicate 12 (.int 0)), .inl (0, List.replicate 12 (.int 0)), .inl (0, List.replicate 144 (.int 0)), .inl (0, List.replicate 12 (.int 0)), .inl (0, List.replicate 144 (.int 0)), .inl (0, List.replicate 12 (.int 0)), .inl (0, List.replicate 16 (.int 0)), .inl (0, List.replicate 4 (.int 0)), .inl (0, List.replicate 4 (.int 0)), .inl (0, List.replicate 24 (.int 0)), .inl (0, List.replicate 100 (.int 0)), .inl (1, List.replicate 1 (.long 0))], 51, 22703)
def zhA : zH := ([.inr (0, [.ref 4, .ref 7, .ref 9, .int 0]), .inr (1, [.ref 5, .ref 6, .int 0, .int (-1), .int 0, .int 0, .int 0]), .inl (2, List.replicate 240 (.int 0)), .inl (6, List.replicate 0 (.null)), .inr (2, [.ref 8, .int 0]), .inl (2, List.replicate 2686 (.int 0)), .inl (5, List.replicate 4 (.null))], 7, 2943)
def zhB : zH := ([.inr (0, [.ref 4, .ref 7, .ref 9, .int 0]), .inr (1, [.ref 5, .ref 6, .int 0, .int (-1), .int 0, .int 0, .int 0]), .inl (2, List.replicate 240 (.int 0)), .inl (6, List.replicate 0 (.null)), .inr (2, [.ref 8, .int 0]), .inl (2, List.replicate 2686 (.int 0)), .inl (5, List.replicate 4 (.null)), .inr (12, [.int 0, .ref 11, .ref 12, .int 0, .int 0, .int (-1), .int 0, .int 0, .int 0, .ref 13, .ref 14, .ref 15, .ref 16, .ref 17, .ref 18, .ref 19, .ref 20, .ref 21, .ref 22, .ref 23, .ref 24, .int 0, .ref 25, .ref 26, .ref 27, .ref 28, .ref 29, .int 0, .int 0, .int 0, .ref 30, .ref 31, .ref 32, .ref 33, .ref 34, .ref 35, .ref 36, .ref 37, .ref 38, .ref 39, .ref 40, .ref 41, .ref 42, .ref 43, .ref 44, .ref 45, .ref 46, .ref 47, .ref 48, .int 0, .int 0, .int 0, .int 0, .int 0, .int 0, .int 0, .int 0, .int 0, .int 0, .int 0, .int 0, .ref 49, .ref 50, .ref 51, .ref 52, .long 0, .long 0]), .inl (0, List.replicate 8660 (.int 0)), .inl (0, List.replicate 2800 (.int 0)), .inl (0, List.replicate 100 (.int 0)), .inl (0, List.replicate 100 (.int 0)), .inl (0, List.replicate 100 (.int 0)), .inl (0, List.replicate 100 (.int 0)), .inl (0, List.replicate 100 (.int 0)), .inl (0, List.replicate 100 (.int 0)), .inl (0, List.replicate 100 (.int 0)), .inl (0, List.replicate 100 (.int 0)), .inl (1, List.replicate 100 (.long 0)), .inl (1, List.replicate 100 (.long 0)), .inl (0, List.replicate 10 (.int 0)), .inl (0, List.replicate 10 (.int 0)), .inl (0, List.replicate 220 (.int 0)), .inl (0, List.replicate 220 (.int 0)), .inl (0, List.replicate 220 (.int 0)), .inl (0, List.replicate 220 (.int 0)), .inl (4, List.replicate 220 (.int 0)), .inl (2, List.replicate 1400 (.int 0)), .inl (3, List.replicate 1400 (.int 0)), .inl (3, List.replicate 1400 (.int 0)), .inl (1, List.replicate 600 (.long 0)), .inl (1, List.replicate 600 (.long 0)), .inl (0, List.replicate 60 (.int 0)), .inl (0, List.replicate 60 (.int 0)), .inl (0, List.replicate 60 (.int 0)), .inl (0, List.replicate 12 (.int 0)), .inl (0, List.replicate 12 (.int 0)), .inl (0, List.replicate 12 (.int 0)), .inl (0, List.replicate 12 (.int 0)), .inl (0, List.replicate 12 (.int 0)), .inl (0, List.replicate 12 (.int 0)), .inl (0, List.replicate 144 (.int 0)), .inl (0, List.replicate 12 (.int 0)), .inl (0, List.replicate 144 (.int 0)), .inl (0, List.replicate 12 (.int 0)), .inl (0, List.replicate 16 (.int 0)), .inl (0, List.replicate 4 (.int 0)), .inl (0, List.replicate 4 (.int 0)), .inl (0, List.replicate 24 (.int 0)), .inl (0, List.replicate 100 (.int 0))], 50, 22702)
theorem zNO_i {c : Nat} {fs : List Value} {h : zH} {K : Nat → zH → Prop} (w : K (h.1.length + zK0) (zadd h (.inr (c, fs)) fs.length)) : zNO c fs h K := w
theorem zcon2 {xs : List Value} {d : Nat} {K : zH → Prop} {E : Nat → zH → Prop} (hK : K ([.inr (0, [.null, .null, .null, .int 0]), .inr (1, [.ref 5, .ref 6, .int 0, .int (-1), .int 0, .int 0, .int 0]), .inl (2, List.replicate 240 (.int 0)), .inl (6, [])], 4, 251)) :
    zG xs d (2, 0, lv_args 0 [zo (some 4)], []) ([.inr (0, [.null, .null, .null, .int 0]), .inr (1, [.null, .null, .int 0, .int 0, .int 0, .int 0, .int 0])], 2, 11) (zKV K E) := by
  apply zm_2
  unfold zw_2_0
  refine ⟨4, rfl, by decide, ?_⟩
  refine ⟨_, _, rfl, rfl, by decide, by decide, ?_⟩
  refine ⟨_, _, rfl, rfl, by decide, ?_⟩
  refine ⟨_, _, rfl, rfl, by decide, ?_⟩
  refine ⟨_, _, rfl, rfl, by decide, ?_⟩
  refine ⟨_, _, rfl, rfl, by decide, ?_⟩
  refine ⟨_, _, rfl, rfl, by decide, ?_⟩
  refine ⟨_, _, rfl, rfl, by decide, ?_⟩
  exact hK
theorem zcon3 {xs : List Value} {d n s : Nat} {K : zH → Prop} {E : Nat → zH → Prop} {a b c e : zE} (hK : K ([a, b, c, e, .inr (2, [.ref 8, .int 0]), .inl (2, List.replicate 2686 (.int 0))], n + 1, s + 2686)) :
    zG xs d (3, 0, lv_args 0 [zo (some 7)], []) ([a, b, c, e, .inr (2, [.null, .int 0])], n, s) (zKV K E) := by
  apply zm_3
  unfold zw_3_0
  refine ⟨7, rfl, by decide, ?_⟩
  refine ⟨_, _, rfl, rfl, by decide, ?_⟩
  refine ⟨_, _, rfl, rfl, (show 1 < 2 by decide), ?_⟩
  exact hK
theorem zcon1 {xs : List Value} {d : Nat} {K : zH → Prop} {E : Nat → zH → Prop} (hK : K zhA) : zG xs (d + 1) (1, 0, lv_args 0 [zo (some 3)], []) ([.inr (0, [.null, .null, .null, .int 0])], 1, 4) (zKV K E) := by
  apply zm_1
  unfold zw_1_0
  refine ⟨3, rfl, zNO_i ?_⟩
  refine ⟨4, rfl, rfl, d, rfl, ?_⟩
  refine zcon2 ?_
  refine ⟨_, _, rfl, rfl, by decide, zNO_i ?_⟩
  refine ⟨7, rfl, rfl, d, rfl, ?_⟩
  refine zcon3 ?_
  refine ⟨_, _, rfl, rfl, by decide, ?_⟩
  refine ⟨by decide, ?_⟩
  refine ⟨_, _, rfl, rfl, by decide, ?_⟩
  refine ⟨_, _, rfl, rfl, by decide, ?_⟩
  exact hK
def zhC : zH := ([.inr (0, [.ref 4, .ref 7, .ref 9, .int 0]), .inr (1, [.ref 5, .ref 6, .int 0, .int (-1), .int 0, .int 0, .int 0]), .inl (2, List.replicate 240 (.int 0)), .inl (6, List.replicate 0 (.null)), .inr (2, [.ref 8, .int 0]), .inl (2, List.replicate 2686 (.int 0)), .inl (5, List.replicate 4 (.null)), .inr (12, [.int 0, .null, .null, .int 0, .int 0, .int 0, .int 0, .int 0, .int 0, .null, .null, .null, .null, .null, .null, .null, .null, .null, .null, .null, .null, .int 0, .null, .null, .null, .null, .null, .int 0, .int 0, .int 0, .null, .null, .null, .null, .null, .null, .null, .null, .null, .null, .null, .null, .null, .null, .null, .null, .null, .null, .null, .int 0, .int 0, .int 0, .int 0, .int 0, .int 0, .int 0, .int 0, .int 0, .int 0, .int 0, .int 0, .null, .null, .null, .null, .long 0, .long 0])], 8, 3010)
theorem zcon152 {xs : List Value} {d : Nat} {K : zH → Prop} {E : Nat → zH → Prop} (hK : K zhB) : zG xs d (152, 0, lv_args 0 [zo (some 10)], []) zhC (zKV K E) := by
  apply zm_152
  unfold zw_152_0
  refine ⟨10, rfl, ?_⟩
  refine ⟨by decide, ?_⟩
  refine ⟨_, _, rfl, rfl, by decide, ?_⟩
  refine ⟨by decide, ?_⟩
  refine ⟨_, _, rfl, rfl, by decide, ?_⟩
  refine ⟨_, _, rfl, rfl, by decide, ?_⟩
  refine ⟨by decide, ?_⟩
  refine ⟨_, _, rfl, rfl, by decide, ?_⟩
  refine ⟨by decide, ?_⟩
  refine ⟨_, _, rfl, rfl, by decide, ?_⟩
  refine ⟨by decide, ?_⟩
  refine ⟨_, _, rfl, rfl, by decide, ?_⟩
  refine ⟨by decide, ?_⟩
  refine ⟨_, _, rfl, rfl, by decide, ?_⟩
  refine ⟨by decide, ?_⟩
  refine ⟨_, _, rfl, rfl, by decide, ?_⟩
  refine ⟨by decide, ?_⟩
  refine ⟨_, _, rfl, rfl, by decide, ?_⟩
  refine ⟨by decide, ?_⟩
  refine ⟨_, _, rfl, rfl, by decide, ?_⟩
  refine ⟨by decide, ?_⟩
  refine ⟨_, _, rfl, rfl, by decide, ?_⟩
  refine ⟨by decide, ?_⟩
  refine ⟨_, _, rfl, rfl, by decide, ?_⟩
  refine ⟨by decide, ?_⟩
  refine ⟨_, _, rfl, rfl, by decide, ?_⟩
  refine ⟨by decide, ?_⟩
  refine ⟨_, _, rfl, rfl, by decide, ?_⟩
  refine ⟨by decide, ?_⟩
  refine ⟨_, _, rfl, rfl, by decide, ?_⟩
  refine ⟨by decide, ?_⟩
  refine ⟨_, _, rfl, rfl, by decide, ?_⟩
  refine ⟨by decide, ?_⟩
  refine ⟨_, _, rfl, rfl, by decide, ?_⟩
  refine ⟨by decide, ?_⟩
  refine ⟨_, _, rfl, rfl, by decide, ?_⟩
  refine ⟨by decide, ?_⟩
  refine ⟨_, _, rfl, rfl, by decide, ?_⟩
  refine ⟨by decide, ?_⟩
  refine ⟨_, _, rfl, rfl, by decide, ?_⟩
  refine ⟨by decide, ?_⟩
  refine ⟨_, _, rfl, rfl, by decide, ?_⟩
  refine ⟨by decide, ?_⟩
  refine ⟨_, _, rfl, rfl, by decide, ?_⟩
  refine ⟨by decide, ?_⟩
  refine ⟨_, _, rfl, rfl, by decide, ?_⟩
  refine ⟨by decide, ?_⟩
  refine ⟨_, _, rfl, rfl, by decide, ?_⟩
  refine ⟨by decide, ?_⟩
  refine ⟨_, _, rfl, rfl, by decide, ?_⟩
  refine ⟨by decide, ?_⟩
  refine ⟨_, _, rfl, rfl, by decide, ?_⟩
  refine ⟨by decide, ?_⟩
  refine ⟨_, _, rfl, rfl, by decide, ?_⟩
  refine ⟨by decide, ?_⟩
  refine ⟨_, _, rfl, rfl, by decide, ?_⟩
  refine ⟨by decide, ?_⟩
  refine ⟨_, _, rfl, rfl, by decide, ?_⟩
  refine ⟨by decide, ?_⟩
  refine ⟨_, _, rfl, rfl, by decide, ?_⟩
  refine ⟨by decide, ?_⟩
  refine ⟨_, _, rfl, rfl, by decide, ?_⟩
  refine ⟨by decide, ?_⟩
  refine ⟨_, _, rfl, rfl, by decide, ?_⟩
  refine ⟨by decide, ?_⟩
  refine ⟨_, _, rfl, rfl, by decide, ?_⟩
  refine ⟨by decide, ?_⟩
  refine ⟨_, _, rfl, rfl, by decide, ?_⟩
  refine ⟨by decide, ?_⟩
  refine ⟨_, _, rfl, rfl, by decide, ?_⟩
  refine ⟨by decide, ?_⟩
  refine ⟨_, _, rfl, rfl, by decide, ?_⟩
  refine ⟨by decide, ?_⟩
  refine ⟨_, _, rfl, rfl, by decide, ?_⟩
  refine ⟨by decide, ?_⟩
  refine ⟨_, _, rfl, rfl, by decide, ?_⟩
  refine ⟨by decide, ?_⟩
  refine ⟨_, _, rfl, rfl, by decide, ?_⟩
  refine ⟨by decide, ?_⟩
  refine ⟨_, _, rfl, rfl, by decide, ?_⟩
  refine ⟨by decide, ?_⟩
  refine ⟨_, _, rfl, rfl, by decide, ?_⟩
  refine ⟨by decide, ?_⟩
  refine ⟨_, _, rfl, rfl, by decide, ?_⟩
  refine ⟨by decide, ?_⟩
  refine ⟨_, _, rfl, rfl, by decide, ?_⟩
  exact hK
theorem zcon {xs : List Value} {d : Nat} {Q : zO → zH → Prop} {J : zP → zP → zP → zP → Int32 → zH → Prop} (hJ : J (some 0) (some 3) (some 10) (some 53) 0 zh0) : zw_0_0 xs (d + 2) Q J (some 0) ([], 0, 0) := by
  unfold zw_0_0
  refine zNO_i ?_
  refine ⟨3, rfl, rfl, d + 1, rfl, ?_⟩
  refine zcon1 ?_
  refine zNO_i ?_
  refine ⟨10, rfl, rfl, d + 1, rfl, ?_⟩
  refine zcon152 ?_
  refine ⟨by decide, ?_⟩
  exact hJ
/-! what puts and adds do to the cells -/
theorem zown_lt {h : zH} {k : Nat} {e : zE} (hk : zown h k = some e) : zK0 ≤ k ∧ k - zK0 < h.1.length ∧ h.1[k - zK0]? = some e := by
  unfold zown at hk
  split at hk
  · cases hk
  · rename_i hn
    refine ⟨by omega, ?_, hk⟩
    exact (List.getElem?_eq_some_iff.mp hk).1
theorem zown_put {h : zH} {k : Nat} {e e0 : zE} (hk : zown h k = some e0) : zown (zput h k e) k = some e := by
  obtain ⟨h1, h2, h3⟩ := zown_lt hk
  unfold zown zput
  rw [if_neg (by omega)]
  dsimp only
  rw [List.getElem?_set_self h2]
theorem zown_ne {h : zH} {k k' : Nat} {e e0 : zE} (hk : zown h k = some e0) (hn : k' ≠ k) : zown (zput h k e) k' = zown h k' := by
  obtain ⟨h1, h2, h3⟩ := zown_lt hk
  unfold zown zput
  split
  · rfl
  · rename_i h4
    dsimp only
    rw [List.getElem?_set_ne (by omega)]
theorem zput_id {h : zH} {k : Nat} {e : zE} (hk : zown h k = some e) : zput h k e = h := by
  obtain ⟨h1, h2, h3⟩ := zown_lt hk
  unfold zput
  have : h.1.set (k - zK0) e = h.1 := by
    apply List.ext_getElem?
    intro i
    by_cases hi : k - zK0 = i
    · subst hi; rw [List.getElem?_set_self h2, h3]
    · rw [List.getElem?_set_ne hi]
  rw [this]
theorem zput_put {h : zH} {k : Nat} {a b : zE} : zput (zput h k a) k b = zput h k b := by
  unfold zput
  dsimp only
  rw [List.set_set]
theorem zput_comm {h : zH} {k k' : Nat} {a b : zE} (h1 : zK0 ≤ k) (h2 : zK0 ≤ k') (hn : k ≠ k') : zput (zput h k a) k' b = zput (zput h k' b) k a := by
  unfold zput
  dsimp only
  rw [List.set_comm _ _ (by omega)]
theorem zown_add {h : zH} {k n : Nat} {e e' : zE} (hk : zown h k = some e) : zown (zadd h e' n) k = some e := by
  obtain ⟨h1, h2, h3⟩ := zown_lt hk
  unfold zown zadd
  rw [if_neg (by omega)]
  dsimp only
  rw [List.getElem?_append_left h2, h3]
theorem zown_new {h : zH} {n : Nat} {e : zE} : zown (zadd h e n) (h.1.length + zK0) = some e := by
  unfold zown zadd
  rw [if_neg (by omega)]
  dsimp only
  rw [Nat.add_sub_cancel, List.getElem?_append_right (Nat.le_refl _), Nat.sub_self]
  rfl
theorem zarr_own {xs : List Value} {h : zH} {k t : Nat} {vs : List Value} (hk : zown h k = some (.inl (t, vs))) : zarr xs h k = some (t, vs) := by
  have h1 := (zown_lt hk).1
  have h0 := zK0_pos
  unfold zown at hk
  unfold zarr
  rw [if_neg (by omega)] at hk
  rw [if_neg (by omega), if_neg (by omega), hk]
/-! put -/
/-- the byte that append keeps -/
def zcb (word : Int64) (k : Nat) : Value := .int (vp_nar .byte ((((word).toUInt64 >>> ((((8 : Int32) * nI k)).toInt64.toUInt64 &&& Int64.toUInt64 63)).toInt64).toInt32).toInt8.toInt32)
def zapp (word : Int64) : Nat → List Value → Nat → List Value
  | 0, bs, _ => bs
  | k + 1, bs, at_ => zapp word k (bs.set at_ (zcb word k)) (at_ + 1)
theorem zapp_len {word : Int64} : ∀ (k : Nat) (bs : List Value) (a : Nat), (zapp word k bs a).length = bs.length
  | 0, _, _ => rfl
  | k + 1, bs, a => by rw [zapp, zapp_len k, List.length_set]
theorem zc19 {xs : List Value} {d : Nat} {h : zH} {Q : zO → zH → Prop} {bs : List Value} {len n : Nat} {w e p q : Int32} {word : Int64} (h4 : zown h 4 = some (.inr (1, [.ref 5, .ref 6, .int (nI len), .int w, .int e, .int p, .int q]))) (h5 : zown h 5 = some (.inl (2, bs))) (hb : bs.length = 240) (hn : len + n ≤ 240)
    (k : Q (.inl none) (zput (zput h 5 (.inl (2, zapp word n bs len))) 4 (.inr (1, [.ref 5, .ref 6, .int (nI (len + n)), .int w, .int e, .int p, .int q])))) : zG xs d (19, 0, lv_args 0 [zo (some 4), .long word, .int (nI n)], []) h Q := by
  refine zm_19 (fun m l0 l1 l4 h1 => ∃ bs1, m ≤ n ∧ l0 = some 4 ∧ l1 = word ∧ l4 = nI m - 1 ∧ bs1.length = 240 ∧ zapp word m bs1 (len + (n - m)) = zapp word n bs len ∧ h1 = zput (zput h 5 (.inl (2, bs1))) 4 (.inr (1, [.ref 5, .ref 6, .int (nI (len + (n - m))), .int w, .int e, .int p, .int q]))) ?_ ?_
  · rintro m l0 l1 l4 h1 ⟨bs1, hm, rfl, rfl, rfl, hb1, hz, rfl⟩
    have g5 : zown (zput h 5 (.inl (2, bs1))) 4 = some (.inr (1, [.ref 5, .ref 6, .int (nI len), .int w, .int e, .int p, .int q])) := by rw [zown_ne h5 (by decide)]; exact h4
    cases m with
    | zero =>
      refine ⟨fun _ => ?_, fun q => absurd (by decide) q⟩
      unfold zw_19_56
      rw [Nat.sub_zero] at *
      rw [zapp] at hz
      rw [hz]
      exact k
    | succ j =>
      rw [nI_pred]
      refine ⟨fun q => absurd q (nI_pos (by omega)), fun _ => ?_⟩
      have a4 := zown_put (e := .inr (1, [.ref 5, .ref 6, .int (nI (len + (n - (j + 1)))), .int w, .int e, .int p, .int q])) g5
      have a5 : zown (zput (zput h 5 (.inl (2, bs1))) 4 (.inr (1, [.ref 5, .ref 6, .int (nI (len + (n - (j + 1)))), .int w, .int e, .int p, .int q]))) 5 = some (.inl (2, bs1)) := by rw [zown_ne g5 (by decide)]; exact zown_put h5
      refine ⟨_, _, _, rfl, a4, rfl, ?_⟩
      refine ⟨_, _, some 5, rfl, a4, rfl, ?_⟩
      refine ⟨_, _, _, rfl, zarr_own a5, by decide, ?_⟩
      rw [hb1]
      refine ⟨fun _ => ?_, fun q => absurd (nI_lt (by omega) (by omega)) q⟩
      refine ⟨_, _, some 5, rfl, a4, rfl, ?_⟩
      refine ⟨_, _, _, rfl, a4, rfl, ?_⟩
      refine ⟨_, _, rfl, a5, nI_pos (by omega), ?_, ?_⟩
      · rw [nI_clamp (by omega), hb1]; omega
      · have b4 := a4
        rw [← zown_ne (e := .inl (2, bs1.set (nI (len + (n - (j + 1)))).toNatClampNeg (zcb l1 j))) a5 (by decide : (4 : Nat) ≠ 5)] at b4
        refine ⟨_, _, _, rfl, b4, rfl, ?_⟩
        refine ⟨_, _, rfl, b4, (show 2 < 7 by decide), ?_⟩
        intro x hx
        refine ⟨j, by omega, bs1.set (len + (n - (j + 1))) (zcb l1 j), by omega, rfl, rfl, ?_, ?_, ?_, ?_⟩
        · rw [hx, Int32.sub_eq_add_neg]
        · rw [List.length_set, hb1]
        · rw [← hz, zapp]
          congr 1
          omega
        · rw [nI_clamp (by omega)]
          rw [zput_comm (k := 4) (k' := 5) (by decide) (by decide) (by decide), zput_put, zput_put]
          rw [nI_1, show len + (n - (j + 1)) + 1 = len + (n - j) by omega]
          rfl
  · intro x hx
    refine ⟨n, bs, Nat.le_refl _, rfl, rfl, hx, hb, ?_, ?_⟩
    · rw [Nat.sub_self, Nat.add_zero]
    · rw [Nat.sub_self, Nat.add_zero, zput_id h5, zput_id h4]
