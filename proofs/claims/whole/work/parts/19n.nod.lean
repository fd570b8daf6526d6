/-! nodes: the list in the order of their first bytes: sort, first byte, code, how many parts, upper, lower, the node above (4294967295: none) -/
abbrev zNt : Type := Nat × Nat × Nat × Nat × Nat × Nat × Nat
def eS (e : zNt) : Nat := e.1
def eF (e : zNt) : Nat := e.2.1
def eC (e : zNt) : Nat := e.2.2.1
def eM (e : zNt) : Nat := e.2.2.2.1
def eH (e : zNt) : Nat := e.2.2.2.2.1
def eL (e : zNt) : Nat := e.2.2.2.2.2.1
def eA (e : zNt) : Nat := e.2.2.2.2.2.2
/-- how long k whole nodes are at the head of a list -/
def zskip : Nat → List zNt → Nat
  | 0, _ => 0
  | _ + 1, [] => 0
  | k + 1, e :: l => 1 + zskip (k + eM e) l
def zwhole : Nat → List zNt → Bool
  | 0, _ => true
  | _ + 1, [] => false
  | k + 1, e :: l => zwhole (k + eM e) l
theorem zskip_0 (l : List zNt) : zskip 0 l = 0 := by cases l <;> rfl
theorem zwhole_0 (l : List zNt) : zwhole 0 l = true := by cases l <;> rfl
theorem zskip_le : ∀ (l : List zNt) (k : Nat), zskip k l ≤ l.length
  | [], k => by cases k <;> exact Nat.le_refl _
  | e :: l, 0 => Nat.zero_le _
  | e :: l, k + 1 => by rw [zskip, List.length_cons]; have := zskip_le l (k + eM e); omega
theorem zwhole_app : ∀ (l S : List zNt) (k : Nat), zwhole k l = true → zwhole k (l ++ S) = true ∧ zskip k (l ++ S) = zskip k l
  | l, S, 0, _ => ⟨zwhole_0 _, by rw [zskip_0, zskip_0]⟩
  | [], S, k + 1, h => by cases h
  | e :: l, S, k + 1, h => by
    rw [zwhole] at h
    obtain ⟨h1, h2⟩ := zwhole_app l S (k + eM e) h
    exact ⟨h1, by rw [List.cons_append, zskip, zskip, h2]⟩
theorem zwhole_add : ∀ (l : List zNt) (a b : Nat), zwhole a l = true → zwhole (a + b) l = zwhole b (l.drop (zskip a l)) ∧ zskip (a + b) l = zskip a l + zskip b (l.drop (zskip a l))
  | l, 0, b, _ => by rw [Nat.zero_add, zskip_0, List.drop_zero, Nat.zero_add]; exact ⟨rfl, rfl⟩
  | [], a + 1, b, h => by cases h
  | e :: l, a + 1, b, h => by
    rw [zwhole] at h
    obtain ⟨h1, h2⟩ := zwhole_add l (a + eM e) b h
    rw [show a + 1 + b = (a + b) + 1 by omega, zwhole, zskip, zskip, show a + b + eM e = a + eM e + b by omega, h1, h2, show 1 + zskip (a + eM e) l = zskip (a + eM e) l + 1 by omega, List.drop_succ_cons]
    exact ⟨rfl, by omega⟩
/-- the node behind node i -/
def znx (N : List zNt) (i : Nat) : Nat := i + zskip 1 (N.drop i)
/-- node i is there with all its parts -/
def zful (N : List zNt) (i : Nat) : Prop := zwhole 1 (N.drop i) = true
theorem zful_app {N S : List zNt} {i : Nat} (h : zful N i) : zful (N ++ S) i ∧ znx (N ++ S) i = znx N i := by
  unfold zful at h
  have hi : i ≤ N.length := by
    by_cases hi : i ≤ N.length
    · exact hi
    · rw [List.drop_of_length_le (by omega)] at h; cases h
  unfold zful znx
  rw [List.drop_append_of_le_length hi]
  obtain ⟨h1, h2⟩ := zwhole_app (N.drop i) S 1 h
  exact ⟨h1, by rw [h2]⟩
theorem zful_lt {N : List zNt} {i : Nat} (h : zful N i) : i < N.length ∧ i < znx N i ∧ znx N i ≤ N.length := by
  unfold zful at h
  cases hd : N.drop i with
  | nil => rw [hd] at h; cases h
  | cons e l =>
    have hi : i < N.length := by
      by_cases hi : i < N.length
      · exact hi
      · rw [List.drop_of_length_le (by omega)] at hd; cases hd
    have h1 := zskip_le (N.drop i) 1
    rw [List.length_drop] at h1
    have h2 : 1 ≤ zskip 1 (N.drop i) := by rw [hd, zskip]; omega
    unfold znx
    omega
/-- the parts of a node, from node j on -/
def zchn (N : List zNt) : Nat → Nat → List Nat
  | 0, _ => []
  | n + 1, j => j :: zchn N n (znx N j)
/-- n whole nodes stand from j on, and end at j' -/
def zfuls (N : List zNt) : Nat → Nat → Nat → Prop
  | 0, j, j' => j = j'
  | n + 1, j, j' => zful N j ∧ zfuls N n (znx N j) j'
theorem zfuls_app {N S : List zNt} : ∀ (n j j' : Nat), zfuls N n j j' → zfuls (N ++ S) n j j' ∧ zchn (N ++ S) n j = zchn N n j
  | 0, j, j', h => ⟨h, rfl⟩
  | n + 1, j, j', h => by
    obtain ⟨h1, h2⟩ := zful_app (S := S) h.1
    obtain ⟨h3, h4⟩ := zfuls_app (S := S) n (znx N j) j' h.2
    exact ⟨⟨h1, by rw [h2]; exact h3⟩, by rw [zchn, zchn, h2, h4]⟩
theorem zfuls_skip {N : List zNt} : ∀ (n j j' : Nat), zfuls N n j j' → zwhole n (N.drop j) = true ∧ j' = j + zskip n (N.drop j)
  | 0, j, j', h => ⟨zwhole_0 _, by rw [zskip_0]; exact h.symm⟩
  | n + 1, j, j', h => by
    obtain ⟨h1, h2⟩ := zfuls_skip n (znx N j) j' h.2
    obtain ⟨h3, h4⟩ := zwhole_add (N.drop j) 1 n h.1
    rw [List.drop_drop] at h3 h4
    rw [Nat.add_comm n 1]
    refine ⟨by rw [h3]; exact h1, ?_⟩
    rw [h2, h4]
    unfold znx
    omega
/-- a node whose parts are whole is whole -/
theorem zful_of {N : List zNt} {i j' : Nat} {e : zNt} (hi : N[i]? = some e) (hp : zfuls N (eM e) (i + 1) j') : zful N i ∧ znx N i = j' := by
  have hl := (List.getElem?_eq_some_iff.mp hi)
  obtain ⟨hl1, hl2⟩ := hl
  obtain ⟨h1, h2⟩ := zfuls_skip _ _ _ hp
  unfold zful znx
  rw [List.drop_eq_getElem_cons hl1, hl2, zwhole, zskip, Nat.zero_add]
  exact ⟨h1, by rw [h2]; omega⟩
theorem zfuls_snoc {N : List zNt} : ∀ (n j k : Nat), zfuls N n j k → zful N k → zfuls N (n + 1) j (znx N k)
  | 0, j, k, h, hk => by
    obtain rfl : j = k := h
    exact ⟨hk, rfl⟩
  | n + 1, j, k, h, hk => ⟨h.1, zfuls_snoc n (znx N j) k h.2 hk⟩
theorem zchn_snoc {N : List zNt} : ∀ (n j k : Nat), zfuls N n j k → zchn N (n + 1) j = zchn N n j ++ [k]
  | 0, j, k, h => by
    obtain rfl : j = k := h
    rfl
  | n + 1, j, k, h => by
    rw [zchn, zchn_snoc n (znx N j) k h.2, zchn]
    rfl
theorem zchn_len {N : List zNt} : ∀ (n j : Nat), (zchn N n j).length = n
  | 0, _ => rfl
  | n + 1, j => by rw [zchn, List.length_cons, zchn_len n]
/-! reading: zpn: one node; zpns: n nodes -/
def zpns (pn : Nat → List zNt → Nat ⊕ (Nat × List zNt)) : Nat → Nat → List zNt → Nat ⊕ (Nat × List zNt)
  | 0, at_, N => .inr (at_, N)
  | n + 1, at_, N => match pn at_ N with
    | .inl e => .inl e
    | .inr (at2, N2) => zpns pn n at2 N2
def zpn (B : List Nat) : Nat → Nat → Nat → List zNt → Nat ⊕ (Nat × List zNt)
  | 0, _, at_, _ => match B[at_]? with
    | none => .inl B.length
    | some _ => .inl at_
  | f + 1, par, at_, N => match B[at_]? with
    | none => .inl B.length
    | some k =>
      if 100 ≤ N.length then .inl at_
      else if k = 0 then (match zpnu B (at_ + 1) with
        | .inl e => .inl e
        | .inr (p, s, v) => .inr (p, N ++ [(0, at_, s, 0, v / 1152921504606846976, v % 1152921504606846976, par)]))
      else if k = 3 ∨ 7 < k then .inl at_
      else match B[at_ + 1]? with
        | none => .inl B.length
        | some c =>
          if k = 1 then (if 8 < c then .inl (at_ + 1) else match zptx B c 0 (at_ + 2) 0 with
            | .inl e => .inl e
            | .inr v => .inr (at_ + 2 + c, N ++ [(1, at_, c, 0, 0, v, par)]))
          else if k = 2 then (if 40 < c then .inl (at_ + 1) else zpns (zpn B f N.length) c (at_ + 2) (N ++ [(2, at_, c, c, 0, 0, par)]))
          else zpns (zpn B f N.length) (k - 4) (at_ + 2) (N ++ [(3, at_, c, k - 4, 0, 0, par)])
/-- the value that node i is, its type aside -/
def zraw (N : List zNt) : Nat → Nat → Term
  | 0, _ => .null
  | f + 1, i => match N[i]? with
    | none => .null
    | some e =>
      if eS e = 0 then .sub (.arg (if eC e = 1 ∧ eH e * 1152921504606846976 + eL e ≠ 0 then 1 else 0)) (.arg (eH e * 1152921504606846976 + eL e))
      else if eS e = 1 then .mul (.arg (eC e)) (.arg (eL e))
      else if eS e = 2 then .old (zenc ((zchn N (eM e) (i + 1)).map (zraw N f)))
      else match (zchn N (eM e) (i + 1)).map (zraw N f) with
        | [] => .arg (eC e)
        | [v] => .div (.arg (eC e)) v
        | v :: u :: _ => .add (.div (.arg (eC e)) v) u
/-- the class's node at a is node i -/
def zNd (h : zH) (N : List zNt) : Nat → Nat → Nat → Prop
  | 0, _, _ => False
  | f + 1, i, a => ∃ (e : zNt) (ps : List Nat) (r pv : Nat), N[i]? = some e ∧ zown h a = some (.inr (4, [.int (nI (eF e)), .int (nI (if eS e = 3 then 4 else eS e)), .int (nI (if eS e = 3 then eC e else 0)), .ref r, .ref pv])) ∧ zown h r = some (.inl (6, ps.map Value.ref)) ∧ ps.length = eM e ∧ zful N i ∧ zfuls N (eM e) (i + 1) (znx N i) ∧ zVal h (zraw N (f + 1) i) (.inl pv) ∧ ∀ (k j p : Nat), (zchn N (eM e) (i + 1))[k]? = some j → ps[k]? = some p → zNd h N f j p
/-- cells of nodes and values, once they are filled -/
def znc (e : zE) : Bool := match e with
  | .inr (4, [_, _, _, .ref _, .ref _]) => true
  | .inl (6, vs) => vs.all zisr
  | .inr (3, _) => true
  | .inr (5, _) => true
  | .inl (8, vs) => vs.all zisr
  | _ => false
theorem znc_v {e : zE} (h : zvc e = true) : znc e = true := by
  unfold zvc at h
  split at h
  · rfl
  · rfl
  · exact h
  · cases h
theorem zNd_fr {h h' : zH} {N : List zNt} (H : ∀ k e, zown h k = some e → znc e = true → zown h' k = some e) : ∀ (f i a : Nat), zNd h N f i a → zNd h' N f i a
  | 0, _, _, hn => hn.elim
  | f + 1, i, a, hn => by
    obtain ⟨e, ps, r, pv, h1, h2, h3, h4, h5, h6, h7, h8⟩ := hn
    refine ⟨e, ps, r, pv, h1, H _ _ h2 rfl, H _ _ h3 (zall_ref ps), h4, h5, h6, zVal_fr (fun k e hk he => H k e hk (znc_v he)) _ _ h7, fun k j p hj hp => zNd_fr H f j p (h8 k j p hj hp)⟩
theorem zraw_app {N S : List zNt} {h : zH} : ∀ (f i a : Nat), zNd h N f i a → zraw (N ++ S) f i = zraw N f i
  | 0, _, _, hn => hn.elim
  | f + 1, i, a, hn => by
    obtain ⟨e, ps, r, pv, h1, h2, h3, h4, h5, h6, h7, h8⟩ := hn
    have hil := (List.getElem?_eq_some_iff.mp h1).1
    obtain ⟨_, h9⟩ := zfuls_app (S := S) _ _ _ h6
    have hm : (zchn N (eM e) (i + 1)).map (zraw (N ++ S) f) = (zchn N (eM e) (i + 1)).map (zraw N f) := by
      apply List.map_congr_left
      intro j hj
      obtain ⟨k, hk⟩ := List.mem_iff_getElem?.mp hj
      have hkl := (List.getElem?_eq_some_iff.mp hk).1
      rw [zchn_len] at hkl
      exact zraw_app f j ps[k] (h8 k j _ hk (List.getElem?_eq_getElem (by omega)))
    rw [zraw, zraw, List.getElem?_append_left hil, h1]
    dsimp only
    rw [h9, hm]
theorem zNd_app {N S : List zNt} {h : zH} : ∀ (f i a : Nat), zNd h N f i a → zNd h (N ++ S) f i a
  | 0, _, _, hn => hn.elim
  | f + 1, i, a, hn => by
    have hr := zraw_app (S := S) (f + 1) i a hn
    obtain ⟨e, ps, r, pv, h1, h2, h3, h4, h5, h6, h7, h8⟩ := hn
    have hil := (List.getElem?_eq_some_iff.mp h1).1
    obtain ⟨g1, g2⟩ := zful_app (S := S) h5
    obtain ⟨h10, h9⟩ := zfuls_app (S := S) _ _ _ h6
    refine ⟨e, ps, r, pv, by rw [List.getElem?_append_left hil]; exact h1, h2, h3, h4, g1, by rw [g2]; exact h10, by rw [hr]; exact h7, fun k j p hj hp => ?_⟩
    rw [h9] at hj
    exact zNd_app f j p (h8 k j p hj hp)

theorem zpnu_ok {B : List Nat} {at_ p s v : Nat} (hB : B.length ≤ 2000) (h : zpnu B at_ = .inr (p, s, v)) : at_ < p ∧ p ≤ B.length ∧ s < 2 ∧ v < 2 ^ 120 := by
  have more : ∀ (f at_ sh v p v2 : Nat), v < 2 ^ 120 → v < 2 ^ sh → sh < 100000 - 7 * f → zpmo B f at_ sh v = .inr (p, v2) → at_ < p ∧ p ≤ B.length ∧ v2 < 2 ^ 120 := by
    intro f
    induction f with
    | zero => intro at_ sh v p v2 _ _ _ e; cases e
    | succ f ih =>
      intro at_ sh v p v2 h1 h2 h3 e
      rw [zpmo] at e
      cases hb : B[at_]? with
      | none => rw [hb] at e; cases e
      | some b =>
        rw [hb] at e
        dsimp only at e
        have hl := (List.getElem?_eq_some_iff.mp hb).1
        split at e
        · cases e
        · rename_i hc
          have hz : b % 128 * 2 ^ sh < 2 ^ 120 := by omega
          obtain ⟨_, _, o3⟩ := zor_hl (c := b % 128) h2 (by omega) hz h1
          split at e
          · cases e
            exact ⟨by omega, by omega, o3⟩
          · have hsh : v + b % 128 * 2 ^ sh < 2 ^ (sh + 7) := by
              have : b % 128 + 1 ≤ 128 := Nat.mod_lt _ (by decide)
              have := Nat.mul_le_mul_right (2 ^ sh) this
              rw [Nat.add_mul, Nat.one_mul] at this
              rw [Nat.pow_add]
              omega
            obtain ⟨q1, q2, q3⟩ := ih (at_ + 1) (sh + 7) _ p v2 o3 hsh (by omega) e
            exact ⟨by omega, q2, q3⟩
  unfold zpnu at h
  cases hb : B[at_]? with
  | none => rw [hb] at h; cases h
  | some b =>
    rw [hb] at h
    dsimp only at h
    have hl := (List.getElem?_eq_some_iff.mp hb).1
    split at h
    · cases h
    · split at h
      · cases h
        exact ⟨by omega, by omega, by omega, by omega⟩
      · split at h
        · cases h
        · rename_i p2 v2 e
          cases h
          obtain ⟨q1, q2, q3⟩ := more B.length (at_ + 1) 6 (b % 64) _ _ (by omega) (by omega) (by omega) e
          exact ⟨by omega, q2, by omega, q3⟩
theorem zptx_ok {B : List Nat} : ∀ (n i at_ v v2 : Nat), zptx B n i at_ v = .inr v2 → at_ ≤ B.length → at_ + n ≤ B.length
  | 0, i, at_, v, v2, _, h => h
  | n + 1, i, at_, v, v2, e, _ => by
    rw [zptx] at e
    cases hb : B[at_]? with
    | none => rw [hb] at e; cases e
    | some b =>
      rw [hb] at e
      dsimp only at e
      have hl := (List.getElem?_eq_some_iff.mp hb).1
      split at e
      · cases e
      · have := zptx_ok n (i + 1) (at_ + 1) _ v2 e (by omega)
        omega
theorem zpns_ok {B : List Nat} {f par : Nat} (IH : ∀ (at_ : Nat) (N : List zNt) (at2 : Nat) (N2 : List zNt), zpn B f par at_ N = .inr (at2, N2) → ∃ S, N2 = N ++ S ∧ at_ + 2 ≤ at2 ∧ at2 ≤ B.length ∧ N2.length ≤ 100 ∧ zful N2 N.length ∧ znx N2 N.length = N2.length) : ∀ (n at_ : Nat) (N : List zNt) (at2 : Nat) (N2 : List zNt), zpns (zpn B f par) n at_ N = .inr (at2, N2) → at_ ≤ B.length → N.length ≤ 100 → ∃ S, N2 = N ++ S ∧ at_ + 2 * n ≤ at2 ∧ at2 ≤ B.length ∧ N2.length ≤ 100 ∧ zfuls N2 n N.length N2.length
  | 0, at_, N, at2, N2, e, h1, h2 => by
    rw [zpns] at e
    cases e
    exact ⟨[], (List.append_nil _).symm, by omega, h1, h2, rfl⟩
  | n + 1, at_, N, at2, N2, e, h1, h2 => by
    rw [zpns] at e
    cases hp : zpn B f par at_ N with
    | inl x => rw [hp] at e; cases e
    | inr x =>
      obtain ⟨at3, N3⟩ := x
      rw [hp] at e
      dsimp only at e
      obtain ⟨S, rfl, q1, q2, q3, q4, q5⟩ := IH at_ N at3 N3 hp
      obtain ⟨T, rfl, r1, r2, r3, r4⟩ := zpns_ok IH n at3 _ at2 N2 e q2 q3
      obtain ⟨g1, g2⟩ := zful_app (S := T) q4
      exact ⟨S ++ T, List.append_assoc .., by omega, r2, r3, g1, by rw [g2, q5]; exact r4⟩
theorem zpn_ok {B : List Nat} (hB : B.length ≤ 2000) : ∀ (f par at_ : Nat) (N : List zNt) (at2 : Nat) (N2 : List zNt), zpn B f par at_ N = .inr (at2, N2) → ∃ S, N2 = N ++ S ∧ at_ + 2 ≤ at2 ∧ at2 ≤ B.length ∧ N2.length ≤ 100 ∧ zful N2 N.length ∧ znx N2 N.length = N2.length
  | 0, par, at_, N, at2, N2, e => by
    rw [zpn] at e
    split at e <;> cases e
  | f + 1, par, at_, N, at2, N2, e => by
    have one : ∀ e0 : zNt, eM e0 = 0 → zful (N ++ [e0]) N.length ∧ znx (N ++ [e0]) N.length = (N ++ [e0]).length := by
      intro e0 h0
      have := zful_of (N := N ++ [e0]) (i := N.length) (j' := N.length + 1) (e := e0) (by rw [List.getElem?_append_right (Nat.le_refl _), Nat.sub_self]; rfl) (by rw [h0]; rfl)
      rw [List.length_append, List.length_singleton]
      exact this
    have kids : ∀ (k n : Nat) (e0 : zNt), eM e0 = n → N.length < 100 → at_ + 1 < B.length → zpns (zpn B f N.length) n (at_ + 2) (N ++ [e0]) = .inr (at2, N2) → ∃ S, N2 = N ++ S ∧ at_ + 2 ≤ at2 ∧ at2 ≤ B.length ∧ N2.length ≤ 100 ∧ zful N2 N.length ∧ znx N2 N.length = N2.length := by
      intro k n e0 h0 hN hB1 he
      obtain ⟨S, rfl, q1, q2, q3, q4⟩ := zpns_ok (zpn_ok hB f N.length) n (at_ + 2) _ at2 N2 he (by omega) (by rw [List.length_append, List.length_singleton]; omega)
      rw [List.length_append, List.length_singleton] at q4
      have := zful_of (N := N ++ [e0] ++ S) (i := N.length) (e := e0) (by rw [List.append_assoc, List.getElem?_append_right (Nat.le_refl _), Nat.sub_self]; rfl) (by rw [h0]; exact q4)
      exact ⟨[e0] ++ S, List.append_assoc .., by omega, q2, q3, this.1, this.2⟩
    rw [zpn] at e
    cases hb : B[at_]? with
    | none => rw [hb] at e; cases e
    | some k =>
      rw [hb] at e
      dsimp only at e
      split at e
      · cases e
      · rename_i hN
        split at e
        · split at e
          · cases e
          · rename_i p s v hp
            cases e
            obtain ⟨q1, q2, _⟩ := zpnu_ok hB hp
            obtain ⟨o1, o2⟩ := one (0, at_, s, 0, v / 1152921504606846976, v % 1152921504606846976, par) rfl
            exact ⟨_, rfl, by omega, q2, by rw [List.length_append, List.length_singleton]; omega, o1, o2⟩
        · split at e
          · cases e
          · cases hc : B[at_ + 1]? with
            | none => rw [hc] at e; cases e
            | some c =>
              rw [hc] at e
              dsimp only at e
              have hcl := (List.getElem?_eq_some_iff.mp hc).1
              split at e
              · split at e
                · cases e
                · split at e
                  · cases e
                  · rename_i v hp
                    cases e
                    have := zptx_ok _ _ _ _ _ hp (by omega)
                    obtain ⟨o1, o2⟩ := one (1, at_, c, 0, 0, v, par) rfl
                    exact ⟨_, rfl, by omega, by omega, by rw [List.length_append, List.length_singleton]; omega, o1, o2⟩
              · split at e
                · split at e
                  · cases e
                  · exact kids k c _ rfl (by omega) hcl e
                · exact kids k (k - 4) _ rfl (by omega) hcl e
/-! the class reads nodes -/
section PRS
variable {xs : List Value} {d : Nat} {h : zH} {Q : zO → zH → Prop} {B : List Nat} {w : Int32} {p q a b n : Nat} {N : List zNt}
theorem zown_add_ne {h : zH} {e : zE} {n k : Nat} (hk : k ≠ h.1.length + zK0) : zown (zadd h e n) k = zown h k := by
  unfold zown zadd
  split
  · rfl
  · rename_i h1
    dsimp only
    by_cases h2 : k - zK0 < h.1.length
    · rw [List.getElem?_append_left h2]
    · rw [List.getElem?_eq_none (by rw [List.length_append, List.length_singleton]; omega), List.getElem?_eq_none (by omega)]
theorem zc36 {K : zH → Prop} {x y z : Int32} {r v : Nat} {fs : List Value} (ha : zown h a = some (.inr (4, fs))) (hl : fs.length = 5) (k : K (zput h a (.inr (4, [.int x, .int y, .int z, .ref r, .ref v])))) : zCN xs (d + 1) 36 (some a) [.int x, .int y, .int z, zo (some r), zo (some v)] h K := by
  obtain ⟨f0, f1, f2, f3, f4, rfl⟩ : ∃ f0 f1 f2 f3 f4, fs = [f0, f1, f2, f3, f4] := by
    match fs, hl with
    | [f0, f1, f2, f3, f4], _ => exact ⟨f0, f1, f2, f3, f4, rfl⟩
  refine ⟨a, rfl, by rw [ha]; rfl, d, rfl, zm_36 ⟨a, rfl, ?_⟩⟩
  refine zX_pf ha (show 0 < 5 by decide) (zX_pf (zown_put ha) (show 1 < 5 by decide) ?_)
  rw [zput_put]
  refine zX_pf (zown_put ha) (show 2 < 5 by decide) ?_
  rw [zput_put]
  refine zX_pf (zown_put ha) (show 3 < 5 by decide) ?_
  rw [zput_put]
  refine zX_pf (zown_put ha) (show 4 < 5 by decide) ?_
  rw [zput_put]
  exact k
/-- what a node's cells keep -/
theorem zRx_nc {h h' : zH} {c s : Nat} (hb : zBf h B w p q) (hr : zRx h h' c s) : ∀ k e, zown h k = some e → znc e = true → zown h' k = some e := by
  intro k e hk he
  by_cases k4 : k = 4
  · subst k4; rw [hb.1] at hk; cases hk; cases he
  · exact hr.1 k e k4 hk
/-- the parts' values as a row -/
theorem zc40 {r f : Nat} {ps js : List Nat} (hr : zown h r = some (.inl (6, ps.map Value.ref))) (hl : ps.length = js.length) (hn : ps.length ≤ 100) (hc : ∀ (k j p : Nat), js[k]? = some j → ps[k]? = some p → zNd h N f j p)
    (k : ∀ h' v, zEx h h' 2 (ps.length + 7) → zVal h' (.old (zenc (js.map (zraw N f)))) (.inl v) → Q (.inl (some (.ref v))) h') : zG xs (d + 2) (40, 0, lv_args 0 [zo (some r)], []) h Q := by
  -- the labels of the values
  have hv : ∀ k, k < ps.length → ∃ j p v r' x y z, js[k]? = some j ∧ ps[k]? = some p ∧ zown h p = some (.inr (4, [x, y, z, .ref r', .ref v])) ∧ zVal h (zraw N f j) (.inl v) := by
    intro k hk
    obtain ⟨j, hj⟩ : ∃ j, js[k]? = some j := ⟨_, List.getElem?_eq_getElem (by omega)⟩
    obtain ⟨p, hp⟩ : ∃ p, ps[k]? = some p := ⟨_, List.getElem?_eq_getElem hk⟩
    have := hc k j p hj hp
    cases f with
    | zero => exact this.elim
    | succ f =>
      obtain ⟨e, ps', r', pv, h1, h2, h3, h4, h5, h6, h7, h8⟩ := this
      exact ⟨j, p, pv, r', _, _, _, hj, hp, h2, h7⟩
  have hvs : ∃ vs : List Nat, vs.length = ps.length ∧ ∀ (k p : Nat), ps[k]? = some p → ∃ v r' x y z, vs[k]? = some v ∧ zown h p = some (.inr (4, [x, y, z, .ref r', .ref v])) ∧ ∀ j, js[k]? = some j → zVal h (zraw N f j) (.inl v) := by
    have up : ∀ m, m ≤ ps.length → ∃ vs : List Nat, vs.length = m ∧ ∀ (k p : Nat), k < m → ps[k]? = some p → ∃ v r' x y z, vs[k]? = some v ∧ zown h p = some (.inr (4, [x, y, z, .ref r', .ref v])) ∧ ∀ j, js[k]? = some j → zVal h (zraw N f j) (.inl v) := by
      intro m
      induction m with
      | zero => intro _; exact ⟨[], rfl, fun k p hk => absurd hk (by omega)⟩
      | succ m ih =>
        intro hm
        obtain ⟨vs, l1, l2⟩ := ih (by omega)
        obtain ⟨j, p, v, r', x, y, z, s1, s2, s3, s4⟩ := hv m (by omega)
        refine ⟨vs ++ [v], by rw [List.length_append, List.length_singleton, l1], fun k p' hk hp => ?_⟩
        by_cases hkm : k < m
        · obtain ⟨v', r2, x2, y2, z2, t1, t2⟩ := l2 k p' hkm hp
          exact ⟨v', r2, x2, y2, z2, by rw [List.getElem?_append_left (by omega)]; exact t1, t2⟩
        · obtain rfl : k = m := by omega
          rw [s2] at hp
          obtain rfl : p = p' := Option.some.inj hp
          refine ⟨v, r', x, y, z, by rw [List.getElem?_append_right (by omega), l1, Nat.sub_self]; rfl, s3, fun j' hj' => ?_⟩
          rw [s1] at hj'
          obtain rfl : j = j' := Option.some.inj hj'
          exact s4
    obtain ⟨vs, l1, l2⟩ := up ps.length (Nat.le_refl _)
    exact ⟨vs, l1, fun k p hp => l2 k p (List.getElem?_eq_some_iff.mp hp).1 hp⟩
  obtain ⟨vs, vl, vv⟩ := hvs
  refine zm_40 (fun m l0 l1 l2 h1 => ∃ i, m = ps.length - i ∧ i ≤ ps.length ∧ l0 = some r ∧ l1 = some (h.1.length + zK0) ∧ l2 = nI i ∧ h1 = zadd h (.inl (8, zpad (vs.take i) ps.length)) ps.length) ?_ ?_
  · rintro m l0 l1 l2 h1 ⟨i, rfl, hi, rfl, rfl, rfl, rfl⟩
    refine ⟨_, 6, _, rfl, zarr_own (zown_add hr), by decide, ?_⟩
    rw [List.length_map]
    refine ⟨fun z => ?_, fun z => ?_⟩
    · have hil : i < ps.length := (nI_ltI (by omega) (by omega)).mp z
      obtain ⟨p, hp⟩ : ∃ p, ps[i]? = some p := ⟨_, List.getElem?_eq_getElem hil⟩
      obtain ⟨v, r', x, y, zz, s1, s2, s3⟩ := vv i p hp
      obtain ⟨j, hj⟩ : ∃ j, js[i]? = some j := ⟨_, List.getElem?_eq_getElem (by omega)⟩
      obtain ⟨fv, hfv⟩ := zVal_cls _ _ (s3 j hj) v rfl
      refine ⟨_, 6, _, some p, rfl, zown_add hr, by decide, nI_pos (by omega), by rw [nI_clamp (by omega), List.getElem?_map, hp]; rfl, ?_⟩
      refine zX_gr (zown_add s2) rfl ?_
      have hlt : (vs.take i).length = i := by rw [List.length_take]; omega
      refine zpad_as (L := vs.take i) (n := ps.length) (by omega) (by omega) hfv (by rw [hlt]) ?_
      intro x hx
      refine ⟨ps.length - (i + 1), by omega, i + 1, rfl, hil, rfl, rfl, by rw [hx, nI_1], ?_⟩
      rw [ztake_s s1]
    · have hil : i = ps.length := by
        have := mt (nI_ltI (a := i) (b := ps.length) (by omega) (by omega)).mpr z
        omega
      subst hil
      rw [show vs.take ps.length = vs from List.take_of_length_le (by omega), zpad_full vl]
      refine ⟨d + 1, rfl, zc41 zown_new (zKR_v (k _ _ (zEx_le (zEx_add' zEx_add) (by omega) (by omega)) ?_))⟩
      refine ⟨h.1.length + zK0, vs, ?_, zown_add zown_new, by omega, (zVal_enc _ _).mpr ⟨by rw [vl, List.length_map, hl], fun i v b hv hb => ?_⟩⟩
      · rw [zown_new, List.length_map]
      · rw [List.getElem?_map] at hv
        cases hj : js[i]? with
        | none => rw [hj] at hv; cases hv
        | some j =>
          rw [hj] at hv
          have hv : zraw N f j = v := Option.some.inj hv
          obtain ⟨p, hp⟩ : ∃ p, ps[i]? = some p := ⟨_, List.getElem?_eq_getElem (by have := (List.getElem?_eq_some_iff.mp hj).1; omega)⟩
          obtain ⟨v', r', x, y, zz, s1, s2, s3⟩ := vv i p hp
          rw [s1] at hb
          rw [← Option.some.inj hb, ← hv]
          exact zVal_ex (fun _ _ z => zown_add (zown_add z)) _ _ (s3 j hj)
  · refine ⟨_, 6, _, rfl, zarr_own hr, by decide, ?_⟩
    rw [List.length_map, show Int32.ofNat ps.length = nI ps.length from rfl]
    refine ⟨⟨nI_pos (by omega), by rw [nI_clamp (by omega)]; omega⟩, ?_⟩
    rw [nI_clamp (by omega)]
    exact ⟨ps.length, 0, by omega, by omega, rfl, rfl, rfl, rfl⟩
/-- a word's value -/
theorem zc42 {r f c : Nat} {ps js : List Nat} (hc0 : c < 256) (hr : zown h r = some (.inl (6, ps.map Value.ref))) (hl : ps.length = js.length) (hn : ps.length ≤ 100) (hc : ∀ (k j p : Nat), js[k]? = some j → ps[k]? = some p → zNd h N f j p)
    (k : ∀ h' v, zEx h h' 1 7 → zVal h' (match js.map (zraw N f) with | [] => .arg c | [v] => .div (.arg c) v | v :: u :: _ => .add (.div (.arg c) v) u) (.inl v) → Q (.inl (some (.ref v))) h') : zG xs (d + 2) (42, 0, lv_args 0 [.int (nI c), zo (some r)], []) h Q := by
  have hv : ∀ k, k < ps.length → ∃ j p v r' x y z, js[k]? = some j ∧ ps[k]? = some p ∧ zown h p = some (.inr (4, [x, y, z, .ref r', .ref v])) ∧ zVal h (zraw N f j) (.inl v) := by
    intro k hk
    obtain ⟨j, hj⟩ : ∃ j, js[k]? = some j := ⟨_, List.getElem?_eq_getElem (by omega)⟩
    obtain ⟨p, hp⟩ : ∃ p, ps[k]? = some p := ⟨_, List.getElem?_eq_getElem hk⟩
    have := hc k j p hj hp
    cases f with
    | zero => exact this.elim
    | succ f =>
      obtain ⟨e, ps', r', pv, h1, h2, h3, h4, h5, h6, h7, h8⟩ := this
      exact ⟨j, p, pv, r', _, _, _, hj, hp, h2, h7⟩
  have up : ∀ {e : zE} {n : Nat} {V : Term} {x : Nat ⊕ List Nat}, zVal h V x → zVal (zadd h e n) V x := fun z => zVal_ex (fun _ _ => zown_add) _ _ z
  have get : ∀ k, k < ps.length → ∀ K : zP → Prop, (∀ v j, js[k]? = some j → zVal h (zraw N f j) (.inl v) → K (some v)) → zAA (some r) (nI k) h fun x => zGR x 4 4 h K := by
    intro k hk K hK
    obtain ⟨j, p, v, r', x, y, z, s1, s2, s3, s4⟩ := hv k hk
    exact ⟨r, 6, _, some p, rfl, hr, by decide, nI_pos (by omega), by rw [nI_clamp (by omega), List.getElem?_map, s2]; rfl, zX_gr s3 rfl (hK v j s1 s4)⟩
  apply zm_42
  refine ⟨r, 6, _, rfl, zarr_own hr, by decide, ?_⟩
  rw [List.length_map]
  refine ⟨fun z => ?_, fun z => ?_⟩
  · have h0 : 0 < ps.length := (nI_ltI (a := 0) (by decide) (by omega)).mp z
    refine get 0 h0 _ (fun v0 j0 hj0 hv0 => ?_)
    refine ⟨r, 6, _, rfl, zarr_own hr, by decide, ?_⟩
    rw [List.length_map]
    refine ⟨fun z2 => ?_, fun z2 => ?_⟩
    · have h1 : 1 < ps.length := (nI_ltI (a := 1) (by decide) (by omega)).mp z2
      refine get 1 h1 _ (fun v1 j1 hj1 hv1 => ⟨d + 1, rfl, zc43 (p := some v0) (q := some v1) (zKR_v (k _ _ zEx_add ?_))⟩)
      match js, hj0, hj1 with
      | j0' :: j1' :: js, e0, e1 =>
        obtain rfl : j0' = j0 := Option.some.inj e0
        obtain rfl : j1' = j1 := Option.some.inj e1
        exact ⟨v0, v1, zown_new, hc0, up hv0, up hv1⟩
    · have h1 : ps.length = 1 := by
        have := mt (nI_ltI (a := 1) (b := ps.length) (by decide) (by omega)).mpr z2
        omega
      refine ⟨d + 1, rfl, zc43 (p := some v0) (q := none) (zKR_v (k _ _ zEx_add ?_))⟩
      have hjl : js.length = 1 := by omega
      match js, hjl, hj0 with
      | [j0'], _, e0 =>
        obtain rfl : j0' = j0 := Option.some.inj e0
        exact ⟨v0, zown_new, hc0, up hv0⟩
  · have h0 : ps.length = 0 := by
      have := mt (nI_ltI (a := 0) (b := ps.length) (by decide) (by omega)).mpr z
      omega
    refine ⟨r, 6, _, rfl, zarr_own hr, by decide, ?_⟩
    rw [List.length_map, h0]
    refine ⟨fun z2 => absurd z2 (by decide), fun _ => ⟨d + 1, rfl, zc43 (p := none) (q := none) (zKR_v (k _ _ zEx_add ?_))⟩⟩
    have hjl : js.length = 0 := by omega
    match js, hjl with
    | [], _ => exact ⟨zown_new, hc0⟩
/-- what reading one node comes to -/
def zRdN (xs : List Value) (B : List Nat) (w : Int32) (f : Nat) : Prop := ∀ (par p D : Nat) (N : List zNt) (h : zH) (Q : zO → zH → Prop), 12 + 2 * f ≤ D → zBf h B w p N.length → p ≤ B.length → N.length ≤ 100 →
  (∀ e, zpn B f par p N = .inl e → ∀ h', zBad h B e (2 * (B.length - p) + 2 * f + 2) (9 * (B.length - p) + 50 * f + 20) h' → Q (.inr 0) h') →
  (∀ p' N', zpn B f par p N = .inr (p', N') → ∀ h' a, zRx h h' (2 * (p' - p)) (9 * (p' - p) - 2) → zBf h' B w p' N'.length → zNd h' N' f N.length a → Q (.inl (some (.ref a))) h') →
  zG xs D (25, 0, lv_args 0 [zo (some 4), .int (nI (10 - f))], []) h Q
theorem zc24 {f par : Nat} (IH : zRdN xs B w f) (hD : 13 + 2 * f ≤ d) (hb : zBf h B w p N.length) (hp : p ≤ B.length) (hN : N.length ≤ 100) (hn : n ≤ 40) (hf : f ≤ 10)
    (k0 : ∀ e, zpns (zpn B f par) n p N = .inl e → ∀ h', zBad h B e (2 * (B.length - p) + 2 * f + 3) (9 * (B.length - p) + 50 * f + 20 + n) h' → Q (.inr 0) h')
    (k1 : ∀ p' N', zpns (zpn B f par) n p N = .inr (p', N') → ∀ (h' : zH) (r : Nat) (ps : List Nat), zRx h h' (2 * (p' - p) + 1) (9 * (p' - p) - n) → zBf h' B w p' N'.length → zown h' r = some (.inl (6, ps.map Value.ref)) → ps.length = n → (∀ (k j q : Nat), (zchn N' n N.length)[k]? = some j → ps[k]? = some q → zNd h' N' f j q) → Q (.inl (some (.ref r))) h') : zG xs d (24, 0, lv_args 0 [zo (some 4), .int (nI n), .int (nI (10 - f))], []) h Q := by
  have hBl := hb.2.2.1
  refine zm_24 (fun m l0 l1 l2 l3 l4 h1 => ∃ i ps p1 S, m = n - i ∧ i ≤ n ∧ l0 = some 4 ∧ l1 = nI n ∧ l2 = nI (10 - f) ∧ l3 = some (h.1.length + zK0) ∧ l4 = nI i ∧ ps.length = i ∧ zRx h h1 (2 * (p1 - p) + 1) (n + 9 * (p1 - p) - 2 * i) ∧ zBf h1 B w p1 (N ++ S).length ∧ zown h1 (h.1.length + zK0) = some (.inl (6, zpad ps n)) ∧ zpns (zpn B f par) n p N = zpns (zpn B f par) (n - i) p1 (N ++ S) ∧ p + 2 * i ≤ p1 ∧ p1 ≤ B.length ∧ (N ++ S).length ≤ 100 ∧ zfuls (N ++ S) i N.length (N ++ S).length ∧ ∀ (k j q : Nat), (zchn (N ++ S) i N.length)[k]? = some j → ps[k]? = some q → zNd h1 (N ++ S) f j q) ?_ ?_
  · rintro m l0 l1 l2 l3 l4 h1 ⟨i, ps, p1, S, rfl, hi, rfl, rfl, rfl, rfl, rfl, hps, r1, b1, hA, he, hp1, hp1B, hNS, hfu, hch⟩
    refine ⟨fun z => ?_, fun z => ?_⟩
    · have hin : i < n := (nI_ltI (by omega) (by omega)).mp z
      rw [show n - i = (n - (i + 1)) + 1 by omega, zpns] at he
      obtain ⟨d, rfl⟩ : ∃ d', d = d' + 1 := ⟨d - 1, by omega⟩
      refine zX_cv b1.1 (IH par p1 d (N ++ S) h1 _ (by omega) b1 hp1B hNS (fun e hz h' hbad => ?_) (fun p2 N2 hz h2 a r2 b2 hnd => ?_))
      · rw [hz] at he
        exact k0 e he h' (zBad_le (zBad_of r1 hbad) (by omega) (by omega))
      · rw [hz] at he
        dsimp only at he
        obtain ⟨T, rfl, q1, q2, q3, q4, q5⟩ := zpn_ok (by omega) _ _ _ _ _ _ hz
        have hnd0 := hnd
        have hcls : ∃ fs, zown h2 a = some (.inr (4, fs)) := by
          cases f with
          | zero => exact hnd.elim
          | succ f =>
            obtain ⟨e, ps', r', pv, g1, g2, _⟩ := hnd
            exact ⟨_, g2⟩
        obtain ⟨fs, hfs⟩ := hcls
        have hA4 : h.1.length + zK0 ≠ 4 := by have := zown_bd hb.1; omega
        have hA2 := r2.1 _ _ hA4 hA
        refine zKR_v ⟨_, 6, _, rfl, hA2, by decide, nI_pos (by omega), by rw [nI_clamp (by omega), zpad_len (by omega)]; exact hin, Or.inr ⟨a, 4, fs, rfl, hfs, rfl⟩, ?_⟩
        rw [nI_clamp (by omega)]
        rw [show (zpad ps n).set i (zo (some a)) = zpad (ps ++ [a]) n from by rw [← hps]; exact zpad_set (by omega)]
        -- what the store leaves alone
        have keep : ∀ k e, zown h2 k = some e → znc e = true → zown (zput h2 (h.1.length + zK0) (.inl (6, zpad (ps ++ [a]) n))) k = some e := by
          intro k e hk hz
          by_cases hkA : k = h.1.length + zK0
          · subst hkA
            rw [hA2] at hk
            cases hk
            exfalso
            have hz : (zpad ps n).all zisr = true := hz
            have := List.all_eq_true.mp hz .null (by unfold zpad; rw [show n - ps.length = (n - ps.length - 1) + 1 by omega, List.replicate_succ]; simp)
            cases this
          · rw [zown_ne hA2 hkA]; exact hk
        intro x hx
        have hl0 : h.1.length + zK0 ≤ h.1.length + zK0 := Nat.le_refl _
        have r12 := zRx_trans r1 r2
        refine ⟨n - (i + 1), by omega, i + 1, ps ++ [a], p2, S ++ T, rfl, hin, rfl, rfl, rfl, rfl, by rw [hx, nI_1], by rw [List.length_append, List.length_singleton, hps], ?_, ?_, zown_put hA2, ?_, by omega, q2, ?_, ?_, ?_⟩
        · refine ⟨fun k e hk4 hk => ?_, ?_, ?_, ?_⟩
          · rw [zown_ne hA2 (by have := zown_bd hk; omega)]
            exact r12.1 k e hk4 hk
          · rw [zput_ln]; exact r12.2.1
          · have := r12.2.2.1; show h2.2.1 ≤ _; omega
          · have := r12.2.2.2; show h2.2.2 ≤ _; omega
        · rw [← List.append_assoc]
          obtain ⟨g4, g6, gl, bs, g5, l5, v5⟩ := b2
          exact ⟨by rw [zown_ne hA2 (fun z => hA4 z.symm)]; exact g4, by rw [zown_ne hA2 (by have := zown_bd hb.2.1; omega)]; exact g6, gl, bs, by rw [zown_ne hA2 (by obtain ⟨_, _, _, bs0, g50, _⟩ := hb; have := zown_bd g50; omega)]; exact g5, l5, v5⟩
        · rw [← List.append_assoc]; exact he
        · rw [← List.append_assoc]; exact q3
        · rw [← List.append_assoc]
          have := zfuls_snoc i N.length _ (zfuls_app (S := T) _ _ _ hfu).1 q4
          rw [q5] at this
          exact this
        · intro k j q hj hq
          rw [← List.append_assoc] at hj ⊢
          rw [zchn_snoc i N.length _ (zfuls_app (S := T) _ _ _ hfu).1, (zfuls_app (S := T) _ _ _ hfu).2] at hj
          by_cases hk : k < i
          · rw [List.getElem?_append_left (by rw [zchn_len]; exact hk)] at hj
            rw [List.getElem?_append_left (by omega)] at hq
            exact zNd_fr keep f j q (zNd_app f j q (zNd_fr (zRx_nc b1 r2) f j q (hch k j q hj hq)))
          · have hkl := (List.getElem?_eq_some_iff.mp hj).1
            rw [List.length_append, zchn_len, List.length_singleton] at hkl
            obtain rfl : k = i := by omega
            rw [List.getElem?_append_right (by rw [zchn_len]; exact Nat.le_refl _), zchn_len, Nat.sub_self] at hj
            rw [List.getElem?_append_right (by omega), hps, Nat.sub_self] at hq
            obtain rfl : (N ++ S).length = j := Option.some.inj hj
            obtain rfl : a = q := Option.some.inj hq
            exact zNd_fr keep f _ a hnd0
    · have hin : i = n := by
        have := mt (nI_ltI (a := i) (b := n) (by omega) (by omega)).mpr z
        omega
      subst hin
      rw [Nat.sub_self, zpns] at he
      rw [zpad_full hps] at hA
      exact k1 p1 (N ++ S) he h1 _ ps (zRx_le r1 (by omega) (by omega)) b1 hA hps hch
  · refine ⟨⟨nI_pos (by omega), by rw [nI_clamp (by omega)]; omega⟩, ?_⟩
    rw [nI_clamp (by omega)]
    refine ⟨n, 0, [], p, [], by omega, by omega, rfl, rfl, rfl, rfl, rfl, rfl, zRx_le (zRx_ex zEx_add) (by omega) (by omega), ?_, zown_new, ?_, by omega, hp, ?_, ?_, fun k j q hj => ?_⟩
    · rw [List.append_nil]; exact zBf_ex (fun _ _ => zown_add) hb
    · rw [List.append_nil]; rfl
    · rw [List.append_nil]; exact hN
    · rw [List.append_nil]; rfl
    · cases hj
end PRS
section ND
variable {xs : List Value} {B : List Nat} {w : Int32}
/-- the value of the node that was begun behind N -/
theorem zraw_at {N S : List zNt} {e : zNt} {f : Nat} : zraw (N ++ [e] ++ S) (f + 1) N.length = (if eS e = 0 then .sub (.arg (if eC e = 1 ∧ eH e * 1152921504606846976 + eL e ≠ 0 then 1 else 0)) (.arg (eH e * 1152921504606846976 + eL e))
      else if eS e = 1 then .mul (.arg (eC e)) (.arg (eL e))
      else if eS e = 2 then .old (zenc ((zchn (N ++ [e] ++ S) (eM e) (N.length + 1)).map (zraw (N ++ [e] ++ S) f)))
      else match (zchn (N ++ [e] ++ S) (eM e) (N.length + 1)).map (zraw (N ++ [e] ++ S) f) with
        | [] => .arg (eC e)
        | [v] => .div (.arg (eC e)) v
        | v :: u :: _ => .add (.div (.arg (eC e)) v) u) := by
  have hi : (N ++ [e] ++ S)[N.length]? = some e := by rw [List.append_assoc, List.getElem?_append_right (Nat.le_refl _), Nat.sub_self]; rfl
  rw [zraw, hi]
  try rfl
/-- the node's object is filled -/
theorem zNd_fin {h h2 h3 : zH} {N S : List zNt} {e : zNt} {f r va p' q c0 s0 c s : Nat} {ps : List Nat} {x y z : Int32} (r2 : zRx h h2 c0 s0) (b4 : zown h2 4 ≠ none) (r3 : zRx (zadd h2 (.inr (4, [.int 0, .int 0, .int 0, .null, .null])) 5) h3 c s) (b3 : zBf h3 B w p' q)
    (hx : x = nI (eF e)) (hy : y = nI (if eS e = 3 then 4 else eS e)) (hz : z = nI (if eS e = 3 then eC e else 0)) (hr : zown h3 r = some (.inl (6, ps.map Value.ref))) (hl : ps.length = eM e) (hf : zfuls (N ++ [e] ++ S) (eM e) (N.length + 1) (N ++ [e] ++ S).length) (hv : zVal h3 (zraw (N ++ [e] ++ S) (f + 1) N.length) (.inl va)) (hc : ∀ (k j q : Nat), (zchn (N ++ [e] ++ S) (eM e) (N.length + 1))[k]? = some j → ps[k]? = some q → zNd h3 (N ++ [e] ++ S) f j q) :
    zown h3 (h2.1.length + zK0) = some (.inr (4, [.int 0, .int 0, .int 0, .null, .null])) ∧ zNd (zput h3 (h2.1.length + zK0) (.inr (4, [.int x, .int y, .int z, .ref r, .ref va]))) (N ++ [e] ++ S) (f + 1) N.length (h2.1.length + zK0) ∧ zBf (zput h3 (h2.1.length + zK0) (.inr (4, [.int x, .int y, .int z, .ref r, .ref va]))) B w p' q ∧ zRx h (zput h3 (h2.1.length + zK0) (.inr (4, [.int x, .int y, .int z, .ref r, .ref va]))) (c0 + 1 + c) (s0 + 5 + s) := by
  subst hx hy hz
  have h24 : 4 < h2.1.length + zK0 := by
    obtain ⟨e4, he4⟩ := Option.ne_none_iff_exists'.mp b4
    exact zown_bd he4
  have hA := r3.1 _ _ (by omega) (zown_new (h := h2) (n := 5) (e := .inr (4, [.int 0, .int 0, .int 0, .null, .null])))
  have keep : ∀ k e', zown h3 k = some e' → znc e' = true → zown (zput h3 (h2.1.length + zK0) (.inr (4, [.int (nI (eF e)), .int (nI (if eS e = 3 then 4 else eS e)), .int (nI (if eS e = 3 then eC e else 0)), .ref r, .ref va]))) k = some e' := by
    intro k e' hk he
    rw [zown_ne hA (fun z => by rw [z, hA] at hk; cases hk; cases he)]
    exact hk
  refine ⟨hA, ?_, ?_, ?_⟩
  · have hi : (N ++ [e] ++ S)[N.length]? = some e := by rw [List.append_assoc, List.getElem?_append_right (Nat.le_refl _), Nat.sub_self]; rfl
    obtain ⟨g1, g2⟩ := zful_of hi hf
    exact ⟨e, ps, r, va, hi, zown_put hA, keep _ _ hr (zall_ref ps), hl, g1, by rw [g2]; exact hf, zVal_fr (fun k e' hk he => keep k e' hk (znc_v he)) _ _ hv, fun k j q hj hq => zNd_fr keep f j q (hc k j q hj hq)⟩
  · obtain ⟨g4, g6, gl, bs, g5, l5, v5⟩ := b3
    have n4 : ∀ k e', zown h3 k = some e' → znc e' = false → (∀ fs, e' ≠ .inr (4, fs)) → zown (zput h3 (h2.1.length + zK0) (.inr (4, [.int (nI (eF e)), .int (nI (if eS e = 3 then 4 else eS e)), .int (nI (if eS e = 3 then eC e else 0)), .ref r, .ref va]))) k = some e' := by
      intro k e' hk _ he
      rw [zown_ne hA (fun z => by rw [z, hA] at hk; cases hk; exact he _ rfl)]
      exact hk
    exact ⟨n4 _ _ g4 rfl (fun fs z => by cases z), keep _ _ g6 rfl, gl, bs, n4 _ _ g5 rfl (fun fs z => by cases z), l5, v5⟩
  · have r5 := zRx_trans r2 (zRx_trans (zRx_ex (zEx_add (h := h2) (n := 5) (e := .inr (4, [.int 0, .int 0, .int 0, .null, .null])))) r3)
    refine ⟨fun j ej hj4 hj => ?_, ?_, ?_, ?_⟩
    · rw [zown_ne hA (by have := zown_bd hj; have := r2.2.1; omega)]
      exact r5.1 j ej hj4 hj
    · rw [zput_ln]; exact r5.2.1
    · have := r5.2.2.1; show h3.2.1 ≤ _; omega
    · have := r5.2.2.2; show h3.2.2 ≤ _; omega
theorem zc25 : ∀ f, f ≤ 9 → zRdN xs B w f := by
  intro f
  induction f with
  | zero =>
    intro _ par p D N h Q hD hb hp hN k0 k1
    obtain ⟨D, rfl⟩ : ∃ d', D = d' + 2 := ⟨D - 2, by omega⟩
    have hBl := hb.2.2.1
    refine zm_25 (zX_gi hb.1 rfl (zX_cv hb.1 (zc26e (d := D) (by omega) hb (by omega) (fun z h' hz => ?_) ?_)))
    · exact k0 B.length (by rw [zpn, z]) h' (zBad_le hz (by omega) (by omega))
    · intro b hbp h1 r1 b1 hb256
      refine zKI_v ⟨fun _ => zX_cv b1.1 (zc27b (d := D + 1) (by omega) b1 (fun h' hz => k0 p (by rw [zpn, hbp]) h' (zBad_le (zBad_of r1 hz) (by omega) (by omega)))), fun z => absurd (by decide) z⟩
  | succ f ih =>
    intro hf9 par p D N h Q hD hb hp hN k0 k1
    have IH := ih (by omega)
    obtain ⟨D, rfl⟩ : ∃ d', D = d' + 4 := ⟨D - 4, by omega⟩
    have hBl := hb.2.2.1
    refine zm_25 (zX_gi hb.1 rfl (zX_cv hb.1 (zc26e (d := D + 2) (by omega) hb (by omega) (fun z h' hz => ?_) ?_)))
    · exact k0 B.length (by rw [zpn, z]) h' (zBad_le hz (by omega) (by omega))
    · intro k hkp h1 r1 b1 hk256
      have hpl := (List.getElem?_eq_some_iff.mp hkp).1
      rw [zpn, hkp] at k0 k1
      dsimp only at k0 k1
      refine zKI_v ⟨fun z => absurd z (nI_nlt (a := 9) (b := 10 - (f + 1)) (by omega) (by decide)), fun _ => zX_gi b1.1 rfl ⟨fun z => ?_, fun z => ?_⟩⟩
      · have hN100 : N.length < 100 := (nI_ltI (b := 100) (by omega) (by decide)).mp z
        rw [if_neg (by omega)] at k0 k1
        refine zX_cv b1.1 (zc27t (zKV_v (zX_gi b1.1 rfl (zX_pf b1.1 (show 6 < 7 by decide) ?_))))
        rw [nI_1]
        obtain ⟨h2, eh2⟩ : ∃ h2, h2 = zput h1 4 (.inr (1, [.ref 5, .ref 6, .int 0, .int w, .int (nI B.length), .int (nI (p + 1)), .int (nI (N.length + 1))])) := ⟨_, rfl⟩
        have r2 : zRx h h2 0 0 := by rw [eh2]; exact zRx_trans r1 (zRx_put b1.1)
        have b2 : zBf h2 B w (p + 1) (N.length + 1) := by rw [eh2]; exact zBf_put b1
        rw [show zput h1 4 (Sum.inr (1, ([.ref 5, .ref 6, .int 0, .int w, .int (nI B.length), .int (nI (p + 1)), .int (nI N.length)] : List Value).set 6 (Value.int (nI (N.length + 1))))) = h2 from eh2.symm]
        clear eh2
        have kn : ∀ c, c < 256 → (nI k = nI c ↔ k = c) := fun c hc => nI_eq (by omega) (by omega)
        have n4 : ∀ {h' : zH} {p' q : Nat}, zBf h' B w p' q → zown h' 4 ≠ none := fun b => by rw [b.1]; exact Option.some_ne_none _
        have lN1 : ∀ e : zNt, (N ++ [e] ++ []).length = N.length + 1 := fun e => by rw [List.append_nil, List.length_append, List.length_singleton]
        -- the parts of a row or a word
        have kids : ∀ (n : Nat) (e : zNt) (h3 : zH) (R : zO → zH → Prop), n ≤ 40 → p + 2 ≤ B.length → zRx h h3 0 0 → zBf h3 B w (p + 2) (N.length + 1) → (∀ x, zpns (zpn B f N.length) n (p + 2) (N ++ [e]) = .inl x → ∀ h', zBad h B x (2 * (B.length - p) + 2 * (f + 1) + 2) (9 * (B.length - p) + 50 * (f + 1) + 20) h' → R (.inr 0) h') →
            (∀ p' S, zpns (zpn B f N.length) n (p + 2) (N ++ [e]) = .inr (p', N ++ [e] ++ S) → p + 2 + 2 * n ≤ p' → p' ≤ B.length → zfuls (N ++ [e] ++ S) n (N.length + 1) (N ++ [e] ++ S).length → ∀ (h' : zH) (r : Nat) (ps : List Nat), zRx h h' (2 * (p' - (p + 2)) + 1) (9 * (p' - (p + 2)) - n) → zBf h' B w p' (N ++ [e] ++ S).length → zown h' r = some (.inl (6, ps.map Value.ref)) → ps.length = n → (∀ (k j q : Nat), (zchn (N ++ [e] ++ S) n (N.length + 1))[k]? = some j → ps[k]? = some q → zNd h' (N ++ [e] ++ S) f j q) → R (.inl (some (.ref r))) h') →
            zCV xs (D + 4) 24 1 (some 4) [.int (nI n), .int (nI (10 - (f + 1)) + 1)] h3 R := by
          intro n e h3 R hn hp2 r3 b3 m0 m1
          have hlen : (N ++ [e]).length = N.length + 1 := by rw [List.length_append, List.length_singleton]
          rw [nI_1, show 10 - (f + 1) + 1 = 10 - f by omega]
          refine zX_cv b3.1 (zc24 (par := N.length) (N := N ++ [e]) IH (by omega) (by rw [hlen]; exact b3) (by omega) (by omega) hn (by omega) (fun x hx h' hz => m0 x hx h' (zBad_le (zBad_of r3 hz) (by omega) (by omega))) ?_)
          intro p' N' hx h' r ps r4 b4 hr hps hch
          obtain ⟨S, rfl, q1, q2, q3, q4⟩ := zpns_ok (zpn_ok (by omega) f N.length) n (p + 2) (N ++ [e]) p' N' hx (by omega) (by omega)
          rw [hlen] at q4 hch
          exact m1 p' S hx q1 q2 q4 h' r ps (zRx_le (zRx_trans r3 r4) (by omega) (by omega)) b4 hr hps hch
        refine ⟨fun z0 => ?_, fun z0 => ⟨fun z1 => ?_, fun z1 => ⟨fun z2 => ?_, fun z2 => ?_⟩⟩⟩
        · -- a number
          have hk0 : k = 0 := (kn 0 (by decide)).mp z0
          subst hk0
          rw [if_pos rfl] at k0 k1
          refine zNO_i (zX_gr (zown_add b2.1) rfl (zX_cv (zown_add b2.1) (zc28 (d := D) (by omega) (zBf_ex (fun _ _ => zown_add) b2) (by omega) (fun e he h' hz => ?_) ?_)))
          · rw [he] at k0
            exact k0 e rfl h' (zBad_le (zBad_of (zRx_trans r2 (zRx_ex zEx_add)) hz) (by omega) (by simp))
          · intro p' s v he hv hp1 hp2 h3 r3 b3 va vb hva hvb
            rw [he] at k1
            dsimp only at k1
            have ev : eH (0, p, s, 0, v / 1152921504606846976, v % 1152921504606846976, par) * 1152921504606846976 + eL (0, p, s, 0, v / 1152921504606846976, v % 1152921504606846976, par) = v := by
              show v / 1152921504606846976 * 1152921504606846976 + v % 1152921504606846976 = v
              omega
            obtain ⟨hA, g1, g2, g3⟩ := zNd_fin (x := nI p) (y := nI 0) (z := 0) (e := (0, p, s, 0, v / 1152921504606846976, v % 1152921504606846976, par)) (S := []) (N := N) (f := f) (r := 6) (va := va) (ps := []) r2 (n4 b2) r3 b3 rfl rfl rfl b3.2.1 rfl (by rw [lN1]; rfl) (by
              rw [zraw_at, ev]
              refine ⟨vb, hva, ?_, hv, ?_⟩
              · rw [hvb]
                congr 2
                show _ = ((if s = 1 ∧ v ≠ 0 then 1 else 0) == 1)
                by_cases c : s = 1 ∧ v ≠ 0
                · rw [if_pos c, c.1]; simpa using c.2
                · rw [if_neg c]
                  by_cases c1 : s = 1
                  · have : v = 0 := by
                      by_cases c2 : v = 0
                      · exact c2
                      · exact absurd ⟨c1, c2⟩ c
                    rw [this]; simp
                  · rw [show (s == 1) = false by simpa using c1]; rfl
              · show (if s = 1 ∧ v ≠ 0 then 1 else 0) = 0 ∨ _
                by_cases c : s = 1 ∧ v ≠ 0
                · exact Or.inr ⟨if_pos c, c.2⟩
                · exact Or.inl (if_neg c)) (fun k j q hj => by cases hj)
            refine zKR_v (zc36 hA rfl ?_)
            rw [List.append_nil] at g1
            exact k1 p' _ rfl _ _ (zRx_le g3 (by omega) (by omega)) (by rw [List.length_append, List.length_singleton]; exact g2) g1
        · -- a text
          have hk1 : k = 1 := (kn 1 (by decide)).mp z1
          subst hk1
          rw [if_neg (by decide), if_neg (by decide)] at k0 k1
          refine zNO_i (zX_gr (zown_add b2.1) rfl (zX_cv (zown_add b2.1) (zc37 (d := D + 1) (most := 8) (by omega) (by decide) (zBf_ex (fun _ _ => zown_add) b2) (by omega) (fun hn h' hz => ?_) (fun c hc hc8 h' hz => ?_) ?_)))
          · rw [hn] at k0
            exact k0 _ rfl h' (zBad_le (zBad_of (zRx_trans r2 (zRx_ex zEx_add)) hz) (by omega) (by simp))
          · rw [hc] at k0
            dsimp only at k0
            rw [if_pos rfl, if_pos hc8] at k0
            exact k0 _ rfl h' (zBad_le (zBad_of (zRx_trans r2 (zRx_ex zEx_add)) hz) (by omega) (by simp))
          · intro c hc hc8 h3 r3 b3
            rw [hc] at k0 k1
            dsimp only at k0 k1
            rw [if_pos rfl, if_neg (by omega)] at k0 k1
            refine zKI_v (zX_cv b3.1 (zc38 (d := D + 1) (by omega) b3 hc8 (by omega) (fun x hx h' hz => ?_) ?_))
            · rw [hx] at k0
              exact k0 x rfl h' (zBad_le (zBad_of (zRx_trans (zRx_trans r2 (zRx_ex zEx_add)) r3) hz) (by omega) (by simp))
            · intro v hx hv63 h4 r4 b4 va hva
              have hl := zptx_ok _ _ _ _ _ hx (by have := (List.getElem?_eq_some_iff.mp hc).1; omega)
              rw [hx] at k1
              dsimp only at k1
              obtain ⟨hA, g1, g2, g3⟩ := zNd_fin (x := nI p) (y := nI 1) (z := 0) (e := (1, p, c, 0, 0, v, par)) (S := []) (N := N) (f := f) (r := 6) (va := va) (ps := []) r2 (n4 b2) (zRx_trans r3 r4) b4 rfl rfl rfl b4.2.1 rfl (by rw [lN1]; rfl) (by
                rw [zraw_at]
                exact ⟨hva, hc8, hv63⟩) (fun k j q hj => by cases hj)
              refine zKR_v (zc36 hA rfl ?_)
              rw [List.append_nil] at g1
              exact k1 _ _ rfl _ _ (zRx_le g3 (by omega) (by omega)) (by rw [List.length_append, List.length_singleton]; exact g2) g1
        · -- a row
          have hk2 : k = 2 := (kn 2 (by decide)).mp z2
          subst hk2
          rw [if_neg (by decide), if_neg (by decide)] at k0 k1
          refine zX_cv b2.1 (zc37 (d := D + 1) (most := 40) (by omega) (by decide) b2 (by omega) (fun hn h' hz => ?_) (fun c hc hc8 h' hz => ?_) ?_)
          · rw [hn] at k0
            exact k0 _ rfl h' (zBad_le (zBad_of r2 hz) (by omega) (by omega))
          · rw [hc] at k0
            dsimp only at k0
            rw [if_neg (by decide), if_pos rfl, if_pos hc8] at k0
            exact k0 _ rfl h' (zBad_le (zBad_of r2 hz) (by omega) (by omega))
          · intro c hc hc8 h3 r3 b3
            rw [hc] at k0 k1
            dsimp only at k0 k1
            rw [if_neg (by decide), if_pos rfl, if_neg (by omega)] at k0 k1
            refine zKI_v (kids c (2, p, c, c, 0, 0, par) h3 _ hc8 (by have := (List.getElem?_eq_some_iff.mp hc).1; omega) (zRx_trans r2 r3) b3 k0 ?_)
            intro p' S hx hp1 hp2 hfu h4 r ps r4 b4 hr hps hch
            refine zKR_v (zNO_i ⟨D + 3, rfl, zc40 (d := D + 1) (N := N ++ [(2, p, c, c, 0, 0, par)] ++ S) (f := f) (ps := ps) (js := zchn (N ++ [(2, p, c, c, 0, 0, par)] ++ S) c (N.length + 1)) (zown_add hr) (by rw [zchn_len]; exact hps) (by omega) (fun k j q hj hq => zNd_fr (fun _ _ z _ => zown_add z) f j q (hch k j q hj hq)) ?_⟩)
            intro h5 va x5 hva
            obtain ⟨hA, g1, g2, g3⟩ := zNd_fin (x := nI p) (y := nI 2) (z := 0) (e := (2, p, c, c, 0, 0, par)) (S := S) (N := N) (f := f) (r := r) (va := va) (ps := ps) r4 (n4 b4) (zRx_ex x5) (zBf_ex (fun k e hk => x5.1 k e (zown_add hk)) b4) rfl rfl rfl (x5.1 _ _ (zown_add hr)) hps hfu (by
              rw [zraw_at]
              exact hva) (fun k j q hj hq => zNd_fr (fun k e z _ => x5.1 k e (zown_add z)) f j q (hch k j q hj hq))
            refine zKR_v (zc36 hA rfl ?_)
            exact k1 p' _ hx _ _ (zRx_le g3 (by omega) (by omega)) g2 g1
        · -- a word, or none
          have hk012 : k ≠ 0 ∧ k ≠ 1 ∧ k ≠ 2 := ⟨fun z => z0 ((kn 0 (by decide)).mpr z), fun z => z1 ((kn 1 (by decide)).mpr z), fun z => z2 ((kn 2 (by decide)).mpr z)⟩
          rw [if_neg hk012.1] at k0 k1
          have bad : (k = 3 ∨ 7 < k) → zw_25_152 xs (D + 4) Q (some 4) (nI (10 - (f + 1))) (nI p) (nI k) (some 4) h2 := by
            intro hk
            rw [if_pos hk] at k0
            exact zX_cv b2.1 (zc27b (d := D + 3) (by omega) b2 (fun h' hz => k0 p rfl h' (zBad_le (zBad_of r2 hz) (by omega) (by omega))))
          refine ⟨fun z3 => bad (Or.inl ?_), fun z3 => ⟨fun z4 => bad (Or.inr ((nI_ltI (a := 7) (by decide) (by omega)).mp z4)), fun z4 => ?_⟩⟩
          · have := (nI_ltI (b := 4) (by omega) (by decide)).mp z3
            omega
          · have hk4 : 4 ≤ k ∧ k ≤ 7 := by
              have a1 := mt (nI_ltI (a := k) (b := 4) (by omega) (by decide)).mpr z3
              have a2 := mt (nI_ltI (a := 7) (b := k) (by decide) (by omega)).mpr z4
              omega
            rw [if_neg (by omega)] at k0 k1
            refine zX_cv b2.1 (zc27t (zKV_v (zX_cv b2.1 (zc26e (d := D + 2) (by omega) b2 (by omega) (fun hn h' hz => ?_) ?_))))
            · rw [hn] at k0
              exact k0 _ rfl h' (zBad_le (zBad_of r2 hz) (by omega) (by omega))
            · intro c hc h3 r3 b3 hc256
              rw [hc] at k0 k1
              dsimp only at k0 k1
              rw [if_neg hk012.2.1, if_neg hk012.2.2] at k0 k1
              have hcl := (List.getElem?_eq_some_iff.mp hc).1
              -- the end: the word's value, its node
              have fin : ∀ p' S, zpns (zpn B f N.length) (k - 4) (p + 2) (N ++ [(3, p, c, k - 4, 0, 0, par)]) = .inr (p', N ++ [(3, p, c, k - 4, 0, 0, par)] ++ S) → p + 2 + 2 * (k - 4) ≤ p' → zfuls (N ++ [(3, p, c, k - 4, 0, 0, par)] ++ S) (k - 4) (N.length + 1) (N ++ [(3, p, c, k - 4, 0, 0, par)] ++ S).length → ∀ (h' : zH) (r : Nat) (ps : List Nat), zRx h h' (2 * (p' - (p + 2)) + 1) (9 * (p' - (p + 2))) → zBf h' B w p' (N ++ [(3, p, c, k - 4, 0, 0, par)] ++ S).length → zown h' r = some (.inl (6, ps.map Value.ref)) → ps.length = k - 4 → (∀ (i j q : Nat), (zchn (N ++ [(3, p, c, k - 4, 0, 0, par)] ++ S) (k - 4) (N.length + 1))[i]? = some j → ps[i]? = some q → zNd h' (N ++ [(3, p, c, k - 4, 0, 0, par)] ++ S) f j q) → zw_25_185 xs (D + 4) Q (nI p) (nI c) (some r) h' := by
                intro p' S hx hp1 hfu h4 r ps r4 b4 hr hps hch
                refine zNO_i ⟨D + 3, rfl, zc42 (d := D + 1) (N := N ++ [(3, p, c, k - 4, 0, 0, par)] ++ S) (f := f) (ps := ps) (js := zchn (N ++ [(3, p, c, k - 4, 0, 0, par)] ++ S) (k - 4) (N.length + 1)) hc256 (zown_add hr) (by rw [zchn_len]; exact hps) (by omega) (fun i j q hj hq => zNd_fr (fun _ _ z _ => zown_add z) f j q (hch i j q hj hq)) ?_⟩
                intro h5 va x5 hva
                obtain ⟨hA, g1, g2, g3⟩ := zNd_fin (x := nI p) (y := nI 4) (z := nI c) (e := (3, p, c, k - 4, 0, 0, par)) (S := S) (N := N) (f := f) (r := r) (va := va) (ps := ps) r4 (n4 b4) (zRx_ex x5) (zBf_ex (fun i e hk => x5.1 i e (zown_add hk)) b4) rfl rfl rfl (x5.1 _ _ (zown_add hr)) hps hfu (by
                  rw [zraw_at]
                  exact hva) (fun i j q hj hq => zNd_fr (fun i e z _ => x5.1 i e (zown_add z)) f j q (hch i j q hj hq))
                refine zKR_v (zc36 hA rfl ?_)
                exact k1 p' _ hx _ _ (zRx_le g3 (by omega) (by omega)) g2 g1
              refine zKI_v ⟨fun z5 => ?_, fun z5 => ?_⟩
              · have hk4' : k = 4 := (kn 4 (by decide)).mp z5
                refine zX_gr b3.1 rfl ?_
                have e0 : k - 4 = 0 := by omega
                refine fin (p + 2) [] (by rw [e0, zpns, List.append_nil]) (by omega) (by rw [e0, lN1]; rfl) h3 6 [] (zRx_le (zRx_trans r2 r3) (by omega) (by omega)) (by rw [lN1]; exact b3) b3.2.1 (by rw [e0]; rfl) (fun i j q hj hq => by cases hq)
              · have hk4' : k ≠ 4 := fun z => z5 ((kn 4 (by decide)).mpr z)
                rw [show nI k - 4 = nI (k - 4) from pk_sub (b := 4) (by omega)]
                refine kids (k - 4) (3, p, c, k - 4, 0, 0, par) h3 _ (by omega) (by omega) (zRx_trans r2 r3) b3 k0 ?_
                intro p' S hx hp1 hp2 hfu h4 r ps r4 b4 hr hps hch
                exact zKR_v (fin p' S hx hp1 hfu h4 r ps (zRx_le r4 (by omega) (by omega)) b4 hr hps hch)
      · have hN100 : 100 ≤ N.length := by
          have := mt (nI_ltI (a := N.length) (b := 100) (by omega) (by decide)).mpr z
          omega
        rw [if_pos hN100] at k0
        exact zX_cv b1.1 (zc27b (d := D + 3) (by omega) b1 (fun h' hz => k0 p rfl h' (zBad_le (zBad_of r1 hz) (by omega) (by omega))))
end ND
/-- n nodes that take all the bytes -/
def zrd (B : List Nat) (n : Nat) : Nat ⊕ List zNt := match zpns (zpn B 9 4294967295) n 0 [] with
  | .inl e => .inl e
  | .inr (p, N) => if p = B.length then .inr N else .inl p
/-- the buffer ahead of a reading: what was put -/
def zBu (h : zH) (B : List Nat) (w e p q : Int32) : Prop := zown h 4 = some (.inr (1, [.ref 5, .ref 6, .int (nI B.length), .int w, .int e, .int p, .int q])) ∧ zown h 6 = some (.inl (6, [])) ∧ B.length ≤ 240 ∧ ∃ bs, zown h 5 = some (.inl (2, bs)) ∧ bs.length = 240 ∧ ∀ (i b : Nat), B[i]? = some b → b < 256 ∧ bs[i]? = some (.int (zby b))
section READ
variable {xs : List Value} {d : Nat} {h : zH} {Q : zO → zH → Prop} {B : List Nat} {w e p q : Int32} {n : Nat}
theorem zc23 (hD : 40 ≤ d) (hn : n ≤ 40) (hb : zBu h B w e p q)
    (k0 : ∀ x, zrd B n = .inl x → ∀ h', zBad h B x (2 * B.length + 24) (9 * B.length + 490 + n) h' → Q (.inr 0) h')
    (k1 : ∀ N, zrd B n = .inr N → ∀ (h' : zH) (a r v : Nat) (ps : List Nat), zRx h h' (2 * B.length + 4) (9 * B.length + 12) → zBf h' B (-1) B.length N.length → zown h' a = some (.inr (4, [.int 0, .int 2, .int 0, .ref r, .ref v])) → zown h' r = some (.inl (6, ps.map Value.ref)) → ps.length = n → zfuls N n 0 N.length → N.length ≤ 100 → (∀ (k j s : Nat), (zchn N n 0)[k]? = some j → ps[k]? = some s → zNd h' N 9 j s) → Q (.inl (some (.ref a))) h') : zG xs d (23, 0, lv_args 0 [zo (some 4), .int (nI n)], []) h Q := by
  obtain ⟨h4, h6, hBl, bs, h5, l5, v5⟩ := hb
  obtain ⟨d, rfl⟩ : ∃ d', d = d' + 2 := ⟨d - 2, by omega⟩
  apply zm_23
  refine zX_gi h4 rfl (zX_pf h4 (show 4 < 7 by decide) ?_)
  refine zX_pf (zown_put h4) (show 2 < 7 by decide) ?_
  rw [zput_put]
  refine zX_pf (zown_put h4) (show 3 < 7 by decide) ?_
  rw [zput_put]
  refine zX_pf (zown_put h4) (show 5 < 7 by decide) ?_
  rw [zput_put]
  refine zX_pf (zown_put h4) (show 6 < 7 by decide) ?_
  rw [zput_put]
  obtain ⟨h1, e1⟩ : ∃ h1, h1 = zput h 4 (.inr (1, [.ref 5, .ref 6, .int 0, .int (-1), .int (nI B.length), .int 0, .int 0])) := ⟨_, rfl⟩
  have r1 : zRx h h1 0 0 := by rw [e1]; exact zRx_put h4
  have b1 : zBf h1 B (-1) 0 0 := by
    rw [e1]
    exact ⟨zown_put h4, by rw [zown_ne h4 (by decide)]; exact h6, hBl, bs, by rw [zown_ne h4 (by decide)]; exact h5, l5, v5⟩
  change zNO 4 _ (zput h 4 (.inr (1, [.ref 5, .ref 6, .int 0, .int (-1), .int (nI B.length), .int 0, .int 0]))) _
  rw [← e1]
  clear e1
  refine zNO_i ?_
  have b2 : zBf (zadd h1 (.inr (4, [.int 0, .int 0, .int 0, .null, .null])) 5) B (-1) 0 ([] : List zNt).length := zBf_ex (fun _ _ => zown_add) b1
  refine zX_cv b2.1 (zc24 (d := d + 1) (f := 9) (par := 4294967295) (N := []) (zc25 9 (Nat.le_refl _)) (by omega) b2 (Nat.zero_le _) (by decide) hn (by decide) (fun x hx h' hz => ?_) ?_)
  · have : zrd B n = .inl x := by unfold zrd; rw [hx]
    exact k0 x this h' (zBad_le (zBad_of (zRx_trans r1 (zRx_ex zEx_add)) hz) (by omega) (by simp; omega))
  · intro p' N hx h3 r ps r3 b3 hr hps hch
    obtain ⟨S, hS, q1, q2, q3, q4⟩ := zpns_ok (zpn_ok (by omega) 9 4294967295) n 0 [] p' N hx (Nat.zero_le _) (by decide)
    have hA := r3.1 _ _ (by have := zown_bd b1.1; omega) (zown_new (h := h1) (n := 5) (e := .inr (4, [.int 0, .int 0, .int 0, .null, .null])))
    refine zKR_v ⟨d + 1, rfl, ?_⟩
    obtain ⟨d, rfl⟩ : ∃ d', d = d' + 1 := ⟨d - 1, by omega⟩
    refine zc44 (d := d) (fun h4' x4 _ => zKR_v (zc36 (x4.1 _ _ hA) rfl ?_))
    -- the heap with the node filled
    obtain ⟨h5', e5⟩ : ∃ h5', h5' = zput h4' (h1.1.length + zK0) (.inr (4, [.int 0, .int 2, .int 0, .ref r, .ref (h3.1.length + zK0 + 1)])) := ⟨_, rfl⟩
    have hA4 := x4.1 _ _ hA
    have keep : ∀ k e', zown h3 k = some e' → (e' ≠ .inr (4, [.int 0, .int 0, .int 0, .null, .null])) → zown h5' k = some e' := by
      intro k e' hk he
      rw [e5, zown_ne hA4 (fun z => by rw [z, hA] at hk; cases hk; exact he rfl)]
      exact x4.1 _ _ hk
    have b5 : zBf h5' B (-1) p' N.length := by
      obtain ⟨g4, g6, gl, bs', g5, l5', v5'⟩ := b3
      exact ⟨keep _ _ g4 (fun z => by cases z), keep _ _ g6 (fun z => by cases z), gl, bs', keep _ _ g5 (fun z => by cases z), l5', v5'⟩
    have r5 : zRx h h5' (2 * p' + 4) (9 * p' - n + 12) := by
      have r6 := zRx_trans (zRx_trans r1 (zRx_ex (zEx_add (h := h1) (n := 5) (e := .inr (4, [.int 0, .int 0, .int 0, .null, .null]))))) (zRx_trans r3 (zRx_ex x4))
      refine ⟨fun j ej hj4 hj => ?_, ?_, ?_, ?_⟩
      · rw [e5, zown_ne hA4 (by have := zown_bd hj; have := r1.2.1; omega)]
        exact r6.1 j ej hj4 hj
      · rw [e5, zput_ln]; exact r6.2.1
      · have := r6.2.2.1; rw [e5]; show h4'.2.1 ≤ _; omega
      · have := r6.2.2.2; rw [e5]; show h4'.2.2 ≤ _; omega
    rw [← e5]
    have hN5 : ∀ k e', zown h3 k = some e' → znc e' = true → zown h5' k = some e' := fun k e' hk he => keep k e' hk (fun z => by rw [z] at he; cases he)
    refine zX_gi b5.1 rfl (zX_gi b5.1 rfl ⟨fun z => ?_, fun z => ?_⟩)
    · have hpe : p' = B.length := (nI_eq (by omega) (by omega)).mp z
      subst hpe
      have hz : zrd B n = .inr N := by unfold zrd; rw [hx]; exact if_pos rfl
      refine zX_gi b5.1 rfl (zX_cv b5.1 (zc27t (zKV_v (k1 N hz h5' _ r _ ps (zRx_le r5 (by omega) (by omega)) b5 (by rw [e5]; exact zown_put hA4) (keep _ _ hr (fun z => by cases z)) hps q4 q3 (fun k j s hj hs => zNd_fr hN5 9 j s (hch k j s hj hs))))))
    · have hpe : p' ≠ B.length := fun z2 => z ((nI_eq (by omega) (by omega)).mpr z2)
      have hz : zrd B n = .inl p' := by unfold zrd; rw [hx]; exact if_neg hpe
      refine zX_gi b5.1 rfl (zX_cv b5.1 (zc27b (d := d + 2) (by omega) b5 (fun h' hb' => k0 p' hz h' (zBad_le (zBad_of r5 hb') (by omega) (by omega)))))
end READ
