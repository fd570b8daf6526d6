/-! which values are of a type -/
theorem zchn_ge {N : List zNt} : ∀ (n k j : Nat), j ∈ zchn N n k → k ≤ j
  | 0, k, j, h => by cases h
  | n + 1, k, j, h => by
    rcases List.mem_cons.mp h with h | h
    · omega
    · have := zchn_ge n (znx N k) j h; have := znx_ge (N := N) (i := k); omega
theorem zraw_ir {N : List zNt} : ∀ (f g i : Nat), N.length ≤ f + i → N.length ≤ g + i → zraw N f i = zraw N g i
  | 0, 0, i, _, _ => rfl
  | 0, g + 1, i, h1, h2 => by rw [zraw, zraw, List.getElem?_eq_none (by omega)]
  | f + 1, 0, i, h1, h2 => by rw [zraw, zraw, List.getElem?_eq_none (by omega)]
  | f + 1, g + 1, i, h1, h2 => by
    rw [zraw, zraw]
    cases he : N[i]? with
    | none => rfl
    | some e =>
      have : (zchn N (eM e) (i + 1)).map (zraw N f) = (zchn N (eM e) (i + 1)).map (zraw N g) := List.map_congr_left (fun j hj => by
        have := zchn_ge _ _ _ hj
        exact zraw_ir f g j (by omega) (by omega))
      dsimp only
      rw [this]
/-- the value that node i is, its type aside -/
def zrw (N : List zNt) (i : Nat) : Term := zraw N 200 i
theorem zrw_eq {N : List zNt} (hN : N.length ≤ 100) {i : Nat} {e : zNt} (he : N[i]? = some e) : zrw N i = (if eS e = 0 then .sub (.arg (if eC e = 1 ∧ eH e * 1152921504606846976 + eL e ≠ 0 then 1 else 0)) (.arg (eH e * 1152921504606846976 + eL e))
      else if eS e = 1 then .mul (.arg (eC e)) (.arg (eL e))
      else if eS e = 2 then .old (zenc ((zchn N (eM e) (i + 1)).map (zrw N)))
      else match (zchn N (eM e) (i + 1)).map (zrw N) with
        | [] => .arg (eC e)
        | [v] => .div (.arg (eC e)) v
        | v :: u :: _ => .add (.div (.arg (eC e)) v) u) := by
  have h1 : zrw N i = zraw N 201 i := zraw_ir 200 201 i (by omega) (by omega)
  rw [h1, zraw, he]
  first | done | rfl
theorem zraw_up {N : List zNt} {h : zH} : ∀ (f g i a : Nat), zNd h N f i a → f ≤ g → zraw N g i = zraw N f i
  | 0, g, i, a, hn, _ => hn.elim
  | f + 1, 0, i, a, hn, hg => absurd hg (by omega)
  | f + 1, g + 1, i, a, hn, hg => by
    obtain ⟨e, ps, r, pv, he, ho, hr, hl, hfu, hfus, hval, hch⟩ := zNd_at hn
    rw [zraw, zraw, he]
    have : (zchn N (eM e) (i + 1)).map (zraw N g) = (zchn N (eM e) (i + 1)).map (zraw N f) := List.map_congr_left (fun j hj => by
      obtain ⟨k, hk⟩ := List.getElem?_of_mem hj
      have hkl := (List.getElem?_eq_some_iff.mp hk).1
      rw [zchn_len] at hkl
      obtain ⟨p, hp⟩ : ∃ p, ps[k]? = some p := ⟨_, List.getElem?_eq_getElem (by omega)⟩
      exact zraw_up f g j p (hch k j p hk hp) (by omega))
    dsimp only
    rw [this]
theorem zNd_val {N : List zNt} {h : zH} {f i a : Nat} (hn : zNd h N f i a) (hf : f ≤ 200) {K : zP → Prop} (g : ∀ pv, zVal h (zrw N i) (.inl pv) → K (some pv)) : zGR (some a) 4 4 h K := by
  cases f with
  | zero => exact hn.elim
  | succ f =>
    obtain ⟨e, ps, r, pv, he, ho, hr, hl, hfu, hfus, hval, hch⟩ := zNd_at hn
    refine zX_gr ho rfl (g pv ?_)
    unfold zrw
    rw [zraw_up (f + 1) 200 i a hn hf]
    exact hval
/-- the one ahead of q in a list -/
def zpv : List Nat → Nat → Option Nat
  | a :: b :: l, q => if b = q then some a else zpv (b :: l) q
  | _, _ => none
def zprv (N : List zNt) (par q : Nat) : Option Nat := match N[par]? with
  | some ep => zpv (zchn N (eM ep) (par + 1)) q
  | none => none
/-- the entry at q does not have a greater key than the one ahead of it -/
def zdis (N : List zNt) (q : Nat) : Bool := match N[q]? with
  | none => false
  | some e => match zprv N (eA e) q with
    | none => false
    | some b => !(decide (zcmp (zrw N (b + 1)) (zrw N (q + 1)) < 0))
def zisw (e : zNt) (c k : Nat) : Bool := eS e == 3 && eC e == c && eM e == k
/-- whether a node, its parts aside, can be of a type (kd: an entry of the map T) -/
def zfit (kd : Bool) (T : Term) (e : zNt) : Bool := if kd = true then zisw e 28 2 else if ztc T = 0 then zisw e 20 0 else if ztc T = 1 then zisw e 21 0 || zisw e 22 0 else if ztc T = 2 then eS e == 0 else if ztc T = 3 then eS e == 0 && eC e == 0 else if ztc T = 4 then eS e == 1 else if ztc T = 5 then zisw e 23 2 else if ztc T = 6 then zisw e 24 0 || zisw e 25 1 else if ztc T = 7 then zisw e 26 1 || zisw e 27 1 else eS e == 2
/-- the type that a part must have -/
def zpt (kd : Bool) (T : Term) (e : zNt) (fst : Bool) : Bool × Term := if kd = true then (false, if fst = true then zt1 T else zt2 T) else if ztc T = 9 ∨ ztc T = 10 then (true, T) else (false, if (ztc T = 5 ∧ fst = false) ∨ (ztc T = 7 ∧ eC e = 27) then zt2 T else zt1 T)
def zor (a b : Option Nat) : Option Nat := match a with
  | some x => some x
  | none => b
def zfst : List (Option Nat) → Option Nat
  | [] => none
  | o :: l => zor o (zfst l)
def zmiB (N : List zNt) (r : Nat → Bool → Term → Option Nat) (i : Nat) (kd : Bool) (T : Term) : Option Nat := match N[i]? with
  | none => some 0
  | some e => if zfit kd T e = false then some (eF e) else
      if kd = true then zor (r (i + 1) false (zt1 T)) (zor (if zdis N i = true then some (zFp N (i + 1)) else none) (r (znx N (i + 1)) false (zt2 T)))
      else zfst ((zchn N (eM e) (i + 1)).map fun j => r j (zpt kd T e (j == i + 1)).1 (zpt kd T e (j == i + 1)).2)
/-- the place of the first node that keeps node i from being of the type -/
def zMi (N : List zNt) : Nat → Bool → Term → Option Nat := zfix (fun _ _ => some 0) (zmiB N) 200
theorem zMi_eq {N : List zNt} (hN : N.length ≤ 100) (i : Nat) (kd : Bool) (T : Term) : zMi N i kd T = zmiB N (zMi N) i kd T := by
  have := zfix_eq (bot := fun _ _ => some 0) (body := zmiB N) (n := N.length) (g := 200) (i := i) (fun r i hi => funext fun kd => funext fun T => by
    unfold zmiB; rw [List.getElem?_eq_none hi]) (fun r r' i hr => funext fun kd => funext fun T => by
    unfold zmiB
    rw [hr (i + 1) (by omega), hr (znx N (i + 1)) (by have := znx_ge (N := N) (i := i + 1); omega)]
    cases he : N[i]? with
    | none => rfl
    | some e =>
      have : ((zchn N (eM e) (i + 1)).map fun j => r j (zpt kd T e (j == i + 1)).1 (zpt kd T e (j == i + 1)).2) = ((zchn N (eM e) (i + 1)).map fun j => r' j (zpt kd T e (j == i + 1)).1 (zpt kd T e (j == i + 1)).2) := List.map_congr_left (fun j hj => by
        have := zchn_ge _ _ _ hj
        rw [hr j (by omega)])
      dsimp only
      rw [this]) (by omega)
  exact congrFun (congrFun this kd) T
/-- maps have simple keys -/
def zTs : Term → Prop
  | .div (.arg _) a => zTs a
  | .add (.div (.arg c) a) b => ((c = 9 ∨ c = 10) → ztsim a = true) ∧ zTs a ∧ zTs b
  | _ => True
theorem zTy_ts {N : List zNt} (hN : N.length ≤ 100) : ∀ (n i wh : Nat) (T : Term), N.length ≤ n + i → zTy N i wh = .inr T → zTs T
  | 0, i, wh, T, hn, h => by
    rw [zTy_eq hN] at h
    unfold ztyB at h
    rw [List.getElem?_eq_none (by omega)] at h
    cases h
  | n + 1, i, wh, T, hn, h => by
    rw [zTy_eq hN] at h
    unfold ztyB at h
    cases he : N[i]? with
    | none => rw [he] at h; cases h
    | some e =>
      rw [he] at h
      dsimp only at h
      split at h
      · split at h
        · cases h; trivial
        · split at h
          · cases h
          · rename_i a ha
            have a1 := zTy_ts hN n _ _ a (by omega) ha
            split at h
            · cases h
            · rename_i hk
              split at h
              · obtain ⟨rfl, h7⟩ := zt7_ok h
                exact a1
              · split at h
                · cases h
                · rename_i b hb
                  have b1 := zTy_ts hN n _ _ b (by have := znx_ge (N := N) (i := i + 1); omega) hb
                  obtain ⟨rfl, h7⟩ := zt7_ok h
                  refine ⟨fun z => ?_, a1, b1⟩
                  cases hq : ztsim a with
                  | true => rfl
                  | false => exact absurd ⟨hq, z⟩ hk
      · cases h
/-- nodes say which node they are part of -/
def zPa (N : List zNt) : Prop := ∀ (i : Nat) (e : zNt), N[i]? = some e → ∀ j, j ∈ zchn N (eM e) (i + 1) → ∃ ej, N[j]? = some ej ∧ eA ej = i
theorem zwhole_in : ∀ (l : List zNt) (k j : Nat), zwhole k l = true → j < zskip k l → zwhole 1 (l.drop j) = true
  | [], 0, j, _, hj => absurd hj (Nat.not_lt_zero _)
  | [], k + 1, j, h, hj => by cases h
  | e :: l, 0, j, _, hj => absurd hj (Nat.not_lt_zero _)
  | e :: l, k + 1, 0, h, hj => zwhole_le _ 1 k (by rw [Nat.add_comm]; exact h)
  | e :: l, k + 1, j + 1, h, hj => by
    rw [zwhole] at h
    rw [zskip] at hj
    rw [List.drop_succ_cons]
    exact zwhole_in l (k + eM e) j h (by omega)
theorem zful_in {N : List zNt} {n m : Nat} (hn : zful N n) (h1 : n ≤ m) (h2 : m < znx N n) : zful N m := by
  have := zwhole_in (N.drop n) 1 (m - n) hn (by unfold znx at h2; omega)
  rw [List.drop_drop, show n + (m - n) = m by omega] at this
  exact this
theorem zfuls_in {N : List zNt} : ∀ (n k k' m : Nat), zfuls N n k k' → k ≤ m → m < k' → zful N m
  | 0, k, k', m, h, h1, h2 => by have : k = k' := h; omega
  | n + 1, k, k', m, h, h1, h2 => by
    by_cases hm : m < znx N k
    · exact zful_in h.1 h1 hm
    · exact zfuls_in n (znx N k) k' m h.2 (by omega) h2
def zPat (N : List zNt) (i : Nat) : Prop := ∀ e, N[i]? = some e → ∀ j, j ∈ zchn N (eM e) (i + 1) → ∃ ej, N[j]? = some ej ∧ eA ej = i
theorem zPat_app {N S : List zNt} {i : Nat} (h : zPat N i) (hf : zful N i) : zPat (N ++ S) i := by
  intro e he j hj
  have hil := (zful_lt hf).1
  rw [List.getElem?_append_left hil] at he
  rw [(zfuls_app _ _ _ (zful_fuls he hf)).2] at hj
  obtain ⟨ej, h1, h2⟩ := h e he j hj
  exact ⟨ej, by rw [List.getElem?_append_left (List.getElem?_eq_some_iff.mp h1).1]; exact h1, h2⟩
theorem zpns_pa {B : List Nat} {f par : Nat} (hB : B.length ≤ 2000) (IH : ∀ (at_ : Nat) (N : List zNt) (at2 : Nat) (N2 : List zNt), zpn B f par at_ N = .inr (at2, N2) → (∃ e, N2[N.length]? = some e ∧ eA e = par) ∧ ∀ i, N.length ≤ i → i < N2.length → zPat N2 i) : ∀ (n at_ : Nat) (N : List zNt) (at2 : Nat) (N2 : List zNt), zpns (zpn B f par) n at_ N = .inr (at2, N2) → at_ ≤ B.length → N.length ≤ 100 → (∀ j, j ∈ zchn N2 n N.length → ∃ ej, N2[j]? = some ej ∧ eA ej = par) ∧ ∀ i, N.length ≤ i → i < N2.length → zPat N2 i
  | 0, at_, N, at2, N2, e, h1, h2 => by
    rw [zpns] at e
    cases e
    exact ⟨fun j hj => (by cases hj), fun i h1 h2 => absurd h1 (by omega)⟩
  | n + 1, at_, N, at2, N2, e, h1, h2 => by
    rw [zpns] at e
    cases hp : zpn B f par at_ N with
    | inl x => rw [hp] at e; cases e
    | inr x =>
      obtain ⟨at3, N3⟩ := x
      rw [hp] at e
      dsimp only at e
      obtain ⟨⟨e3, he3, hA3⟩, hi3⟩ := IH at_ N at3 N3 hp
      obtain ⟨S, rfl, q1, q2, q3, q4, q5⟩ := zpn_ok hB f par at_ N at3 N3 hp
      obtain ⟨T, rfl, r1, r2, r3, r4⟩ := zpns_ok (zpn_ok hB f par) n at3 _ at2 N2 e q2 q3
      obtain ⟨c1, c2⟩ := zpns_pa hB IH n at3 _ at2 _ e q2 q3
      obtain ⟨g1, g2⟩ := zful_app (S := T) q4
      refine ⟨fun j hj => ?_, fun i i1 i2 => ?_⟩
      · rw [zchn, g2, q5] at hj
        rcases List.mem_cons.mp hj with hj | hj
        · rw [hj]
          exact ⟨e3, by rw [List.getElem?_append_left (by have := (List.getElem?_eq_some_iff.mp he3).1; omega)]; exact he3, hA3⟩
        · exact c1 j hj
      · by_cases hi : i < (N ++ S).length
        · exact zPat_app (hi3 i i1 hi) (zful_in q4 i1 (by omega))
        · exact c2 i (by omega) i2
theorem zpn_pa {B : List Nat} (hB : B.length ≤ 2000) : ∀ (f par at_ : Nat) (N : List zNt) (at2 : Nat) (N2 : List zNt), zpn B f par at_ N = .inr (at2, N2) → (∃ e, N2[N.length]? = some e ∧ eA e = par) ∧ ∀ i, N.length ≤ i → i < N2.length → zPat N2 i
  | 0, par, at_, N, at2, N2, e => by
    rw [zpn] at e
    split at e <;> cases e
  | f + 1, par, at_, N, at2, N2, e => by
    rw [zpn_hd] at e
    cases hb : B[at_]? with
    | none => rw [hb] at e; cases e
    | some k =>
      rw [hb] at e
      dsimp only at e
      split at e
      · cases e
      · rename_i h100
        cases hx : zhd B at_ par with
        | inl x => rw [hx] at e; cases e
        | inr x =>
          obtain ⟨p', e1⟩ := x
          rw [hx] at e
          dsimp only at e
          obtain ⟨k1, k2, k3, k4, k5, _⟩ := zhd_ok hB hx
          have hlen : (N ++ [e1]).length = N.length + 1 := by rw [List.length_append]; rfl
          obtain ⟨S, rfl, r1, r2, r3, r4⟩ := zpns_ok (zpn_ok hB f N.length) _ _ _ _ _ e k2 (by omega)
          obtain ⟨c1, c2⟩ := zpns_pa hB (fun a N1 b N3 => zpn_pa hB f N.length a N1 b N3) _ _ _ _ _ e k2 (by omega)
          have hroot : (N ++ [e1] ++ S)[N.length]? = some e1 := by
            rw [List.getElem?_append_left (by omega), List.getElem?_append_right (Nat.le_refl _), Nat.sub_self]; rfl
          refine ⟨⟨e1, hroot, k5⟩, fun i i1 i2 => ?_⟩
          by_cases hi : i = N.length
          · subst hi
            intro e' he' j hj
            rw [hroot] at he'
            cases he'
            rw [← hlen] at hj
            exact c1 j hj
          · exact c2 i (by omega) i2
theorem zrd_pa {B : List Nat} {n : Nat} {N : List zNt} (hB : B.length ≤ 2000) (h : zrd B n = .inr N) : zPa N := by
  unfold zrd at h
  cases hp : zpns (zpn B 9 4294967295) n 0 [] with
  | inl e => rw [hp] at h; cases h
  | inr q =>
    obtain ⟨p, N2⟩ := q
    rw [hp] at h
    dsimp only at h
    split at h
    · cases h
      obtain ⟨c1, c2⟩ := zpns_pa hB (fun a N1 b N3 => zpn_pa hB 9 4294967295 a N1 b N3) _ _ _ _ _ hp (Nat.zero_le _) (by decide)
      exact fun i e he => c2 i (Nat.zero_le _) (List.getElem?_eq_some_iff.mp he).1 e he
    · cases h
/-! the class fits values -/
def zGd (N : List zNt) : Prop := zNg N ∧ zPa N ∧ ∀ i, i < N.length → zful N i
theorem zrd_gd {B : List Nat} {n : Nat} {N : List zNt} (hB : B.length ≤ 2000) (h8 : ∀ (i b : Nat), B[i]? = some b → b < 256) (h : zrd B n = .inr N) : zGd N ∧ zfuls N n 0 N.length := by
  obtain ⟨h1, h2⟩ := zrd_ng hB h8 h
  exact ⟨⟨h1, zrd_pa hB h, fun i hi => zfuls_in _ _ _ i h2 (Nat.zero_le _) hi⟩, h2⟩
theorem zGd_k {N : List zNt} (hg : zGd N) {i : Nat} {e : zNt} (he : N[i]? = some e) : zfuls N (eM e) (i + 1) (znx N i) := zful_fuls he (hg.2.2 i (List.getElem?_eq_some_iff.mp he).1)
theorem zchn_inc {N : List zNt} : ∀ (n k k' : Nat), zfuls N n k k' → List.Pairwise (· < ·) (zchn N n k)
  | 0, k, k', _ => List.Pairwise.nil
  | n + 1, k, k', h => List.Pairwise.cons (fun j hj => by
      have := zchn_ge _ _ _ hj
      have := zful_lt h.1
      omega) (zchn_inc n (znx N k) k' h.2)
theorem zchn_lt {N : List zNt} : ∀ (n k k' j : Nat), zfuls N n k k' → j ∈ zchn N n k → j < k' ∧ k' ≤ k' ∧ zful N j ∧ znx N j ≤ k'
  | 0, k, k', j, _, hj => by cases hj
  | n + 1, k, k', j, h, hj => by
    have hk := zful_lt h.1
    have hle : ∀ (n k k' : Nat), zfuls N n k k' → k ≤ k' := by
      intro n
      induction n with
      | zero => intro k k' h; exact Nat.le_of_eq h
      | succ n ih => intro k k' h; have := zful_lt h.1; have := ih _ _ h.2; omega
    have := hle _ _ _ h.2
    rcases List.mem_cons.mp hj with z | z
    · subst z; exact ⟨by omega, Nat.le_refl _, h.1, by omega⟩
    · exact zchn_lt n (znx N k) k' j h.2 z
theorem zpv_0 : ∀ (l : List Nat) (q : Nat), List.Pairwise (· < ·) l → l[0]? = some q → zpv l q = none
  | [], q, _, h => by cases h
  | [a], q, _, h => rfl
  | a :: b :: l, q, hp, h => by
    cases h
    have hlt : ∀ x ∈ (b :: l), a < x := (List.pairwise_cons.mp hp).1
    have gen : ∀ (l : List Nat), (∀ x ∈ l, a < x) → zpv l a = none := by
      intro l
      induction l with
      | nil => intro _; rfl
      | cons x l ih =>
        intro hl
        cases l with
        | nil => rfl
        | cons y l =>
          have := hl y (by simp)
          rw [zpv, if_neg (by omega)]
          exact ih (fun z hz => hl z (List.mem_cons_of_mem _ hz))
    have := hlt b (by simp)
    rw [zpv, if_neg (by omega)]
    exact gen _ hlt
theorem zpv_s : ∀ (l : List Nat) (t a q : Nat), List.Pairwise (· < ·) l → l[t]? = some a → l[t + 1]? = some q → zpv l q = some a
  | [], t, a, q, _, h, _ => by cases h
  | [x], 0, a, q, _, _, h => by cases h
  | [x], t + 1, a, q, _, h, _ => by cases h
  | x :: y :: l, 0, a, q, hp, h1, h2 => by
    cases h1
    cases h2
    rw [zpv, if_pos rfl]
  | x :: y :: l, t + 1, a, q, hp, h1, h2 => by
    have hp2 := (List.pairwise_cons.mp hp).2
    have h2 : (y :: l)[t + 1]? = some q := h2
    have hyq : y < q := by
      have hm : q ∈ l := by
        have : l[t]? = some q := h2
        exact List.mem_of_getElem? this
      exact (List.pairwise_cons.mp hp2).1 q hm
    rw [zpv, if_neg (by omega)]
    exact zpv_s (y :: l) t a q hp2 h1 h2
theorem zTs_1 {T : Term} (h : zTs T) : zTs (zt1 T) := by
  unfold zt1
  split
  · exact h
  · exact h.2.1
  · exact h
theorem zTs_2 {T : Term} (h : zTs T) : zTs (zt2 T) := by
  unfold zt2
  split
  · exact h.2.2
  · exact h
theorem zdep_raw {N : List zNt} : ∀ (f i : Nat), zdep (zraw N f i) ≤ f
  | 0, i => Nat.le_refl _
  | f + 1, i => by
    rw [zraw]
    cases he : N[i]? with
    | none => exact Nat.zero_le _
    | some e =>
      dsimp only
      split
      · exact Nat.zero_le _
      · split
        · exact Nat.zero_le _
        · split
          · exact Nat.zero_le _
          · cases hc : (zchn N (eM e) (i + 1)) with
            | nil => exact Nat.zero_le _
            | cons j js =>
              cases js with
              | nil => exact Nat.zero_le _
              | cons j2 js =>
                have := zdep_raw (N := N) f j
                have := zdep_raw (N := N) f j2
                show 1 + max (zdep (zraw N f j)) (zdep (zraw N f j2)) ≤ f + 1
                omega
def zoi (o : Option Nat) : Int32 := match o with
  | none => -1
  | some x => nI x
theorem zisw_ok {e : zNt} {c k : Nat} (h : zisw e c k = true) : eS e = 3 ∧ eC e = c ∧ eM e = k := by
  unfold zisw at h
  simp at h
  exact ⟨h.1.1, h.1.2, h.2⟩
section MIC
variable {xs : List Value} {d : Nat} {h : zH} {Q : zO → zH → Prop} {N : List zNt} {f i a t : Nat} {e : zNt} {T : Term}
theorem zc79 {c k : Nat} (hN : zNg N) (hn : zNd h N f i a) (he : N[i]? = some e) (hc : c < 2 ^ 31) (hk : k < 2 ^ 31) (g : Q (.inl (some (.int (zB (zisw e c k))))) h) : zG xs d (79, 0, lv_args 0 [zo (some a), .int (nI c), .int (nI k)], []) h Q := by
  obtain ⟨k1, k2, k3, k4, _⟩ := hN.2 i e he
  apply zm_79
  refine zNd_gS hn he (pk_eq (if eS e = 3 then 4 else eS e) 4 (fun z => ?_) (fun z => ?_) rfl rfl (by split <;> omega))
  · have h3 : eS e = 3 := by
      by_cases q : eS e = 3
      · exact q
      · rw [if_neg q] at z; omega
    refine zNd_gC hn he ?_
    rw [if_pos h3]
    refine pk_eq (eC e) c (fun z2 => zNd_gN hn he (pk_eq (eM e) k (fun z3 => ⟨Or.inr rfl, ?_⟩) (fun z3 => ⟨Or.inl rfl, ?_⟩))) (fun z2 => ⟨Or.inl rfl, ?_⟩)
    · have : zisw e c k = true := by unfold zisw; rw [h3, z2, z3]; simp
      rw [this] at g; exact g
    · have : zisw e c k = false := by unfold zisw; rw [beq_false_of_ne z3]; simp
      rw [this] at g; exact g
    · have : zisw e c k = false := by unfold zisw; rw [beq_false_of_ne z2]; simp
      rw [this] at g; exact g
  · have h3 : eS e ≠ 3 := fun q => z (by rw [if_pos q])
    have : zisw e c k = false := by unfold zisw; rw [beq_false_of_ne h3]; simp
    rw [this] at g; exact ⟨Or.inl rfl, g⟩
theorem zc86 {s n : Nat} (hv : zVal h (.sub (.arg s) (.arg n)) (.inl a)) (g : Q (.inl (some (.int (zB (s == 1))))) h) : zG xs d (86, 0, lv_args 0 [zo (some a)], []) h Q := by
  obtain ⟨b, h1, h2, _⟩ := hv
  refine zm_86 (zX_gr h1 rfl ⟨fun z => (by cases z), fun _ => zX_gr h1 rfl ?_⟩)
  have : ∀ K : Int32 → Prop, K (zB (s == 1)) → zGI (some b) 5 0 h K := fun K q => by
    refine ⟨b, _, _, rfl, h2, rfl, q⟩
  refine this _ ⟨fun z => ?_, fun z => ?_⟩
  · rw [zB_0.mp z] at g; exact ⟨Or.inl rfl, g⟩
  · have hs : (s == 1) = true := by cases hq : s == 1; exact absurd (by rw [hq]; rfl) z; rfl
    rw [hs] at g; exact ⟨Or.inr rfl, g⟩
theorem zc85 (hN : zNg N) (hf : f ≤ 200) (hn : zNd h N f i a) (he : N[i]? = some e) (ht : zTyp h T t) (h7 : ztc T ≤ 7) (g : Q (.inl (some (.int (zB (zfit false T e))))) h) : zG xs (d + 1) (85, 0, lv_args 0 [zo (some t), zo (some a)], []) h Q := by
  obtain ⟨k1, k2, k3, k4, k5, _⟩ := hN.2 i e he
  have hNd := hn
  have ho : ∃ fs, zown h a = some (.inr (4, fs)) := by
    cases f with
    | zero => exact hn.elim
    | succ f => obtain ⟨e', ps, r, pv, he', ho, _⟩ := zNd_at hn; exact ⟨_, ho⟩
  obtain ⟨fs, ho⟩ := ho
  unfold zfit at g
  rw [if_neg (by decide)] at g
  apply zm_85
  refine zTyp_gc ht (fun _ => ?_)
  have nn : ∀ (j : Nat) (P : Prop), j ≤ 7 → (ztc T = j → P) → (nI (ztc T) = nI j → P) := fun j P hj hp z => hp ((nI_eq (by omega) (by omega)).mp z)
  have two : ∀ (c1 m1 c2 m2 : Nat) (K : Int32 → zH → Prop) (E : Nat → zH → Prop), c1 < 100 → m1 < 100 → c2 < 100 → m2 < 100 → (zisw e c1 m1 || zisw e c2 m2) = true ∧ K 1 h ∨ (zisw e c1 m1 || zisw e c2 m2) = false ∧ K 0 h → zCV xs (d + 1) 79 4 (some a) [.int (nI c1), .int (nI m1)] h (zKI (fun x5 h6 => (x5 = 0 → zCV xs (d + 1) 79 4 (some a) [.int (nI c2), .int (nI m2)] h6 (zKI (fun x7 h8 => (x7 = 0 → K 0 h8) ∧ (¬ x7 = 0 → K 1 h8)) E)) ∧ (¬ x5 = 0 → K 1 h6)) E) := by
    intro c1 m1 c2 m2 K E l1 l2 l3 l4 hk
    refine zX_cv ho (zc79 hN hn he (by omega) (by omega) (zKI_v ⟨fun z => zX_cv ho (zc79 hN hn he (by omega) (by omega) (zKI_v ⟨fun z2 => ?_, fun z2 => ?_⟩)), fun z => ?_⟩))
    · have q1 := zB_0.mp z
      have q2 := zB_0.mp z2
      rcases hk with ⟨q, _⟩ | ⟨_, q⟩
      · rw [q1, q2] at q; cases q
      · exact q
    · rcases hk with ⟨_, q⟩ | ⟨q, _⟩
      · exact q
      · have : zisw e c2 m2 = false := by cases hq : zisw e c2 m2; rfl; rw [hq] at q; simp at q
        exact absurd (by rw [this]; rfl) z2
    · rcases hk with ⟨_, q⟩ | ⟨q, _⟩
      · exact q
      · have : zisw e c1 m1 = false := by cases hq : zisw e c1 m1; rfl; rw [hq] at q; simp at q
        exact absurd (by rw [this]; rfl) z
  have orq : ∀ (b : Bool) (A B : Prop), (b = true → A) → (b = false → B) → b = true ∧ A ∨ b = false ∧ B := fun b A B ha hb => by
    cases b
    · exact Or.inr ⟨rfl, hb rfl⟩
    · exact Or.inl ⟨rfl, ha rfl⟩
  refine ⟨nn 0 _ (by decide) (fun c => ?_), nn 1 _ (by decide) (fun c => ?_), nn 2 _ (by decide) (fun c => ?_), nn 3 _ (by decide) (fun c => ?_), nn 4 _ (by decide) (fun c => ?_), nn 5 _ (by decide) (fun c => ?_), nn 6 _ (by decide) (fun c => ?_), fun hno => ?_⟩
  · rw [if_pos c] at g
    exact zX_cv ho (zc79 (c := 20) (k := 0) hN hn he (by decide) (by decide) (zKI_v ⟨zB_01 _, g⟩))
  · rw [if_neg (by omega), if_pos c] at g
    refine two 21 0 22 0 _ _ (by decide) (by decide) (by decide) (by decide) (orq _ _ _ (fun q => ⟨Or.inr rfl, ?_⟩) (fun q => ⟨Or.inl rfl, ?_⟩))
    · rw [q] at g; exact g
    · rw [q] at g; exact g
  · rw [if_neg (by omega), if_neg (by omega), if_pos c] at g
    refine zNd_gS hn he (pk_eq (if eS e = 3 then 4 else eS e) 0 (fun z => ?_) (fun z => ?_) rfl rfl (by split <;> omega))
    · have : eS e = 0 := by split at z <;> omega
      rw [this] at g; exact ⟨Or.inr rfl, g⟩
    · have : eS e ≠ 0 := by intro q; rw [q] at z; exact z rfl
      rw [beq_false_of_ne this] at g; exact ⟨Or.inl rfl, g⟩
  · rw [if_neg (by omega), if_neg (by omega), if_neg (by omega), if_pos c] at g
    refine zNd_gS hn he (pk_eq (if eS e = 3 then 4 else eS e) 0 (fun z => ?_) (fun z => ?_) rfl rfl (by split <;> omega))
    · have h0 : eS e = 0 := by split at z <;> omega
      obtain ⟨m1, m2, m3, m4, m5⟩ := k5 h0
      refine zNd_val hn hf (fun pv hv => ?_)
      rw [zrw_eq hN.1 he, if_pos h0] at hv
      obtain ⟨fv, hfv⟩ := zVal_cls _ _ hv pv rfl
      refine zX_cv hfv (zc86 hv (zKI_v ⟨fun z2 => ?_, fun z2 => ?_⟩))
      · have : eC e = 0 := by
          have z3 := zB_0.mp z2
          by_cases q : eC e = 1
          · rw [if_pos ⟨q, m5 q⟩] at z3; cases z3
          · omega
        rw [h0, this] at g; exact ⟨Or.inr rfl, g⟩
      · have : eC e ≠ 0 := by
          intro q
          rw [if_neg (by omega)] at z2
          exact z2 rfl
        rw [beq_false_of_ne this, Bool.and_false] at g; exact ⟨Or.inl rfl, g⟩
    · have : eS e ≠ 0 := by intro q; rw [q] at z; exact z rfl
      rw [beq_false_of_ne this] at g; exact ⟨Or.inl rfl, g⟩
  · rw [if_neg (by omega), if_neg (by omega), if_neg (by omega), if_neg (by omega), if_pos c] at g
    refine zNd_gS hn he (pk_eq (if eS e = 3 then 4 else eS e) 1 (fun z => ?_) (fun z => ?_) rfl rfl (by split <;> omega))
    · have : eS e = 1 := by split at z <;> omega
      rw [this] at g; exact ⟨Or.inr rfl, g⟩
    · have : eS e ≠ 1 := by intro q; rw [q] at z; exact z rfl
      rw [beq_false_of_ne this] at g; exact ⟨Or.inl rfl, g⟩
  · rw [if_neg (by omega), if_neg (by omega), if_neg (by omega), if_neg (by omega), if_neg (by omega), if_pos c] at g
    exact zX_cv ho (zc79 (c := 23) (k := 2) hN hn he (by decide) (by decide) (zKI_v ⟨zB_01 _, g⟩))
  · rw [if_neg (by omega), if_neg (by omega), if_neg (by omega), if_neg (by omega), if_neg (by omega), if_neg (by omega), if_pos c] at g
    refine two 24 0 25 1 _ _ (by decide) (by decide) (by decide) (by decide) (orq _ _ _ (fun q => ⟨Or.inr rfl, ?_⟩) (fun q => ⟨Or.inl rfl, ?_⟩))
    · rw [q] at g; exact g
    · rw [q] at g; exact g
  · have c7 : ztc T = 7 := by
      have n0 : ∀ j, j ≤ 6 → nI (ztc T) ≠ nI j → ztc T ≠ j := fun j hj hn q => hn (by rw [q])
      have := n0 0 (by decide) hno.1
      have := n0 1 (by decide) hno.2.1
      have := n0 2 (by decide) hno.2.2.1
      have := n0 3 (by decide) hno.2.2.2.1
      have := n0 4 (by decide) hno.2.2.2.2.1
      have := n0 5 (by decide) hno.2.2.2.2.2.1
      have := n0 6 (by decide) hno.2.2.2.2.2.2
      omega
    rw [if_neg (by omega), if_neg (by omega), if_neg (by omega), if_neg (by omega), if_neg (by omega), if_neg (by omega), if_neg (by omega), if_pos c7] at g
    refine two 26 1 27 1 _ _ (by decide) (by decide) (by decide) (by decide) (orq _ _ _ (fun q => ⟨Or.inr rfl, ?_⟩) (fun q => ⟨Or.inl rfl, ?_⟩))
    · rw [q] at g; exact g
    · rw [q] at g; exact g
end MIC
section MIF
variable {xs : List Value} {N : List zNt}
/-- two nodes that are of one simple type -/
theorem zkid_w {i : Nat} {e : zNt} {c : Nat} (hg : zGd N) (he : N[i]? = some e) (hw : zisw e c 2 = true) : zchn N (eM e) (i + 1) = [i + 1, znx N (i + 1)] ∧ (znx N (i + 1) == i + 1) = false ∧ zrw N i = .add (.div (.arg c) (zrw N (i + 1))) (zrw N (znx N (i + 1))) ∧ i + 1 < N.length ∧ znx N (i + 1) < N.length := by
  obtain ⟨w1, w2, w3⟩ := zisw_ok hw
  have hfus := zGd_k hg he
  rw [w3] at hfus
  obtain ⟨q1, q2, q3⟩ := zfuls_2 hfus
  have l1 := zful_lt q1
  have l2 := zful_lt q2
  have hc : zchn N (eM e) (i + 1) = [i + 1, znx N (i + 1)] := by rw [w3]; rfl
  refine ⟨hc, beq_false_of_ne (by omega), ?_, by omega, by omega⟩
  rw [zrw_eq hg.1.1 he, if_neg (by omega), if_neg (by omega), if_neg (by omega), hc, w2]
  first | done | rfl
theorem zMi_simp (hg : zGd N) : ∀ (K : Term) (i j : Nat), zTok K → ztsim K = true → zMi N i false K = none → zMi N j false K = none → zSimp (zrw N i) (zrw N j) := by
  intro K
  have unf : ∀ (K : Term) (i : Nat), zMi N i false K = none → ∃ e, N[i]? = some e ∧ zfit false K e = true ∧ zfst ((zchn N (eM e) (i + 1)).map fun j => zMi N j (zpt false K e (j == i + 1)).1 (zpt false K e (j == i + 1)).2) = none := by
    intro K i hm
    rw [zMi_eq hg.1.1] at hm
    unfold zmiB at hm
    cases he : N[i]? with
    | none => rw [he] at hm; cases hm
    | some e =>
      rw [he] at hm
      dsimp only at hm
      split at hm
      · cases hm
      · rename_i hf
        rw [if_neg (by decide)] at hm
        exact ⟨e, rfl, by cases hq : zfit false K e; exact absurd hq hf; rfl, hm⟩
  fun_induction ztsim K with
  | case1 c =>
    intro i j hk hs h1 h2
    have hc : 1 ≤ c ∧ c ≤ 4 := of_decide_eq_true hs
    obtain ⟨e, he, hf, _⟩ := unf _ i h1
    obtain ⟨u, hu, hg2, _⟩ := unf _ j h2
    unfold zfit at hf hg2
    have hcc : ztc (.arg c) = c := rfl
    rw [hcc, if_neg (by decide), if_neg (by omega)] at hf hg2
    by_cases c1 : c = 1
    · rw [if_pos c1] at hf hg2
      have one : ∀ (i : Nat) (e : zNt), N[i]? = some e → (zisw e 21 0 || zisw e 22 0) = true → ∃ c, zrw N i = .arg c ∧ (c = 21 ∨ c = 22) := by
        intro i e he hw
        have : ∃ c, zisw e c 0 = true ∧ (c = 21 ∨ c = 22) := by
          cases hq : zisw e 21 0 with
          | true => exact ⟨21, hq, Or.inl rfl⟩
          | false => rw [hq] at hw; exact ⟨22, by simpa using hw, Or.inr rfl⟩
        obtain ⟨c, hw, hc⟩ := this
        obtain ⟨w1, w2, w3⟩ := zisw_ok hw
        refine ⟨c, ?_, hc⟩
        rw [zrw_eq hg.1.1 he, if_neg (by omega), if_neg (by omega), if_neg (by omega), w3, w2]
        first | done | rfl
      obtain ⟨a, ha, ha2⟩ := one i e he hf
      obtain ⟨b, hb, hb2⟩ := one j u hu hg2
      rw [ha, hb]
      exact ⟨ha2, hb2⟩
    · rw [if_neg c1] at hf hg2
      have num : ∀ (i : Nat) (e : zNt), N[i]? = some e → eS e = 0 → ∃ s n, zrw N i = .sub (.arg s) (.arg n) := fun i e he h0 => ⟨_, _, by rw [zrw_eq hg.1.1 he, if_pos h0]⟩
      have numc : eS e = 0 → eS u = 0 → zSimp (zrw N i) (zrw N j) := fun z1 z2 => by
        obtain ⟨s, n, e1⟩ := num i e he z1
        obtain ⟨t, m, e2⟩ := num j u hu z2
        rw [e1, e2]; trivial
      by_cases c2 : c = 2
      · rw [if_pos c2] at hf hg2
        exact numc (eq_of_beq hf) (eq_of_beq hg2)
      · rw [if_neg c2] at hf hg2
        by_cases c3 : c = 3
        · rw [if_pos c3] at hf hg2
          simp at hf hg2
          exact numc hf.1 hg2.1
        · rw [if_neg c3, if_pos (by omega)] at hf hg2
          have z1 := eq_of_beq hf
          have z2 := eq_of_beq hg2
          rw [zrw_eq hg.1.1 he, zrw_eq hg.1.1 hu, if_neg (by omega), if_pos z1, if_neg (by omega), if_pos z2]
          trivial
  | case2 c a b ih1 ih2 =>
    intro i j hk hs h1 h2
    simp at hs
    obtain ⟨⟨hc5, hsa⟩, hsb⟩ := hs
    subst hc5
    obtain ⟨_, ka, kb⟩ := hk
    have fitp : ∀ e, zfit false (.add (.div (.arg 5) a) b) e = zisw e 23 2 := fun e => rfl
    have ptp : ∀ e fst, zpt false (.add (.div (.arg 5) a) b) e fst = (false, if fst = true then a else b) := fun e fst => by cases fst <;> rfl
    have parts : ∀ (i : Nat), zMi N i false (.add (.div (.arg 5) a) b) = none → ∃ p q, zrw N i = .add (.div (.arg 23) (zrw N p)) (zrw N q) ∧ zMi N p false a = none ∧ zMi N q false b = none := by
      intro i hm
      obtain ⟨e, he, hf, hk⟩ := unf _ i hm
      rw [fitp] at hf
      obtain ⟨q1, q2, q3, _⟩ := zkid_w hg he hf
      rw [q1] at hk
      simp only [List.map_cons, List.map_nil, zfst, ptp] at hk
      rw [q2, beq_self_eq_true] at hk
      simp only [if_true, if_false] at hk
      refine ⟨_, _, q3, ?_⟩
      cases hp : zMi N (i + 1) false a with
      | some x => rw [hp] at hk; cases hk
      | none =>
        rw [hp] at hk
        refine ⟨rfl, ?_⟩
        cases hq : zMi N (znx N (i + 1)) false b with
        | some x =>
          have : zor none (zor (some x) none) = none := by rw [← hq]; exact hk
          cases this
        | none => rfl
    obtain ⟨p, q, e1, e2, e3⟩ := parts i h1
    obtain ⟨p', q', e1', e2', e3'⟩ := parts j h2
    rw [e1, e1']
    exact ⟨⟨rfl, rfl⟩, ih1 p p' ka hsa e2 e2', ih2 q q' kb hsb e3 e3'⟩
  | case3 => intro i j hk hs; cases hs
theorem zoi_none {o : Option Nat} (hb : ∀ x, o = some x → x < 2 ^ 31) : zoi o = -1 ↔ o = none := by
  cases o with
  | none => exact ⟨fun _ => rfl, fun _ => rfl⟩
  | some x =>
    refine ⟨fun z => ?_, fun z => by cases z⟩
    have := nI_pos (n := x) (hb x rfl)
    have z : nI x = -1 := z
    rw [z] at this
    exact absurd (by decide) this
theorem zFp_lt (hg : zNg N) (i : Nat) : zFp N i < 2000 := by
  unfold zFp
  cases he : N[i]? with
  | none => show 0 < 2000; decide
  | some e => exact (hg.2 i e he).2.2.2.1
theorem zfst_some : ∀ {l : List (Option Nat)} {x : Nat}, zfst l = some x → some x ∈ l
  | [], x, h => by cases h
  | none :: l, x, h => List.mem_cons_of_mem _ (zfst_some h)
  | some y :: l, x, h => by cases h; exact List.mem_cons_self
theorem zMi_lt (hg : zNg N) : ∀ (n i : Nat) (kd : Bool) (T : Term) (x : Nat), N.length ≤ n + i → zMi N i kd T = some x → x < 2000
  | 0, i, kd, T, x, hn, h => by
    rw [zMi_eq hg.1] at h
    unfold zmiB at h
    rw [List.getElem?_eq_none (by omega)] at h
    cases h; decide
  | n + 1, i, kd, T, x, hn, h => by
    rw [zMi_eq hg.1] at h
    unfold zmiB at h
    cases he : N[i]? with
    | none => rw [he] at h; cases h; decide
    | some e =>
      rw [he] at h
      dsimp only at h
      split at h
      · cases h; exact (hg.2 i e he).2.2.2.1
      · split at h
        · cases h1 : zMi N (i + 1) false (zt1 T) with
          | some y => rw [h1] at h; cases h; exact zMi_lt hg n (i + 1) _ _ x (by omega) h1
          | none =>
            rw [h1] at h
            have h : zor (if zdis N i = true then some (zFp N (i + 1)) else none) (zMi N (znx N (i + 1)) false (zt2 T)) = some x := h
            split at h
            · cases h; exact zFp_lt hg _
            · exact zMi_lt hg n _ _ _ x (by have := znx_ge (N := N) (i := i + 1); omega) h
        · have := zfst_some h
          obtain ⟨j, hj, hjx⟩ := List.mem_map.mp this
          have := zchn_ge _ _ _ hj
          exact zMi_lt hg n j _ _ x (by omega) hjx
/-- misfit, for nodes less deep than f -/
def zMfP (xs : List Value) (N : List zNt) (f : Nat) : Prop := ∀ (i a t D : Nat) (T : Term) (h : zH) (Q : zO → zH → Prop), 20 + 2 * f ≤ D → zNd h N f i a → zTyp h T t → zTs T → Q (.inl (some (.int (zoi (zMi N i false T))))) h → zG xs D (76, 0, lv_args 0 [zo (some t), zo (some a)], []) h Q
theorem zNd_own {h : zH} {f i a : Nat} (hn : zNd h N f i a) : ∃ fs, zown h a = some (.inr (4, fs)) := by
  cases f with
  | zero => exact hn.elim
  | succ f => obtain ⟨e', ps, r, pv, he', ho, _⟩ := zNd_at hn; exact ⟨_, ho⟩
theorem zTyp_own {h : zH} {T : Term} {t : Nat} (ht : zTyp h T t) : ∃ fs, zown h t = some (.inr (7, fs)) := by
  obtain ⟨_, p, q, ho, _⟩ := zTyp_at T t ht
  exact ⟨_, ho⟩
theorem zc77 {f i a t D : Nat} {T : Term} {h : zH} {Q : zO → zH → Prop} (hg : zGd N) (IH : zMfP xs N f) (hD : 21 + 2 * f ≤ D) (hn : zNd h N (f + 1) i a) (ht : zTyp h T t) (hs : zTs T) (hc : ztc T = 8) (q : Q (.inl (some (.int (zoi (zMi N i false T))))) h) : zG xs D (77, 0, lv_args 0 [zo (some t), zo (some a)], []) h Q := by
  obtain ⟨d, rfl⟩ : ∃ d, D = d + 1 := ⟨D - 1, by omega⟩
  obtain ⟨e, ps, r, pv, he, ho, hr, hl, hfu, hfus, hval, hch⟩ := zNd_at hn
  obtain ⟨n1, n2, n3, n4, _⟩ := hg.1.2 i e he
  obtain ⟨ft, hto⟩ := zTyp_own ht
  have spec := zMi_eq hg.1.1 i false T
  unfold zmiB at spec
  rw [he] at spec
  dsimp only at spec
  have hfit : zfit false T e = (eS e == 2) := by unfold zfit; rw [hc]; rfl
  have hpt : ∀ fst, zpt false T e fst = (false, zt1 T) := fun fst => by unfold zpt; rw [hc]; rfl
  simp only [hfit, hpt] at spec
  refine zm_77 (fun m l0 l1 l2 l3 h1 => ∃ (k : Nat) (o : Option Nat), m = eM e - k ∧ l0 = some t ∧ l1 = some a ∧ l2 = zoi o ∧ l3 = nI k ∧ h1 = h ∧ k ≤ eM e ∧ (∀ x, o = some x → x < 2 ^ 31) ∧ zMi N i false T = zor o (zfst (((zchn N (eM e) (i + 1)).drop k).map fun j => zMi N j false (zt1 T)))) ?_ ?_
  · rintro m l0 l1 l2 l3 h1 ⟨k, o, rfl, rfl, rfl, rfl, rfl, rfl, hk, hox, hz⟩
    refine zNd_gN hn he (pk_lt k (eM e) (fun hlt => ?_) (fun hge => ?_))
    · refine ⟨fun z => ?_, fun z => ?_⟩
      · have ho0 := (zoi_none hox).mp z
        subst ho0
        refine zX_cv hto (zc10 ht (fun b hb => zKR_v (zX_cv ho (zc46 hn he hlt (by omega) (fun p j hj hp => zKR_v ?_)))))
        obtain ⟨fb, hbo⟩ := zTyp_own hb
        refine zX_cv hbo (IH j p b d (zt1 T) _ _ (by omega) hp hb (zTs_1 hs) (zKI_v ?_))
        intro x14 hx
        rw [hx, nI_1]
        refine ⟨eM e - (k + 1), by omega, k + 1, zMi N j false (zt1 T), rfl, rfl, rfl, rfl, rfl, rfl, by omega, fun x hx => by have := zMi_lt hg.1 N.length j false (zt1 T) x (by omega) hx; omega, ?_⟩
        rw [hz]
        have hjl := (List.getElem?_eq_some_iff.mp hj)
        obtain ⟨hjl, hje⟩ := hjl
        rw [List.drop_eq_getElem_cons hjl, hje, List.map_cons, zfst]
        rfl
      · cases o with
        | none => exact absurd rfl z
        | some x =>
          have : zMi N i false T = some x := hz
          rw [this] at q
          exact q
    · have hke : k = eM e := by omega
      rw [List.drop_eq_nil_of_le (by rw [zchn_len]; omega)] at hz
      have : zMi N i false T = o := by rw [hz]; cases o <;> rfl
      rw [this] at q
      exact q
  · refine zNd_gS hn he (pk_eq (if eS e = 3 then 4 else eS e) 2 (fun z => ?_) (fun z => ?_) rfl rfl (by split <;> omega))
    · have h2 : eS e = 2 := by split at z <;> omega
      rw [h2, if_neg (by decide), if_neg (by decide)] at spec
      refine ⟨_, 0, none, rfl, rfl, rfl, rfl, rfl, rfl, Nat.zero_le _, fun x hx => (by cases hx), ?_⟩
      rw [spec, List.drop_zero]; rfl
    · have h2 : eS e ≠ 2 := by intro q; rw [q] at z; exact z rfl
      rw [if_pos (beq_false_of_ne h2)] at spec
      refine zNd_gF hn ?_
      rw [spec] at q
      have : zFp N i = eF e := by unfold zFp; rw [he]
      rw [this]
      exact q
end MIF
section MIG
variable {xs : List Value} {N : List zNt}
theorem zdis_0 {i q k : Nat} {e : zNt} (hg : zGd N) (he : N[i]? = some e) (hq : (zchn N (eM e) (i + 1))[0]? = some q) (hk : k = k) : zdis N q = false := by
  obtain ⟨eq, h1, h2⟩ := hg.2.1 i e he q (List.mem_of_getElem? hq)
  unfold zdis
  rw [h1]
  dsimp only
  rw [h2]
  unfold zprv
  rw [he]
  dsimp only
  rw [zpv_0 _ _ (zchn_inc _ _ _ (zGd_k hg he)) hq]
theorem zdis_s {i b q k : Nat} {e : zNt} (hg : zGd N) (he : N[i]? = some e) (hb : (zchn N (eM e) (i + 1))[k]? = some b) (hq : (zchn N (eM e) (i + 1))[k + 1]? = some q) : zdis N q = !(decide (zcmp (zrw N (b + 1)) (zrw N (q + 1)) < 0)) := by
  obtain ⟨eq, h1, h2⟩ := hg.2.1 i e he q (List.mem_of_getElem? hq)
  unfold zdis
  rw [h1]
  dsimp only
  rw [h2]
  unfold zprv
  rw [he]
  dsimp only
  rw [zpv_s _ _ _ _ (zchn_inc _ _ _ (zGd_k hg he)) hb hq]
theorem zTs_k {h : zH} {T : Term} {t : Nat} (hs : zTs T) (ht : zTyp h T t) (hc : ztc T = 9 ∨ ztc T = 10) : ztsim (zt1 T) = true ∧ zTok (zt1 T) := by
  have hk := (zTyp_at T t ht).1
  unfold zTok at hk
  split at hk
  · rename_i c; have : c = 9 ∨ c = 10 := hc; omega
  · rename_i c x; have : c = 9 ∨ c = 10 := hc; omega
  · exact ⟨hs.1 hc, hk.2.1⟩
  · exact hk.elim
theorem zc78 {f i a t D : Nat} {T : Term} {h : zH} {Q : zO → zH → Prop} (hg : zGd N) (hf200 : f ≤ 100) (IH0 : ∀ g, g ≤ f → zMfP xs N g) (hD : 21 + 2 * f ≤ D) (hn : zNd h N (f + 1) i a) (ht : zTyp h T t) (hs : zTs T) (hc : ztc T = 9 ∨ ztc T = 10) (q : Q (.inl (some (.int (zoi (zMi N i false T))))) h) : zG xs D (78, 0, lv_args 0 [zo (some t), zo (some a)], []) h Q := by
  obtain ⟨d, rfl⟩ : ∃ d, D = d + 2 := ⟨D - 2, by omega⟩
  obtain ⟨e, ps, r, pv, he, ho, hr, hl, hfu, hfus, hval, hch⟩ := zNd_at hn
  obtain ⟨n1, n2, n3, n4, _⟩ := hg.1.2 i e he
  obtain ⟨ft, hto⟩ := zTyp_own ht
  obtain ⟨hks, hkt⟩ := zTs_k hs ht hc
  have spec := zMi_eq hg.1.1 i false T
  unfold zmiB at spec
  rw [he] at spec
  dsimp only at spec
  have hfit : zfit false T e = (eS e == 2) := by unfold zfit; rcases hc with z | z <;> rw [z] <;> rfl
  have hpt : ∀ fst, zpt false T e fst = (true, T) := fun fst => by unfold zpt; rw [if_neg (by decide), if_pos hc]
  simp only [hfit, hpt] at spec
  refine zm_78 (fun m l0 l1 l2 l3 h1 => ∃ (k : Nat), m = eM e - k ∧ l0 = some t ∧ l1 = some a ∧ l3 = nI k ∧ h1 = h ∧ k ≤ eM e ∧ zMi N i false T = zfst (((zchn N (eM e) (i + 1)).drop k).map fun j => zMi N j true T) ∧ ((k = 0 ∧ l2 = none) ∨ ∃ k' b pv, k = k' + 1 ∧ (zchn N (eM e) (i + 1))[k']? = some b ∧ l2 = some pv ∧ zVal h (zrw N (b + 1)) (.inl pv) ∧ zMi N (b + 1) false (zt1 T) = none ∧ zdep (zrw N (b + 1)) ≤ f)) ?_ ?_
  · rintro m l0 l1 l2 l3 h1 ⟨k, rfl, rfl, rfl, rfl, rfl, hk, hz, hkb⟩
    refine zNd_gN hn he (pk_lt k (eM e) (fun hlt => ?_) (fun hge => ?_))
    · refine zX_cv ho (zc46 hn he hlt (by omega) (fun p qn hj hp => zKR_v ?_))
      cases f with
      | zero => exact hp.elim
      | succ f =>
      obtain ⟨e2, ps2, r2, pv2, he2, ho2, hr2, hl2, hfu2, hfus2, hval2, hch2⟩ := zNd_at hp
      obtain ⟨m1, m2, m3, m4, _⟩ := hg.1.2 qn e2 he2
      have hdrop : ((zchn N (eM e) (i + 1)).drop k) = qn :: ((zchn N (eM e) (i + 1)).drop (k + 1)) := by
        obtain ⟨hjl, hje⟩ := List.getElem?_eq_some_iff.mp hj
        rw [List.drop_eq_getElem_cons hjl, hje]
      have hz2 : zMi N i false T = zor (zMi N qn true T) (zfst (((zchn N (eM e) (i + 1)).drop (k + 1)).map fun j => zMi N j true T)) := by rw [hz, hdrop, List.map_cons, zfst]
      have espec := zMi_eq hg.1.1 qn true T
      unfold zmiB at espec
      rw [he2] at espec
      dsimp only at espec
      have efit : zfit true T e2 = zisw e2 28 2 := rfl
      rw [efit, if_pos (show true = true from rfl)] at espec
      refine zX_cv ho2 (zc79 (c := 28) (k := 2) hg.1 hp he2 (by decide) (by decide) (zKI_v ⟨fun z => ?_, fun z => ?_⟩))
      · rw [if_pos (zB_0.mp z)] at espec
        refine zNd_gF hp ?_
        rw [hz2, espec] at q
        have : zFp N qn = eF e2 := by unfold zFp; rw [he2]
        rw [this]
        exact q
      · have hw : zisw e2 28 2 = true := by cases hq : zisw e2 28 2; exact absurd (by rw [hq]; rfl) z; rfl
        rw [if_neg (by rw [hw]; decide)] at espec
        obtain ⟨w1, w2, w3⟩ := zisw_ok hw
        have hk0 : zkid N qn 0 = qn + 1 := rfl
        have hk1 : zkid N qn 1 = znx N (qn + 1) := rfl
        refine zX_cv ho2 (zc46k (k := 0) hp he2 (by omega) (by decide) (by omega) (fun p0 hp0 => zKR_v ?_))
        rw [hk0] at hp0
        obtain ⟨f0, ho0⟩ := zNd_own hp0
        refine zX_cv hto (zc10 ht (fun b hb => zKR_v ?_))
        obtain ⟨fb, hbo⟩ := zTyp_own hb
        refine zX_cv hbo (IH0 f (by omega) (qn + 1) p0 b (d + 1) (zt1 T) _ _ (by omega) hp0 hb (zTs_1 hs) (zKI_v ?_))
        have bd1 : ∀ x, zMi N (qn + 1) false (zt1 T) = some x → x < 2 ^ 31 := fun x hx => by have := zMi_lt hg.1 N.length _ _ _ x (by omega) hx; omega
        -- refused
        have c98x : ∀ (x : Nat) (J), x < 2 ^ 31 → zMi N qn true T = some x → zw_78_98 xs (d + 2) Q J (some t) (some a) (nI k) (some p) (some p0) (nI x) h1 := by
          intro x J hx he3
          have hne : ¬ nI x = -1 := fun z => by have := nI_pos hx; rw [z] at this; exact this (by decide)
          refine ⟨fun z => absurd z hne, fun _ => ⟨fun z => absurd z hne, fun _ => ?_⟩⟩
          rw [hz2, he3] at q
          exact q
        have c98n : zMi N (qn + 1) false (zt1 T) = none → zdis N qn = false → zw_78_98 xs (d + 2) Q (fun l0 l1 l2 l3 h2 => ∃ n1, n1 < eM e - k ∧ ∃ (k : Nat), n1 = eM e - k ∧ l0 = some t ∧ l1 = some a ∧ l3 = nI k ∧ h2 = h1 ∧ k ≤ eM e ∧ zMi N i false T = zfst (((zchn N (eM e) (i + 1)).drop k).map fun j => zMi N j true T) ∧ ((k = 0 ∧ l2 = none) ∨ ∃ k' b pv, k = k' + 1 ∧ (zchn N (eM e) (i + 1))[k']? = some b ∧ l2 = some pv ∧ zVal h1 (zrw N (b + 1)) (.inl pv) ∧ zMi N (b + 1) false (zt1 T) = none ∧ zdep (zrw N (b + 1)) ≤ f + 1)) (some t) (some a) (nI k) (some p) (some p0) (-1) h1 := by
          intro hkn hdn
          rw [hkn, hdn] at espec
          have espec : zMi N qn true T = zMi N (znx N (qn + 1)) false (zt2 T) := espec
          refine ⟨fun _ => zX_cv hto (zc66 ht (fun b2 hb2 => zKR_v ?_)), fun z => absurd rfl z⟩
          obtain ⟨fb2, hbo2⟩ := zTyp_own hb2
          refine zX_cv ho2 (zc46k (k := 1) hp he2 (by omega) (by decide) (by omega) (fun p1 hp1 => zKR_v ?_))
          rw [hk1] at hp1
          refine zX_cv hbo2 (IH0 f (by omega) (znx N (qn + 1)) p1 b2 (d + 1) (zt2 T) _ _ (by omega) hp1 hb2 (zTs_2 hs) (zKI_v ?_))
          rw [← espec]
          have bd2 : ∀ x, zMi N qn true T = some x → x < 2 ^ 31 := fun x hx => by have := zMi_lt hg.1 N.length _ _ _ x (by omega) hx; omega
          refine ⟨fun z => ?_, fun z => ?_⟩
          · have hn0 := (zoi_none bd2).mp z
            rw [hn0] at hz2
            refine zNd_val hp0 (by omega) (fun pv0 hv0 => ?_)
            intro x7 hx7
            rw [hx7, nI_1]
            exact ⟨eM e - (k + 1), by omega, k + 1, rfl, rfl, rfl, rfl, rfl, by omega, hz2, Or.inr ⟨k, qn, pv0, rfl, hj, rfl, hv0, hkn, by
              have h1 : zrw N (qn + 1) = zraw N f (qn + 1) := zraw_up f 200 (qn + 1) p0 hp0 (by omega)
              rw [h1]
              have := zdep_raw (N := N) f (qn + 1)
              omega⟩⟩
          · cases ho3 : zMi N qn true T with
            | none => rw [ho3] at z; exact absurd rfl z
            | some x => rw [hz2, ho3] at q; exact q
        refine ⟨fun z => ?_, fun z => ?_⟩
        · have hkn := (zoi_none bd1).mp z
          rw [hkn]
          refine ⟨fun zl => ?_, fun zl => ?_⟩
          · rcases hkb with ⟨k0, _⟩ | ⟨k', b', pv', k1, k2, k3, k4⟩
            · rw [k0] at hj
              exact c98n hkn (zdis_0 (k := 0) hg he hj rfl)
            · rw [k3] at zl; cases zl
          · rcases hkb with ⟨_, k0⟩ | ⟨k', b', pv', k1, k2, k3, k4, k5, hdep⟩
            · exact absurd k0 zl
            · subst k3
              rw [k1] at hj
              have hd := zdis_s hg he k2 hj
              refine zNd_val hp0 (by omega) (fun pv0 hv0 => ?_)
              have hsimp := zMi_simp hg (zt1 T) (b' + 1) (qn + 1) hkt hks k5 hkn
              refine ⟨d + 1, rfl, zc80 _ _ pv' pv0 d _ hsimp k4 hv0 (by omega) (zKI_v ⟨fun z2 => ?_, fun z2 => ?_⟩)⟩
              · rw [decide_eq_true z2] at hd
                exact c98n hkn hd
              · rw [decide_eq_false z2] at hd
                refine zNd_gF hp0 (c98x _ _ (by have := zFp_lt hg.1 (qn + 1); omega) ?_)
                rw [espec, hkn]
                show zor (if zdis N qn = true then some (zFp N (qn + 1)) else none) _ = _
                rw [hd]; rfl
        · cases ho3 : zMi N (qn + 1) false (zt1 T) with
          | none => rw [ho3] at z; exact absurd rfl z
          | some x =>
            refine c98x x _ (bd1 x ho3) ?_
            rw [espec, ho3]; rfl
    · rw [List.drop_eq_nil_of_le (by rw [zchn_len]; omega)] at hz
      rw [hz] at q
      exact q
  · refine zNd_gS hn he (pk_eq (if eS e = 3 then 4 else eS e) 2 (fun z => ?_) (fun z => ?_) rfl rfl (by split <;> omega))
    · have h2 : eS e = 2 := by split at z <;> omega
      rw [h2, if_neg (by decide), if_neg (by decide)] at spec
      refine ⟨_, 0, rfl, rfl, rfl, rfl, rfl, Nat.zero_le _, ?_, Or.inl ⟨rfl, rfl⟩⟩
      rw [spec, List.drop_zero]
    · have h2 : eS e ≠ 2 := by intro q; rw [q] at z; exact z rfl
      rw [if_pos (beq_false_of_ne h2)] at spec
      refine zNd_gF hn ?_
      rw [spec] at q
      have : zFp N i = eF e := by unfold zFp; rw [he]
      rw [this]
      exact q
theorem zc76 (hg : zGd N) : ∀ f, f ≤ 100 → zMfP xs N f
  | 0, _ => fun i a t D T h Q _ hn => hn.elim
  | f + 1, hf => by
    have IH0 : ∀ g, g ≤ f → zMfP xs N g := fun g hgf => zc76 hg g (by omega)
    intro i a t D T h Q hD hn ht hs q
    obtain ⟨d, rfl⟩ : ∃ d, D = d + 2 := ⟨D - 2, by omega⟩
    obtain ⟨e, ps, r, pv, he, ho, hr, hl, hfu, hfus, hval, hch⟩ := zNd_at hn
    obtain ⟨n1, n2, n3, n4, _⟩ := hg.1.2 i e he
    obtain ⟨ft, hto⟩ := zTyp_own ht
    have hFp : zFp N i = eF e := by unfold zFp; rw [he]
    refine zm_76 (zTyp_gc ht (fun hc10 => pk_eq (ztc T) 8 (fun h8 => ?_) (fun h8 => ?_)))
    · exact zX_cv hto (zc77 hg (IH0 f (Nat.le_refl _)) (by omega) hn ht hs h8 (zKI_v q))
    · refine zX_cv hto (zc64 ht (zKI_v ⟨fun z => ?_, fun z => ?_⟩))
      · have hnm : ztc T ≠ 9 ∧ ztc T ≠ 10 := by
          have := zB_0.mp z
          simp at this
          exact this
        have h7 : ztc T ≤ 7 := by omega
        have spec := zMi_eq hg.1.1 i false T
        unfold zmiB at spec
        rw [he] at spec
        dsimp only at spec
        rw [if_neg (show ¬ false = true by decide)] at spec
        have hk0 : zkid N i 0 = i + 1 := rfl
        have hk1 : zkid N i 1 = znx N (i + 1) := rfl
        refine zX_cv hto (zc85 hg.1 (by omega) hn he ht h7 (zKI_v ⟨fun z2 => ?_, fun z2 => ?_⟩))
        · rw [if_pos (zB_0.mp z2)] at spec
          refine zNd_gF hn ?_
          rw [hFp]
          rw [spec] at q
          exact q
        · have hfit : zfit false T e = true := by cases hq : zfit false T e; exact absurd (by rw [hq]; rfl) z2; rfl
          rw [if_neg (by rw [hfit]; decide)] at spec
          refine zTyp_gc ht (fun _ => pk_eq (ztc T) 5 (fun h5 => ?_) (fun h5 => ?_))
          · have hw : zisw e 23 2 = true := by unfold zfit at hfit; rw [h5] at hfit; exact hfit
            obtain ⟨c1, c2, c3, _⟩ := zkid_w hg he hw
            obtain ⟨w1, w2, w3⟩ := zisw_ok hw
            have hpt : ∀ fst, zpt false T e fst = (false, if fst = true then zt1 T else zt2 T) := fun fst => by unfold zpt; rw [h5]; cases fst <;> rfl
            rw [c1] at spec
            simp only [List.map_cons, List.map_nil, zfst, hpt] at spec
            rw [c2, beq_self_eq_true] at spec
            simp only [if_true] at spec
            have spec : zMi N i false T = zor (zMi N (i + 1) false (zt1 T)) (zor (zMi N (znx N (i + 1)) false (zt2 T)) none) := spec
            refine zX_cv hto (zc10 ht (fun b hb => zKR_v (zX_cv ho (zc46k (k := 0) hn he (by omega) (by decide) (by omega) (fun p hp => zKR_v ?_)))))
            rw [hk0] at hp
            obtain ⟨fb, hbo⟩ := zTyp_own hb
            have bd1 : ∀ x, zMi N (i + 1) false (zt1 T) = some x → x < 2 ^ 31 := fun x hx => by have := zMi_lt hg.1 N.length _ _ _ x (by omega) hx; omega
            refine zX_cv hbo (IH0 f (Nat.le_refl _) (i + 1) p b (d + 1) (zt1 T) _ _ (by omega) hp hb (zTs_1 hs) (zKI_v ⟨fun z3 => ?_, fun z3 => ?_⟩))
            · rw [(zoi_none bd1).mp z3] at spec
              have spec : zMi N i false T = zMi N (znx N (i + 1)) false (zt2 T) := by
                rw [spec]
                cases zMi N (znx N (i + 1)) false (zt2 T) <;> rfl
              refine zX_cv hto (zc66 ht (fun b2 hb2 => zKR_v (zX_cv ho (zc46k (k := 1) hn he (by omega) (by decide) (by omega) (fun p1 hp1 => zKR_v ?_)))))
              rw [hk1] at hp1
              obtain ⟨fb2, hbo2⟩ := zTyp_own hb2
              refine zX_cv hbo2 (IH0 f (Nat.le_refl _) (znx N (i + 1)) p1 b2 (d + 1) (zt2 T) _ _ (by omega) hp1 hb2 (zTs_2 hs) (zKI_v ?_))
              rw [← spec]
              exact q
            · cases ho3 : zMi N (i + 1) false (zt1 T) with
              | none => rw [ho3] at z3; exact absurd rfl z3
              | some x => rw [ho3] at spec; rw [spec] at q; exact q
          · refine zNd_gN hn he (pk_eq (eM e) 0 (fun hm => ?_) (fun hm => ?_))
            · rw [hm] at spec
              have : zMi N i false T = none := spec
              rw [this] at q
              exact q
            · -- one part
              have hw : ∃ c, zisw e c 1 = true := by
                unfold zfit at hfit
                rw [if_neg (by decide)] at hfit
                split at hfit
                · exact absurd (zisw_ok hfit).2.2 hm
                · split at hfit
                  · rcases Bool.or_eq_true _ _ |>.mp hfit with w | w
                    · exact absurd (zisw_ok w).2.2 hm
                    · exact absurd (zisw_ok w).2.2 hm
                  · split at hfit
                    · have h0 := eq_of_beq hfit; exact absurd ((hg.1.2 i e he).2.2.2.2.1 h0).1 hm
                    · split at hfit
                      · have h0 : eS e = 0 := by simp at hfit; exact hfit.1
                        exact absurd ((hg.1.2 i e he).2.2.2.2.1 h0).1 hm
                      · split at hfit
                        · have h0 := eq_of_beq hfit; exact absurd ((hg.1.2 i e he).2.2.2.2.2.1 h0).1 hm
                        · split at hfit
                          · rcases Bool.or_eq_true _ _ |>.mp hfit with w | w
                            · exact absurd (zisw_ok w).2.2 hm
                            · exact ⟨_, w⟩
                          · split at hfit
                            · rcases Bool.or_eq_true _ _ |>.mp hfit with w | w
                              · exact ⟨_, w⟩
                              · exact ⟨_, w⟩
                            · omega
              obtain ⟨c, hw⟩ := hw
              obtain ⟨w1, w2, w3⟩ := zisw_ok hw
              have hc1 : zchn N (eM e) (i + 1) = [i + 1] := by rw [w3]; rfl
              have c67 : ztc T = 6 ∨ ztc T = 7 := by
                unfold zfit at hfit
                rw [if_neg (by decide)] at hfit
                split at hfit
                · exact absurd (zisw_ok hfit).2.2 hm
                · split at hfit
                  · rcases Bool.or_eq_true _ _ |>.mp hfit with w | w
                    · exact absurd (zisw_ok w).2.2 hm
                    · exact absurd (zisw_ok w).2.2 hm
                  · split at hfit
                    · have h0 := eq_of_beq hfit; omega
                    · split at hfit
                      · have h0 : eS e = 0 := by simp at hfit; exact hfit.1
                        omega
                      · split at hfit
                        · have h0 := eq_of_beq hfit; omega
                        · omega
              have hpt : zpt false T e true = (false, if ztc T = 7 ∧ eC e = 27 then zt2 T else zt1 T) := by
                unfold zpt
                rw [if_neg (by decide), if_neg (by omega)]
                by_cases z7 : ztc T = 7 ∧ eC e = 27
                · rw [if_pos z7, if_pos (Or.inr z7)]
                · rw [if_neg z7, if_neg (by simp; intro a b; exact z7 ⟨a, b⟩)]
              rw [hc1] at spec
              simp only [List.map_cons, List.map_nil, zfst] at spec
              rw [beq_self_eq_true, hpt] at spec
              have spec : zMi N i false T = zMi N (i + 1) false (if ztc T = 7 ∧ eC e = 27 then zt2 T else zt1 T) := by
                rw [spec]
                show zor (zMi N (i + 1) false (if ztc T = 7 ∧ eC e = 27 then zt2 T else zt1 T)) none = _
                cases zMi N (i + 1) false (if ztc T = 7 ∧ eC e = 27 then zt2 T else zt1 T) <;> rfl
              refine zNd_gC hn he ?_
              rw [if_pos w1]
              refine pk_eq (eC e) 27 (fun h27 => ?_) (fun h27 => ?_)
              · have h7' : ztc T = 7 := by
                  rcases c67 with z6 | z7
                  · unfold zfit at hfit
                    rw [z6] at hfit
                    rcases Bool.or_eq_true _ _ |>.mp hfit with w | w
                    · exact absurd (zisw_ok w).2.2 hm
                    · have := (zisw_ok w).2.1; omega
                  · exact z7
                rw [if_pos ⟨h7', h27⟩] at spec
                refine zX_cv hto (zc66 ht (fun b2 hb2 => zKR_v (zX_cv ho (zc46k (k := 0) hn he (by omega) (by decide) (by omega) (fun p1 hp1 => zKR_v ?_)))))
                rw [hk0] at hp1
                obtain ⟨fb2, hbo2⟩ := zTyp_own hb2
                refine zX_cv hbo2 (IH0 f (Nat.le_refl _) (i + 1) p1 b2 (d + 1) (zt2 T) _ _ (by omega) hp1 hb2 (zTs_2 hs) (zKI_v ?_))
                rw [← spec]
                exact q
              · rw [if_neg (fun z => h27 z.2)] at spec
                refine zX_cv hto (zc10 ht (fun b2 hb2 => zKR_v (zX_cv ho (zc46k (k := 0) hn he (by omega) (by decide) (by omega) (fun p1 hp1 => zKR_v ?_)))))
                rw [hk0] at hp1
                obtain ⟨fb2, hbo2⟩ := zTyp_own hb2
                refine zX_cv hbo2 (IH0 f (Nat.le_refl _) (i + 1) p1 b2 (d + 1) (zt1 T) _ _ (by omega) hp1 hb2 (zTs_1 hs) (zKI_v ?_))
                rw [← spec]
                exact q
      · have hm : ztc T = 9 ∨ ztc T = 10 := by
          cases hq : (ztc T == 9 || ztc T == 10) with
          | false => rw [hq] at z; exact absurd rfl z
          | true => simp at hq; exact hq
        exact zX_cv hto (zc78 hg (by omega) IH0 (by omega) hn ht hs hm (zKI_v q))
end MIG
