/-! types as the reference reads them: backwards, every node, and the refusal that comes first -/
def zisg (N : List zNt) (n : Nat) (st : Bool) (m : Nat) (e : zNt) : Bool := zist e && (eC e != 10 || (st && m == n + 1 && (match N[n]? with
  | some e0 => eC e0 == 5
  | none => false)))
def zgB (N : List zNt) (n : Nat) (st : Bool) (r : Nat → Term) (m : Nat) : Term := match N[m]? with
  | none => .arg 0
  | some e => if zisg N n st m e = true then (if eM e = 0 then .arg (eC e) else if eM e = 1 then .div (.arg (eC e)) (r (m + 1)) else .add (.div (.arg (eC e)) (r (m + 1))) (r (znx N (m + 1)))) else .arg 0
def zTg (N : List zNt) (n : Nat) (st : Bool) : Nat → Term := zfix (.arg 0) (zgB N n st) 200
theorem zTg_eq {N : List zNt} (hN : N.length ≤ 100) (n : Nat) (st : Bool) (m : Nat) : zTg N n st m = zgB N n st (zTg N n st) m := by
  have := zfix_eq (bot := .arg 0) (body := zgB N n st) (n := N.length) (g := 200) (i := m) (fun r i hi => by
    unfold zgB; rw [List.getElem?_eq_none hi]) (fun r r' i hr => by
    unfold zgB
    rw [hr (i + 1) (by omega), hr (znx N (i + 1)) (by have := znx_ge (N := N) (i := i + 1); omega)]) (by omega)
  exact this
/-- when node m is refused, and at which place -/
def zev (N : List zNt) (n : Nat) (st : Bool) (m : Nat) : Option (Nat × Nat) := match N[m]? with
  | none => none
  | some e => if zisg N n st m e = true then
      (if 9 ≤ eC e ∧ ztsim (zTg N n st (m + 1)) = false then some (100 * znx N (m + 1) + 98, zFp N (m + 1))
      else if 7 < ztdep (zTg N n st m) then some (100 * znx N m + 99 - m, eF e) else none)
    else some (100 * m + 99, eF e)
def zmin1 (a e : Option (Nat × Nat)) : Option (Nat × Nat) := match e with
  | none => a
  | some q => match a with
    | none => some q
    | some p => if q.1 < p.1 then some q else some p
theorem zmin1_assoc (a b c : Option (Nat × Nat)) : zmin1 (zmin1 a b) c = zmin1 a (zmin1 b c) := by
  rcases a with _ | ⟨a1, a2⟩ <;> rcases b with _ | ⟨b1, b2⟩ <;> rcases c with _ | ⟨c1, c2⟩ <;> try rfl
  · show zmin1 (some (b1, b2)) (some (c1, c2)) = zmin1 none (if c1 < b1 then some (c1, c2) else some (b1, b2))
    split <;> (rename_i h; first | exact if_pos h | exact if_neg h)
  · show zmin1 (if b1 < a1 then some (b1, b2) else some (a1, a2)) (some (c1, c2)) = zmin1 (some (a1, a2)) (if c1 < b1 then some (c1, c2) else some (b1, b2))
    by_cases h1 : b1 < a1 <;> by_cases h2 : c1 < b1
    · rw [if_pos h1, if_pos h2]
      show (if c1 < b1 then some (c1, c2) else _) = (if c1 < a1 then some (c1, c2) else _)
      rw [if_pos h2, if_pos (by omega)]
    · rw [if_pos h1, if_neg h2]
      show (if c1 < b1 then _ else some (b1, b2)) = (if b1 < a1 then some (b1, b2) else _)
      rw [if_neg h2, if_pos h1]
    · rw [if_neg h1, if_pos h2]
      first | done | rfl
    · rw [if_neg h1, if_neg h2]
      show (if c1 < a1 then _ else some (a1, a2)) = (if b1 < a1 then _ else some (a1, a2))
      rw [if_neg (by omega), if_neg h1]
theorem zmin1_none (b : Option (Nat × Nat)) : zmin1 none b = b := by cases b <;> rfl
/-- the first of the k nodes ahead of hi -/
def zbst (ev : Nat → Option (Nat × Nat)) (a : Option (Nat × Nat)) (hi : Nat) : Nat → Option (Nat × Nat)
  | 0 => a
  | k + 1 => zmin1 (zbst ev a hi k) (ev (hi - (k + 1)))
theorem zbst_add {ev : Nat → Option (Nat × Nat)} {a : Option (Nat × Nat)} {hi : Nat} (k1 : Nat) : ∀ k2, zbst ev a hi (k1 + k2) = zbst ev (zbst ev a hi k1) (hi - k1) k2
  | 0 => rfl
  | k2 + 1 => by
    show zmin1 (zbst ev a hi (k1 + k2)) (ev (hi - (k1 + k2 + 1))) = zmin1 _ _
    rw [zbst_add k1 k2, show hi - (k1 + k2 + 1) = hi - k1 - (k2 + 1) by omega]
theorem zbst_acc {ev : Nat → Option (Nat × Nat)} {a : Option (Nat × Nat)} {hi : Nat} : ∀ k, zbst ev a hi k = zmin1 a (zbst ev none hi k)
  | 0 => by cases a <;> rfl
  | k + 1 => by
    show zmin1 (zbst ev a hi k) _ = zmin1 a (zmin1 (zbst ev none hi k) _)
    rw [zbst_acc k, zmin1_assoc]
theorem zev_ge {N : List zNt} (hN : N.length ≤ 100) {n : Nat} {st : Bool} {m t p : Nat} (h : zev N n st m = some (t, p)) : 100 * m + 99 ≤ t ∧ t < 20000 ∧ m < N.length := by
  unfold zev at h
  cases he : N[m]? with
  | none => rw [he] at h; cases h
  | some e =>
    have hm := (List.getElem?_eq_some_iff.mp he).1
    rw [he] at h
    dsimp only at h
    have hle : ∀ j, j ≤ N.length → znx N j ≤ N.length := fun j hj => by
      unfold znx
      have := zskip_le (N.drop j) 1
      rw [List.length_drop] at this
      omega
    have hx : m + 1 ≤ znx N m := by
      unfold znx
      rw [List.drop_eq_getElem_cons hm, zskip]
      omega
    have h1 := hle m (by omega)
    have h2 := hle (m + 1) (by omega)
    have h3 := znx_ge (N := N) (i := m + 1)
    split at h
    · split at h
      · cases h; omega
      · split at h
        · cases h; omega
        · cases h
    · cases h; omega
theorem zbst_ge {N : List zNt} (hN : N.length ≤ 100) {n : Nat} {st : Bool} {hi : Nat} : ∀ (k t p : Nat), k ≤ hi → zbst (zev N n st) none hi k = some (t, p) → 100 * (hi - k) + 99 ≤ t ∧ t < 20000
  | 0, t, p, _, h => by cases h
  | k + 1, t, p, hk, h => by
    have h : zmin1 (zbst (zev N n st) none hi k) (zev N n st (hi - (k + 1))) = some (t, p) := h
    cases ha : zbst (zev N n st) none hi k with
    | none =>
      rw [ha, zmin1_none] at h
      have := zev_ge hN h
      exact ⟨this.1, this.2.1⟩
    | some q =>
      obtain ⟨t1, p1⟩ := q
      have g1 := zbst_ge hN k t1 p1 (by omega) ha
      rw [ha] at h
      cases hb : zev N n st (hi - (k + 1)) with
      | none => rw [hb] at h; cases h; omega
      | some r =>
        obtain ⟨t2, p2⟩ := r
        have g2 := zev_ge hN hb
        rw [hb] at h
        simp only [zmin1] at h
        split at h
        · cases h; omega
        · cases h; omega
/-- where node m stands, of the type at n -/
def zwh (N : List zNt) (n : Nat) (st : Bool) (m : Nat) : Nat := if m = n then st.toNat else if st = true ∧ m = n + 1 ∧ (match N[n]? with
  | some e0 => eC e0 == 5
  | none => false) = true then 2 else 0
theorem zisg_wh {N : List zNt} {n : Nat} {st : Bool} {m : Nat} {e : zNt} : zisg N n st m e = true ↔ (zist e = true ∧ (eC e ≠ 10 ∨ zwh N n st m = 2)) := by
  unfold zisg zwh
  by_cases h1 : m = n
  · subst h1
    rw [if_pos rfl]
    have : (m == m + 1) = false := beq_false_of_ne (by omega)
    rw [this]
    cases st <;> simp
  · rw [if_neg h1]
    cases st <;> simp
theorem zty_bst {N : List zNt} (hN : N.length ≤ 100) {n : Nat} {st : Bool} : ∀ (k m : Nat), N.length ≤ k + m → n ≤ m → zful N m → (∀ j e, N[j]? = some e → zist e = true → j < znx N m → m ≤ j → zfuls N (eM e) (j + 1) (znx N j)) →
    (∀ T, zTy N m (zwh N n st m) = .inr T → zbst (zev N n st) none (znx N m) (znx N m - m) = none ∧ zTg N n st m = T) ∧ (∀ x, zTy N m (zwh N n st m) = .inl x → ∃ t, zbst (zev N n st) none (znx N m) (znx N m - m) = some (t, x) ∧ t ≤ 100 * znx N m + 99 - m)
  | 0, m, hk, hn, hf, hfs => by have := zful_lt hf; omega
  | k + 1, m, hk, hn, hf, hfs => by
    obtain ⟨l1, l2, l3⟩ := zful_lt hf
    obtain ⟨e, he⟩ : ∃ e, N[m]? = some e := ⟨_, List.getElem?_eq_getElem l1⟩
    have spec := zTy_eq hN m (zwh N n st m)
    unfold ztyB at spec
    rw [he] at spec
    dsimp only at spec
    have gsp := zTg_eq hN n st m
    unfold zgB at gsp
    rw [he] at gsp
    dsimp only at gsp
    have hev : zev N n st m = (if zisg N n st m e = true then
      (if 9 ≤ eC e ∧ ztsim (zTg N n st (m + 1)) = false then some (100 * znx N (m + 1) + 98, zFp N (m + 1))
      else if 7 < ztdep (zTg N n st m) then some (100 * znx N m + 99 - m, eF e) else none)
    else some (100 * m + 99, eF e)) := by
      unfold zev; rw [he]
    -- the last one is m
    have hlast : zbst (zev N n st) none (znx N m) (znx N m - m) = zmin1 (zbst (zev N n st) none (znx N m) (znx N m - m - 1)) (zev N n st m) := by
      rw [show znx N m - m = (znx N m - m - 1) + 1 by omega]
      show zmin1 _ (zev N n st (znx N m - (znx N m - m - 1 + 1))) = _
      rw [show znx N m - (znx N m - m - 1 + 1) = m by omega]
      rfl
    rw [hlast]
    by_cases his : zisg N n st m e = true
    · rw [if_pos (zisg_wh.mp his)] at spec
      rw [if_pos his] at gsp hev
      obtain ⟨i1, i2, i3⟩ := zist_ok (zisg_wh.mp his).1
      have hfus := hfs m e he (zisg_wh.mp his).1 l2 (Nat.le_refl _)
      by_cases h0 : eM e = 0
      · rw [if_pos h0] at spec gsp
        rw [h0] at hfus i3
        have hc4 := ztp_0 i2 i3
        have hx : m + 1 = znx N m := hfus
        rw [show znx N m - m - 1 = 0 by omega, spec]
        rw [if_neg (by omega), gsp, if_neg (show ¬ 7 < ztdep (.arg (eC e)) from (by decide : ¬ 7 < 1))] at hev
        rw [hev]
        exact ⟨fun T hT => by cases hT; exact ⟨rfl, gsp⟩, fun x hx => by cases hx⟩
      · rw [if_neg h0] at spec gsp
        have hp0 : zful N (m + 1) := by
          obtain ⟨q, hq⟩ : ∃ q, eM e = q + 1 := ⟨eM e - 1, by omega⟩
          rw [hq] at hfus
          exact hfus.1
        obtain ⟨a1, a2, a3⟩ := zful_lt hp0
        have hle1 : znx N (m + 1) ≤ znx N m := by
          by_cases h1 : eM e = 1
          · rw [h1] at hfus; have := (zfuls_1 hfus).2; omega
          · rw [(ztp_2 i2 i3 h0 h1).1] at hfus
            obtain ⟨q1, q2, q3⟩ := zfuls_2 hfus
            have := zful_lt q2; omega
        have hwh0 : zwh N n st (m + 1) = (if zwh N n st m = 1 ∧ eC e = 5 then 2 else 0) := by
          unfold zwh
          rw [if_neg (show m + 1 ≠ n by omega)]
          by_cases hmn : m = n
          · subst hmn
            rw [if_pos rfl, he]
            cases st <;> simp
          · rw [if_neg hmn]
            rw [if_neg (by omega)]
            have : ¬ ((if st = true ∧ m = n + 1 ∧ (match N[n]? with | some e0 => eC e0 == 5 | none => false) = true then 2 else 0) = 1 ∧ eC e = 5) := by
              rintro ⟨q, _⟩
              have h20 : ∀ (P : Prop) [Decidable P], (if P then 2 else 0) ≠ 1 := by intro P _; split <;> decide
              exact h20 _ q
            rw [if_neg this]
        rw [← hwh0] at spec
        obtain ⟨IH1, IH2⟩ := zty_bst hN (n := n) (st := st) k (m + 1) (by omega) (by omega) hp0 (fun j ej hj hi hjl hjm => hfs j ej hj hi (by omega) (by omega))
        have hm1 : eM e = 1 → zbst (zev N n st) none (znx N m) (znx N m - m - 1) = zbst (zev N n st) none (znx N (m + 1)) (znx N (m + 1) - (m + 1)) := by
          intro h1
          rw [h1] at hfus
          have := (zfuls_1 hfus).2
          rw [this, show znx N m - m - 1 = znx N m - (m + 1) by omega]
        have hm2 : eM e ≠ 1 → zbst (zev N n st) none (znx N m) (znx N m - m - 1) = zmin1 (zbst (zev N n st) none (znx N m) (znx N m - znx N (m + 1))) (zbst (zev N n st) none (znx N (m + 1)) (znx N (m + 1) - (m + 1))) := by
          intro h1
          rw [show znx N m - m - 1 = (znx N m - znx N (m + 1)) + (znx N (m + 1) - (m + 1)) by omega, zbst_add, zbst_acc, show znx N m - (znx N m - znx N (m + 1)) = znx N (m + 1) by omega]
        -- the range of the second part
        have hge2 : ∀ t p, zbst (zev N n st) none (znx N m) (znx N m - znx N (m + 1)) = some (t, p) → 100 * znx N (m + 1) + 99 ≤ t := by
          intro t p ht
          have := (zbst_ge hN _ t p (by omega) ht).1
          rw [show znx N m - (znx N m - znx N (m + 1)) = znx N (m + 1) by omega] at this
          exact this
        have hevb : ∀ t p, zev N n st m = some (t, p) → 100 * znx N (m + 1) + 99 - (m + 1) ≤ t := by
          intro t p ht
          rw [hev] at ht
          split at ht
          · cases ht; omega
          · split at ht
            · cases ht
              omega
            · cases ht
        cases hz1 : zTy N (m + 1) (zwh N n st (m + 1)) with
        | inl x =>
          rw [hz1] at spec
          obtain ⟨t, hb, ht⟩ := IH2 x hz1
          rw [spec]
          refine ⟨fun T hT => (by cases hT), fun y hy => ?_⟩
          cases hy
          refine ⟨t, ?_, by omega⟩
          have r1 : zbst (zev N n st) none (znx N m) (znx N m - m - 1) = some (t, x) := by
            by_cases h1 : eM e = 1
            · rw [hm1 h1, hb]
            · rw [hm2 h1, hb]
              cases hq : zbst (zev N n st) none (znx N m) (znx N m - znx N (m + 1)) with
              | none => rfl
              | some q =>
                obtain ⟨t2, p2⟩ := q
                have := hge2 t2 p2 hq
                exact if_pos (show t < t2 by omega)
          rw [r1]
          cases hq : zev N n st m with
          | none => rfl
          | some q =>
            obtain ⟨t2, p2⟩ := q
            have := hevb t2 p2 hq
            exact if_neg (show ¬ t2 < t by omega)
        | inr A =>
          rw [hz1] at spec
          dsimp only at spec
          obtain ⟨hb, hA⟩ := IH1 A hz1
          rw [hA] at hev gsp
          by_cases hkey : ztsim A = false ∧ (eC e = 9 ∨ eC e = 10)
          · rw [if_pos hkey] at spec
            rw [if_pos ⟨by omega, hkey.1⟩] at hev
            rw [spec, hev]
            refine ⟨fun T hT => (by cases hT), fun y hy => ?_⟩
            cases hy
            have h1 : eM e ≠ 1 := by
              intro h1
              have := ztp_1 i2 (by omega); omega
            have hlt2 : znx N (m + 1) < znx N m := by
              rw [(ztp_2 i2 i3 h0 h1).1] at hfus
              obtain ⟨q1, q2, q3⟩ := zfuls_2 hfus
              have := zful_lt q2; omega
            refine ⟨100 * znx N (m + 1) + 98, ?_, ?_⟩
            · rw [hm2 h1, hb]
              cases hq : zbst (zev N n st) none (znx N m) (znx N m - znx N (m + 1)) with
              | none => rfl
              | some q =>
                obtain ⟨t2, p2⟩ := q
                have := hge2 t2 p2 hq
                exact if_pos (show 100 * znx N (m + 1) + 98 < t2 by omega)
            · omega
          · rw [if_neg hkey] at spec
            rw [if_neg (show ¬ (9 ≤ eC e ∧ ztsim A = false) from fun q => hkey ⟨q.2, by omega⟩)] at hev
            by_cases h1 : eM e = 1
            · rw [if_pos h1] at spec gsp
              rw [hm1 h1, hb, zmin1_none]
              rw [gsp] at hev
              rw [hev, spec, gsp]
              unfold zt7
              by_cases h7 : ztdep (.div (.arg (eC e)) A) ≤ 7
              · rw [if_pos h7, if_neg (by omega)]
                exact ⟨fun T hT => by cases hT; exact ⟨rfl, rfl⟩, fun x hx => by cases hx⟩
              · rw [if_neg h7, if_pos (by omega)]
                exact ⟨fun T hT => (by cases hT), fun x hx => by cases hx; exact ⟨_, rfl, Nat.le_refl _⟩⟩
            · rw [if_neg h1] at spec gsp
              have hfus2 := hfus
              rw [(ztp_2 i2 i3 h0 h1).1] at hfus2
              obtain ⟨q1, q2, q3⟩ := zfuls_2 hfus2
              have q4 := zful_lt q2
              have hwh1 : zwh N n st (znx N (m + 1)) = 0 := by
                unfold zwh
                rw [if_neg (by omega), if_neg (by omega)]
              obtain ⟨IH3, IH4⟩ := zty_bst hN (n := n) (st := st) k (znx N (m + 1)) (by omega) (by omega) q2 (fun j ej hj hi hjl hjm => hfs j ej hj hi (by omega) (by omega))
              rw [hwh1, q3] at IH3 IH4
              rw [hm2 h1, hb]
              show (∀ T, _ → zmin1 (zbst (zev N n st) none (znx N m) (znx N m - znx N (m + 1))) (zev N n st m) = none ∧ _) ∧ (∀ x, _ → ∃ t, zmin1 (zbst (zev N n st) none (znx N m) (znx N m - znx N (m + 1))) (zev N n st m) = some (t, x) ∧ _)
              cases hz2 : zTy N (znx N (m + 1)) 0 with
              | inl x =>
                rw [hz2] at spec
                obtain ⟨t, hb2, ht⟩ := IH4 x hz2
                rw [spec, hb2]
                refine ⟨fun T hT => (by cases hT), fun y hy => ?_⟩
                cases hy
                refine ⟨t, ?_, by omega⟩
                rw [hev]
                split
                · exact if_neg (show ¬ 100 * znx N m + 99 - m < t by omega)
                · rfl
              | inr Bt =>
                rw [hz2] at spec
                dsimp only at spec
                obtain ⟨hb2, hB⟩ := IH3 Bt hz2
                rw [hB] at gsp
                rw [hb2, zmin1_none]
                rw [gsp] at hev
                rw [hev, spec, gsp]
                unfold zt7
                by_cases h7 : ztdep (.add (.div (.arg (eC e)) A) Bt) ≤ 7
                · rw [if_pos h7, if_neg (by omega)]
                  exact ⟨fun T hT => by cases hT; exact ⟨rfl, rfl⟩, fun x hx => by cases hx⟩
                · rw [if_neg h7, if_pos (by omega)]
                  exact ⟨fun T hT => (by cases hT), fun x hx => by cases hx; exact ⟨_, rfl, Nat.le_refl _⟩⟩
    · rw [if_neg (fun q => his (zisg_wh.mpr q))] at spec
      rw [if_neg his] at hev
      rw [spec, hev]
      refine ⟨fun T hT => (by cases hT), fun y hy => ?_⟩
      cases hy
      refine ⟨100 * m + 99, ?_, by omega⟩
      cases hq : zbst (zev N n st) none (znx N m) (znx N m - m - 1) with
      | none => rfl
      | some q =>
        obtain ⟨t2, p2⟩ := q
        have := (zbst_ge hN _ t2 p2 (by omega) hq).1
        exact if_pos (show 100 * m + 99 < t2 by omega)
/-! the reference's table of types -/
theorem zwhole_le : ∀ (l : List zNt) (a b : Nat), zwhole (a + b) l = true → zwhole a l = true
  | l, 0, b, _ => zwhole_0 l
  | [], a + 1, b, h => by rw [show a + 1 + b = (a + b) + 1 by omega] at h; cases h
  | e :: l, a + 1, b, h => by
    rw [show a + 1 + b = (a + b) + 1 by omega, zwhole] at h
    rw [zwhole]
    exact zwhole_le l (a + eM e) b (by rw [show a + eM e + b = a + b + eM e by omega]; exact h)
theorem zfuls_of {N : List zNt} : ∀ (n j : Nat), zwhole n (N.drop j) = true → zfuls N n j (j + zskip n (N.drop j))
  | 0, j, h => by rw [zskip_0]; rfl
  | n + 1, j, h => by
    have h1 : zful N j := zwhole_le _ 1 n (by rw [Nat.add_comm]; exact h)
    obtain ⟨g1, g2⟩ := zwhole_add (N.drop j) 1 n h1
    rw [Nat.add_comm 1 n] at g1 g2
    rw [h, List.drop_drop] at g1
    refine ⟨h1, ?_⟩
    have := zfuls_of n (znx N j) g1.symm
    rw [g2, List.drop_drop, ← Nat.add_assoc]
    exact this
theorem zful_fuls {N : List zNt} {i : Nat} {e : zNt} (hi : N[i]? = some e) (h : zful N i) : zfuls N (eM e) (i + 1) (znx N i) := by
  obtain ⟨hl, hi⟩ := List.getElem?_eq_some_iff.mp hi
  unfold zful at h
  unfold znx
  rw [List.drop_eq_getElem_cons hl, hi] at h ⊢
  rw [zwhole] at h
  rw [zskip]
  have := zfuls_of (eM e) (i + 1) (by rw [Nat.zero_add] at h; exact h)
  rw [Nat.zero_add, show i + (1 + zskip (eM e) (N.drop (i + 1))) = i + 1 + zskip (eM e) (N.drop (i + 1)) by omega]
  exact this
def zq1 : Term → Option Term
  | .div (.arg _) a => some a
  | .add (.div (.arg _) a) _ => some a
  | _ => none
def zq2 : Term → Option Term
  | .add (.div (.arg _) _) b => some b
  | _ => none
theorem zTok_ext {T U : Term} (hT : zTok T) (hU : zTok U) (h0 : ztc T = ztc U) (h1 : zq1 T = zq1 U) (h2 : zq2 T = zq2 U) : T = U := by
  unfold zTok at hT hU
  split at hT <;> split at hU <;> simp_all [ztc, zq1, zq2]
/-- where a part stands in the table -/
def zpx (Ts : List Term) (o : Option Term) (x : Int32) : Prop := match o with
  | none => x = -1
  | some t => ∃ j : Nat, j < 220 ∧ Ts[j]? = some t ∧ x = nI j
def zND (Ts : List Term) : Prop := ∀ (i j : Nat) (T : Term), Ts[i]? = some T → Ts[j]? = some T → i = j
theorem zpx_f {Ts : List Term} {o o' : Option Term} {x : Int32} (h : zpx Ts o x) (h' : zpx Ts o' x) : o = o' := by
  have m1 : ∀ j : Nat, j < 220 → nI j ≠ -1 := fun j hj z => by
    have := nI_pos (n := j) (by omega); rw [z] at this; exact this (by decide)
  cases o with
  | none => cases o' with
    | none => rfl
    | some t =>
      obtain ⟨j, hj, _, rfl⟩ := h'
      exact absurd h (m1 j hj)
  | some t =>
    obtain ⟨j, hj, ht, rfl⟩ := h
    cases o' with
    | none => exact absurd h' (m1 j hj)
    | some t' =>
      obtain ⟨j', hj', ht', he⟩ := h'
      have := (nI_eq (by omega) (by omega)).mp he
      subst this
      rw [ht] at ht'
      exact ht'
theorem zpx_u {Ts : List Term} (hn : zND Ts) {o : Option Term} {x y : Int32} (h : zpx Ts o x) (h' : zpx Ts o y) : x = y := by
  cases o with
  | none => exact (show x = -1 from h).trans (show y = -1 from h').symm
  | some t =>
    obtain ⟨j, hj, ht, rfl⟩ := h
    obtain ⟨j', hj', ht', rfl⟩ := h'
    rw [hn j j' t ht ht']
theorem zpx_app {Ts S : List Term} {o : Option Term} {x : Int32} (h : zpx Ts o x) : zpx (Ts ++ S) o x := by
  cases o with
  | none => exact h
  | some t =>
    obtain ⟨j, hj, ht, rfl⟩ := h
    exact ⟨j, hj, by rw [List.getElem?_append_left (List.getElem?_eq_some_iff.mp ht).1]; exact ht, rfl⟩
def zAb (L : List Int32) : zE := .inl (4, L.map Value.int)
def zTbl (M : Nat → zE) (F : Nat → Value) (Ts : List Term) : Prop := F 21 = .int (nI Ts.length) ∧ Ts.length ≤ 220 ∧ zND Ts ∧ (∀ (i : Nat) (T : Term), Ts[i]? = some T → zTok T ∧ ztdep T ≤ 200) ∧ ∃ Ki On Tw De Si, M 25 = zAi Ki ∧ M 26 = zAi On ∧ M 27 = zAi Tw ∧ M 28 = zAi De ∧ M 29 = zAb Si ∧ Ki.length = 220 ∧ On.length = 220 ∧ Tw.length = 220 ∧ De.length = 220 ∧ Si.length = 220 ∧
  ∀ (i : Nat) (T : Term), Ts[i]? = some T → Ki[i]? = some (nI (ztc T)) ∧ (∃ x, On[i]? = some x ∧ zpx Ts (zq1 T) x) ∧ (∃ x, Tw[i]? = some x ∧ zpx Ts (zq2 T) x) ∧ De[i]? = some (nI (ztdep T)) ∧ Si[i]? = some (zB (ztsim T))
theorem zTbl_sm {M M' : Nat → zE} {F F' : Nat → Value} {Ts : List Term} {S : List Nat} (h : zTbl M F Ts) (hM : zSm S M M') (hF : F' 21 = F 21) (hS : ([25, 26, 27, 28, 29].all fun q => !(S.contains q)) = true) : zTbl M' F' Ts := by
  obtain ⟨a1, a2, a3, a4, Ki, On, Tw, De, Si, b1, b2, b3, b4, b5, b6⟩ := h
  have hz : ∀ q ∈ [25, 26, 27, 28, 29], M' q = M q := fun q hq => hM q (by simpa using List.all_eq_true.mp hS q hq)
  exact ⟨hF.trans a1, a2, a3, a4, Ki, On, Tw, De, Si, (hz 25 (by decide)).trans b1, (hz 26 (by decide)).trans b2, (hz 27 (by decide)).trans b3, (hz 28 (by decide)).trans b4, (hz 29 (by decide)).trans b5, b6⟩
/-- the table with T in it -/
def zIn (Ts : List Term) (T : Term) (Ts' : List Term) : Prop := (T ∈ Ts ∧ Ts' = Ts) ∨ (T ∉ Ts ∧ Ts' = Ts ++ [T])
theorem zIn_old {Ts Ts' : List Term} {T U : Term} {i : Nat} (hi : zIn Ts T Ts') (h : Ts[i]? = some U) : Ts'[i]? = some U := by
  rcases hi with ⟨_, rfl⟩ | ⟨_, rfl⟩
  · exact h
  · rw [List.getElem?_append_left (List.getElem?_eq_some_iff.mp h).1]; exact h
section TYM
variable {xs : List Value} {d : Nat} {h : zH} {M : Nat → zE} {F : Nat → Value} {Q : zO → zH → Prop} {Ts : List Term} {T : Term}
theorem zM_bo {k j : Nat} {v : Int32} {L : List Int32} {K : Int32 → Prop} (hl : 50 ≤ h.1.length) (hA : M k = zAb L) (hv : L[j]? = some v) (kk : K v) (hj : j < 2 ^ 31 := by omega) (h1 : 10 ≤ k := by decide) (h2 : k ≤ 52 := by decide) : zBA (some k) (nI j) (zov h M) K :=
  ⟨k, 4, L.map Value.int, v, rfl, by rw [zov_own hl h1 h2, hA]; rfl, Or.inr rfl, nI_pos hj, by rw [nI_clamp hj, List.getElem?_map, hv]; rfl, kk⟩
theorem zM_stb {k j : Nat} {v : Int32} {L : List Int32} {K : zH → Prop} (hl : 50 ≤ h.1.length) (hA : M k = zAb L) (hv : j < L.length) (hL : L.length < 2 ^ 31) (kk : K (zov h (zub M k (zAb (L.set j v))))) (h1 : 10 ≤ k := by decide) (h2 : k ≤ 52 := by decide) : zST 4 (some k) (nI j) (.int v) (zov h M) K := by
  refine ⟨k, L.map Value.int, rfl, by rw [zov_own hl h1 h2, hA]; rfl, nI_pos (by omega), by rw [List.length_map, nI_clamp (by omega)]; exact hv, ?_⟩
  rw [zov_put hl h1 h2, ← List.map_set, nI_clamp (by omega)]
  exact kk
theorem znar_o (s : Bool) : vp_nar .boolean (zB s) = zB s := by cases s <;> decide
theorem zc165 {a b : Int32} (hl : 50 ≤ h.1.length) (h10 : M 10 = zMo F) (hR : zRf F) (ht : zTbl M F Ts) (hT : zTok T) (hd : ztdep T ≤ 200) (ha : zpx Ts (zq1 T) a) (hb : zpx Ts (zq2 T) b) (hsz : T ∈ Ts ∨ Ts.length < 220)
    (q : ∀ M' F' Ts' i, zIn Ts T Ts' → M' 10 = zMo F' → zRf F' → zTbl M' F' Ts' → Ts'[i]? = some T → i < 220 → zSm [10, 25, 26, 27, 28, 29] M M' → zSm [21] F F' → Q (.inl (some (.int (nI i)))) (zov h M')) : zG xs d (165, 0, lv_args 0 [zo (some 10), .int (nI (ztc T)), .int a, .int b], []) (zov h M) Q := by
  obtain ⟨a1, a2, a3, a4, Ki, On, Tw, De, Si, b1, b2, b3, b4, b5, c1, c2, c3, c4, c5, rows⟩ := ht
  have htt : zTbl M F Ts := ⟨a1, a2, a3, a4, Ki, On, Tw, De, Si, b1, b2, b3, b4, b5, c1, c2, c3, c4, c5, rows⟩
  have hc10 := zTok_c hT
  refine zm_165 (fun m l0 l1 l2 l3 l4 h1 => ∃ t : Nat, m = Ts.length - t ∧ l0 = some 10 ∧ l1 = nI (ztc T) ∧ a = l2 ∧ b = l3 ∧ l4 = nI t ∧ h1 = zov h M ∧ t ≤ Ts.length ∧ ∀ i, i < t → Ts[i]? ≠ some T) ?_ ⟨_, 0, rfl, rfl, rfl, rfl, rfl, rfl, rfl, Nat.zero_le _, fun i hi => absurd hi (Nat.not_lt_zero _)⟩
  rintro m l0 l1 l2 l3 l4 h1 ⟨t, rfl, rfl, rfl, rfl, rfl, rfl, rfl, htl, hno⟩
  refine zM_gi hl h10 a1 (pk_lt t Ts.length (fun hlt => ?_) (fun hge => ?_))
  · obtain ⟨U, hU⟩ : ∃ U, Ts[t]? = some U := ⟨_, List.getElem?_eq_getElem hlt⟩
    obtain ⟨r1, ⟨x1, r2, r2'⟩, ⟨x2, r3, r3'⟩, r4, r5⟩ := rows t U hU
    obtain ⟨u1, u2⟩ := a4 t U hU
    have go : U ≠ T → zw_165_48 xs d Q (fun l0 l1 l2 l3 l4 h1 => ∃ n1, n1 < Ts.length - t ∧ ∃ t : Nat, n1 = Ts.length - t ∧ l0 = some 10 ∧ l1 = nI (ztc T) ∧ a = l2 ∧ b = l3 ∧ l4 = nI t ∧ h1 = zov h M ∧ t ≤ Ts.length ∧ ∀ i, i < t → Ts[i]? ≠ some T) (some 10) (nI (ztc T)) a b (nI t) (zov h M) := by
      intro hne x3 hx3
      rw [hx3, nI_1]
      refine ⟨Ts.length - (t + 1), by omega, t + 1, rfl, rfl, rfl, rfl, rfl, rfl, rfl, by omega, fun i hi => ?_⟩
      by_cases hit : i = t
      · rw [hit, hU]; exact fun z => hne (Option.some.inj z)
      · exact hno i (by omega)
    refine zM_gr hl h10 (hR (22, 25) (by decide)) (zM_ia' hl b1 r1 (pk_eq (ztc U) (ztc T) (fun e1 => ?_) (fun e1 => go (fun z => e1 (by rw [z])))
      rfl rfl (by have := zTok_c u1; omega) (by omega)))
    refine zM_gr hl h10 (hR (23, 26) (by decide)) (zM_ia' hl b2 r2 ⟨fun e2 => ?_, fun e2 => go (fun z => e2 (zpx_u a3 (by rw [← z]; exact r2') ha))⟩)
    refine zM_gr hl h10 (hR (24, 27) (by decide)) (zM_ia' hl b3 r3 ⟨fun e3 => ?_, fun e3 => go (fun z => e3 (zpx_u a3 (by rw [← z]; exact r3') hb))⟩)
    have hUT : U = T := zTok_ext u1 hT e1 (zpx_f r2' (by rw [e2]; exact ha)) (zpx_f r3' (by rw [e3]; exact hb))
    subst hUT
    have hmem : U ∈ Ts := List.mem_of_getElem? hU
    exact q M F Ts t (Or.inl ⟨hmem, rfl⟩) h10 hR htt hU (by omega) zSm_refl zSm_refl
  · -- a new type
    have hnm : T ∉ Ts := by
      intro z
      obtain ⟨i, hi⟩ := List.getElem?_of_mem z
      exact hno i (by have := (List.getElem?_eq_some_iff.mp hi).1; omega) hi
    have hlt : Ts.length < 220 := by rcases hsz with z | z; exact absurd z hnm; exact z
    have c84 : ∀ da db : Nat, da ≤ 200 → db ≤ 200 → 1 + max da db = ztdep T → ∀ J, zw_165_84 xs d Q J (some 10) (nI (ztc T)) a b (nI da) (nI db) (zov h M) := by
      intro da db hda hdb hdd J
      refine zM_gr hl h10 (hR (22, 25) (by decide)) (zM_gi hl h10 a1 (zM_st' hl b1 (by omega) (by omega) ?_))
      have s1 : zSm [25] M (zub M 25 (zAi (Ki.set Ts.length (nI (ztc T))))) := zSm_ub zSm_refl (by decide)
      have d1 : zub M 25 (zAi (Ki.set Ts.length (nI (ztc T)))) 25 = zAi (Ki.set Ts.length (nI (ztc T))) := zub_s
      generalize zub M 25 (zAi (Ki.set Ts.length (nI (ztc T)))) = M1 at s1 d1
      have m1 : M1 10 = zMo F := by rw [s1 10 (by decide)]; exact h10
      refine zM_gr hl m1 (hR (23, 26) (by decide)) (zM_gi hl m1 a1 (zM_st' hl (L := On) (by rw [s1 26 (by decide)]; exact b2) (by omega) (by omega) ?_))
      have s2 : zSm [26] M1 (zub M1 26 (zAi (On.set Ts.length a))) := zSm_ub zSm_refl (by decide)
      have d2 : zub M1 26 (zAi (On.set Ts.length a)) 26 = zAi (On.set Ts.length a) := zub_s
      generalize zub M1 26 (zAi (On.set Ts.length a)) = M2 at s2 d2
      have m2 : M2 10 = zMo F := by rw [s2 10 (by decide)]; exact m1
      refine zM_gr hl m2 (hR (24, 27) (by decide)) (zM_gi hl m2 a1 (zM_st' hl (L := Tw) (by rw [s2 27 (by decide), s1 27 (by decide)]; exact b3) (by omega) (by omega) ?_))
      have s3 : zSm [27] M2 (zub M2 27 (zAi (Tw.set Ts.length b))) := zSm_ub zSm_refl (by decide)
      have d3 : zub M2 27 (zAi (Tw.set Ts.length b)) 27 = zAi (Tw.set Ts.length b) := zub_s
      generalize zub M2 27 (zAi (Tw.set Ts.length b)) = M3 at s3 d3
      have m3 : M3 10 = zMo F := by rw [s3 10 (by decide)]; exact m2
      refine zM_gr hl m3 (hR (25, 28) (by decide)) (zM_gi hl m3 a1 ?_)
      have c139 : ∀ v : Nat, v + 1 = ztdep T → zw_165_139 xs d Q J (some 10) (nI (ztc T)) a b (nI v) 1 (nI Ts.length) (some 28) (zov h M3) := by
        intro v hv
        unfold zw_165_139
        rw [show (1 : Int32) + nI v = nI (ztdep T) by rw [← hv, Nat.add_comm]; exact nI_add 1 v]
        refine zM_st' hl (L := De) (by rw [s3 28 (by decide), s2 28 (by decide), s1 28 (by decide)]; exact b4) (by omega) (by omega) ?_
        have s4 : zSm [28] M3 (zub M3 28 (zAi (De.set Ts.length (nI (ztdep T))))) := zSm_ub zSm_refl (by decide)
        have d4 : zub M3 28 (zAi (De.set Ts.length (nI (ztdep T)))) 28 = zAi (De.set Ts.length (nI (ztdep T))) := zub_s
        generalize zub M3 28 (zAi (De.set Ts.length (nI (ztdep T)))) = M4 at s4 d4
        have m4 : M4 10 = zMo F := by rw [s4 10 (by decide)]; exact m3
        have e29 : M4 29 = zAb Si := by rw [s4 29 (by decide), s3 29 (by decide), s2 29 (by decide), s1 29 (by decide)]; exact b5
        have c187 : ∀ s : Bool, ztsim T = s → zw_165_187 xs d Q J (some 10) (zB s) (nI Ts.length) (some 29) (zov h M4) := by
          intro s hs
          unfold zw_165_187
          rw [znar_o]
          refine zM_stb hl e29 (by omega) (by omega) ?_
          have s5 : zSm [29] M4 (zub M4 29 (zAb (Si.set Ts.length (zB s)))) := zSm_ub zSm_refl (by decide)
          have d5 : zub M4 29 (zAb (Si.set Ts.length (zB s))) 29 = zAb (Si.set Ts.length (zB s)) := zub_s
          generalize zub M4 29 (zAb (Si.set Ts.length (zB s))) = M5 at s5 d5
          have m5 : M5 10 = zMo F := by rw [s5 10 (by decide)]; exact m4
          refine zM_gi hl m5 a1 (zM_pf hl m5 ?_)
          have sF : zSm [21] F (zub F 21 (.int (nI Ts.length + 1))) := zSm_ub zSm_refl (by decide)
          have f21 : zub F 21 (.int (nI Ts.length + 1)) 21 = .int (nI Ts.length + 1) := zub_s
          generalize zub F 21 (.int (nI Ts.length + 1)) = F2 at sF f21
          have s6 : zSm [10] M5 (zub M5 10 (zMo F2)) := zSm_ub zSm_refl (by decide)
          have d6 : zub M5 10 (zMo F2) 10 = zMo F2 := zub_s
          generalize zub M5 10 (zMo F2) = M6 at s6 d6
          have hlen : (Ts ++ [T]).length = Ts.length + 1 := by rw [List.length_append]; rfl
          have hTi : (Ts ++ [T])[Ts.length]? = some T := by rw [List.getElem?_append_right (Nat.le_refl _), Nat.sub_self]; rfl
          refine q M6 F2 (Ts ++ [T]) Ts.length (Or.inr ⟨hnm, rfl⟩) d6 (zRf_sm hR sF (by decide)) ?_ hTi hlt ?_ sF
          · refine ⟨by rw [f21, hlen, nI_1], by omega, ?_, ?_, Ki.set Ts.length (nI (ztc T)), On.set Ts.length a, Tw.set Ts.length b, De.set Ts.length (nI (ztdep T)), Si.set Ts.length (zB s), ?_, ?_, ?_, ?_, ?_, by rw [List.length_set]; exact c1, by rw [List.length_set]; exact c2, by rw [List.length_set]; exact c3, by rw [List.length_set]; exact c4, by rw [List.length_set]; exact c5, ?_⟩
            · intro i j U hi hj
              have hil : i < Ts.length + 1 := by have := (List.getElem?_eq_some_iff.mp hi).1; omega
              have hjl : j < Ts.length + 1 := by have := (List.getElem?_eq_some_iff.mp hj).1; omega
              by_cases h1 : i = Ts.length <;> by_cases h2 : j = Ts.length
              · omega
              · rw [h1, hTi] at hi; cases hi
                rw [List.getElem?_append_left (by omega)] at hj
                exact absurd (List.mem_of_getElem? hj) hnm
              · rw [h2, hTi] at hj; cases hj
                rw [List.getElem?_append_left (by omega)] at hi
                exact absurd (List.mem_of_getElem? hi) hnm
              · rw [List.getElem?_append_left (by omega)] at hi hj
                exact a3 i j U hi hj
            · intro i U hi
              by_cases h1 : i = Ts.length
              · rw [h1, hTi] at hi; cases hi; exact ⟨hT, hd⟩
              · have hil : i < Ts.length + 1 := by have := (List.getElem?_eq_some_iff.mp hi).1; omega
                rw [List.getElem?_append_left (by omega)] at hi
                exact a4 i U hi
            · rw [s6 25 (by decide), s5 25 (by decide), s4 25 (by decide), s3 25 (by decide), s2 25 (by decide)]; exact d1
            · rw [s6 26 (by decide), s5 26 (by decide), s4 26 (by decide), s3 26 (by decide)]; exact d2
            · rw [s6 27 (by decide), s5 27 (by decide), s4 27 (by decide)]; exact d3
            · rw [s6 28 (by decide), s5 28 (by decide)]; exact d4
            · rw [s6 29 (by decide)]; exact d5
            · intro i U hi
              by_cases h1 : i = Ts.length
              · rw [h1, hTi] at hi; cases hi
                rw [h1, List.getElem?_set_self (by omega), List.getElem?_set_self (by omega), List.getElem?_set_self (by omega), List.getElem?_set_self (by omega), List.getElem?_set_self (by omega)]
                exact ⟨rfl, ⟨a, rfl, zpx_app ha⟩, ⟨b, rfl, zpx_app hb⟩, rfl, by rw [hs]⟩
              · have hil : i < Ts.length + 1 := by have := (List.getElem?_eq_some_iff.mp hi).1; omega
                rw [List.getElem?_append_left (by omega)] at hi
                obtain ⟨r1, ⟨x1, r2, r2'⟩, ⟨x2, r3, r3'⟩, r4, r5⟩ := rows i U hi
                rw [List.getElem?_set_ne (by omega), List.getElem?_set_ne (by omega), List.getElem?_set_ne (by omega), List.getElem?_set_ne (by omega), List.getElem?_set_ne (by omega)]
                exact ⟨r1, ⟨x1, r2, zpx_app r2'⟩, ⟨x2, r3, zpx_app r3'⟩, r4, r5⟩
          · exact zSm_trans (zSm_trans (zSm_trans (zSm_trans (zSm_trans s1 s2 (U := [10, 25, 26, 27, 28, 29]) (by decide) (by decide)) s3 (fun _ z => z) (by decide)) s4 (fun _ z => z) (by decide)) s5 (fun _ z => z) (by decide)) s6 (fun _ z => z) (by decide)
        have c159 : (ztc T < 1 ∨ 4 < ztc T) → zw_165_159 xs d Q J (some 10) (nI (ztc T)) a b (nI Ts.length) (some 29) (zov h M4) := by
          intro hcc
          refine pk_eq (ztc T) 5 (fun h5 => ?_) (fun h5 => c187 false ?_)
          · unfold zTok at hT
            split at hT
            · exact absurd h5 (by show ¬ _ = 5; rename_i c; show ¬ c = 5; omega)
            · exact absurd h5 (by rename_i c _; show ¬ c = 5; omega)
            · rename_i c x y
              obtain ⟨j1, hj1, hx, rfl⟩ := ha
              obtain ⟨j2, hj2, hy, rfl⟩ := hb
              have h5 : c = 5 := h5
              have sx := (rows j1 x hx).2.2.2.2
              have sy := (rows j2 y hy).2.2.2.2
              have hsim : ztsim (.add (.div (.arg c) x) y) = (c == 5 && ztsim x && ztsim y) := rfl
              refine zM_gr hl m4 (hR (26, 29) (by decide)) (zM_bo hl e29 sx ⟨fun z => c187 false ?_, fun z => ?_⟩)
              · rw [hsim, zB_0.mp z, h5]; rfl
              · have hx1 : ztsim x = true := by cases hq : ztsim x; exact absurd (by rw [hq]; rfl) z; rfl
                refine zM_gr hl m4 (hR (26, 29) (by decide)) (zM_bo hl e29 sy ⟨fun z => c187 false ?_, fun z => c187 true ?_⟩)
                · rw [hsim, zB_0.mp z, h5, hx1]; rfl
                · have hy1 : ztsim y = true := by cases hq : ztsim y; exact absurd (by rw [hq]; rfl) z; rfl
                  rw [hsim, hx1, hy1, h5]; rfl
            · exact hT.elim
          · unfold zTok at hT
            split at hT
            · rename_i c
              exact decide_eq_false (by have : c < 1 ∨ 4 < c := hcc; omega)
            · rfl
            · rename_i c x y
              have : (c == 5) = false := beq_false_of_ne h5
              show (c == 5 && ztsim x && ztsim y) = false
              rw [this]; rfl
            · exact hT.elim
        refine zM_gr hl m4 (hR (26, 29) (by decide)) (zM_gi hl m4 a1 (pk_lt (ztc T) 1 (fun z => c159 (Or.inl z)) (fun z => pk_lt 4 (ztc T) (fun z2 => c159 (Or.inr z2)) (fun z2 => c187 true ?_))))
        unfold zTok at hT
        split at hT
        · rename_i c
          exact decide_eq_true (by have : c ≤ 4 := z2; have : 1 ≤ c := z; omega)
        · rename_i c x; exact absurd z2 (by show ¬ c ≤ 4; omega)
        · rename_i c x y; exact absurd z2 (by show ¬ c ≤ 4; omega)
        · exact hT.elim
      refine pk_lt db da (fun z => c139 da (by omega)) (fun z => c139 db (by omega))
    have dpart : ∀ (o : Option Term) (x : Int32), zpx Ts o x → ∀ K : Int32 → Prop, (K (nI (match o with | none => 0 | some t => ztdep t))) → (x < 0 → K 0) ∧ (¬ x < 0 → zGR (some 10) 12 25 (zov h M) fun x3 => zIA xs x3 x (zov h M) fun x5 => K x5) := by
      intro o x ho K hK
      cases o with
      | none =>
        have hx : x = -1 := ho
        subst hx
        exact ⟨fun _ => hK, fun z => absurd (by decide) z⟩
      | some t =>
        obtain ⟨j, hj, hjt, rfl⟩ := ho
        exact ⟨fun z => absurd z (nI_pos (by omega)), fun _ => zM_gr hl h10 (hR (25, 28) (by decide)) (zM_ia' hl b4 (rows j t hjt).2.2.2.1 hK)⟩
    have hdep : 1 + max (match zq1 T with | none => 0 | some t => ztdep t) (match zq2 T with | none => 0 | some t => ztdep t) = ztdep T := by
      unfold zTok at hT
      split at hT
      · rfl
      · rename_i c x; show 1 + max (ztdep x) 0 = 1 + ztdep x; omega
      · rfl
      · exact hT.elim
    refine dpart _ a ha (fun s0 => zw_165_68 xs d Q _ (some 10) (nI (ztc T)) a b s0 (zov h M)) ?_
    exact dpart _ b hb (fun s0 => zw_165_84 xs d Q _ (some 10) (nI (ztc T)) a b _ s0 (zov h M)) (c84 _ _ (by omega) (by omega) hdep _)
end TYM
/-! the reference reads a type -/
theorem zskip_mono : ∀ (l : List zNt) (a b : Nat), zwhole (a + b) l = true → zskip a l ≤ zskip (a + b) l := by
  intro l a b h
  have h1 := zwhole_le l a b h
  have := (zwhole_add l a b h1).2
  omega
theorem znest0 : ∀ (l : List zNt) (k j : Nat), zwhole k l = true → j < zskip k l → j + zskip 1 (l.drop j) ≤ zskip k l
  | [], 0, j, _, hj => absurd hj (Nat.not_lt_zero _)
  | [], k + 1, j, h, hj => by cases h
  | e :: l, 0, j, _, hj => absurd hj (Nat.not_lt_zero _)
  | e :: l, k + 1, 0, h, hj => by
    rw [zwhole] at h
    rw [List.drop_zero, zskip, zskip]
    have := zskip_mono l (eM e) k (by rw [Nat.add_comm]; exact h)
    rw [Nat.add_comm (eM e) k] at this
    rw [Nat.zero_add (eM e)]
    omega
  | e :: l, k + 1, j + 1, h, hj => by
    rw [zwhole] at h
    rw [zskip] at hj ⊢
    rw [List.drop_succ_cons]
    have := znest0 l (k + eM e) j h (by omega)
    omega
theorem znest {N : List zNt} {n m : Nat} (hn : zful N n) (h1 : n ≤ m) (h2 : m < znx N n) : znx N m ≤ znx N n := by
  have := znest0 (N.drop n) 1 (m - n) hn (by unfold znx at h2; omega)
  rw [List.drop_drop, show n + (m - n) = m by omega] at this
  unfold znx
  omega
theorem zTg_ok {N : List zNt} (hN : N.length ≤ 100) {n : Nat} {st : Bool} : ∀ (k m : Nat), N.length ≤ k + m → zTok (zTg N n st m) ∧ ztdep (zTg N n st m) ≤ k + 1
  | 0, m, hk => by
    rw [zTg_eq hN]
    unfold zgB
    rw [List.getElem?_eq_none (by omega)]
    exact ⟨Nat.zero_le _, Nat.le_refl _⟩
  | k + 1, m, hk => by
    rw [zTg_eq hN]
    unfold zgB
    cases he : N[m]? with
    | none => exact ⟨Nat.zero_le _, show 1 ≤ _ by omega⟩
    | some e =>
      dsimp only
      split
      · rename_i his
        obtain ⟨i1, i2, i3⟩ := zist_ok (zisg_wh.mp his).1
        obtain ⟨a1, a2⟩ := zTg_ok hN (n := n) (st := st) k (m + 1) (by omega)
        obtain ⟨b1, b2⟩ := zTg_ok hN (n := n) (st := st) k (znx N (m + 1)) (by have := znx_ge (N := N) (i := m + 1); omega)
        split
        · rename_i h0
          exact ⟨ztp_0 i2 (by omega), show 1 ≤ _ by omega⟩
        · rename_i h0
          split
          · rename_i h1
            exact ⟨⟨ztp_1 i2 (by omega), a1⟩, show 1 + ztdep _ ≤ _ by omega⟩
          · rename_i h1
            exact ⟨⟨(ztp_2 i2 i3 h0 h1).2, a1, b1⟩, show 1 + max (ztdep _) (ztdep _) ≤ _ by omega⟩
      · exact ⟨Nat.zero_le _, show 1 ≤ _ by omega⟩
section TYR
variable {xs : List Value} {d : Nat} {h : zH} {M : Nat → zE} {F : Nat → Value} {Q : zO → zH → Prop} {Ts : List Term} {T : Term} {N : List zNt} {fr : Nat} {i : Nat} {e : zNt} {K : Int32 → Prop}
theorem zM_nS (hl : 50 ≤ h.1.length) (h10 : M 10 = zMo F) (hR : zRf F) (hr : zNr M F N fr) (hi : N[i]? = some e) (k : K (nI (eS e))) : zGR (some 10) 12 9 (zov h M) fun x => zIA xs x (nI i) (zov h M) K := by
  obtain ⟨_, hN, So, Fi, Co, Ma, Ab, Hi, Lo, c1, c2, c3, c4, c5, c6, c7, c8, c9, c10, c11, c12, c13, c14, rows⟩ := hr
  have := (List.getElem?_eq_some_iff.mp hi).1
  exact zM_gr hl h10 (hR (9, 13) (by decide)) (zM_ia' hl c1 (rows i e hi).1 k)
theorem zM_nF (hl : 50 ≤ h.1.length) (h10 : M 10 = zMo F) (hR : zRf F) (hr : zNr M F N fr) (hi : N[i]? = some e) (k : K (nI (fr + eF e))) : zGR (some 10) 12 10 (zov h M) fun x => zIA xs x (nI i) (zov h M) K := by
  obtain ⟨_, hN, So, Fi, Co, Ma, Ab, Hi, Lo, c1, c2, c3, c4, c5, c6, c7, c8, c9, c10, c11, c12, c13, c14, rows⟩ := hr
  have := (List.getElem?_eq_some_iff.mp hi).1
  exact zM_gr hl h10 (hR (10, 14) (by decide)) (zM_ia' hl c2 (rows i e hi).2.1 k)
theorem zM_nC (hl : 50 ≤ h.1.length) (h10 : M 10 = zMo F) (hR : zRf F) (hr : zNr M F N fr) (hi : N[i]? = some e) (k : K (nI (eC e))) : zGR (some 10) 12 11 (zov h M) fun x => zIA xs x (nI i) (zov h M) K := by
  obtain ⟨_, hN, So, Fi, Co, Ma, Ab, Hi, Lo, c1, c2, c3, c4, c5, c6, c7, c8, c9, c10, c11, c12, c13, c14, rows⟩ := hr
  have := (List.getElem?_eq_some_iff.mp hi).1
  exact zM_gr hl h10 (hR (11, 15) (by decide)) (zM_ia' hl c3 (rows i e hi).2.2.1 k)
theorem zM_nM (hl : 50 ≤ h.1.length) (h10 : M 10 = zMo F) (hR : zRf F) (hr : zNr M F N fr) (hi : N[i]? = some e) (k : K (nI (eM e))) : zGR (some 10) 12 12 (zov h M) fun x => zIA xs x (nI i) (zov h M) K := by
  obtain ⟨_, hN, So, Fi, Co, Ma, Ab, Hi, Lo, c1, c2, c3, c4, c5, c6, c7, c8, c9, c10, c11, c12, c13, c14, rows⟩ := hr
  have := (List.getElem?_eq_some_iff.mp hi).1
  exact zM_gr hl h10 (hR (12, 16) (by decide)) (zM_ia' hl c4 (rows i e hi).2.2.2.1 k)
theorem zM_nX (hl : 50 ≤ h.1.length) (h10 : M 10 = zMo F) (hR : zRf F) (hx : zNx M N) (hi : i < N.length) (h100 : N.length ≤ 100) (k : K (nI (znx N i))) : zGR (some 10) 12 13 (zov h M) fun x => zIA xs x (nI i) (zov h M) K := by
  obtain ⟨Nx, Ow, Le, c1, c2, c3, c4, c5, c6, rows⟩ := hx
  exact zM_gr hl h10 (hR (13, 17) (by decide)) (zM_ia' hl c1 (rows i hi).2 k)
theorem zNx_sm {M' : Nat → zE} {S : List Nat} (hx : zNx M N) (hM : zSm S M M') (hS : ([17, 23, 24].all fun q => !(S.contains q)) = true) : zNx M' N := by
  obtain ⟨Nx, Ow, Le, c1, c2, c3, c4⟩ := hx
  have hz : ∀ q ∈ [17, 23, 24], M' q = M q := fun q hq => hM q (by simpa using List.all_eq_true.mp hS q hq)
  exact ⟨Nx, Ow, Le, (hz 17 (by decide)).trans c1, (hz 23 (by decide)).trans c2, (hz 24 (by decide)).trans c3, c4⟩
theorem zNx_ful (hx : zNx M N) (hi : i < N.length) : zful N i := by
  obtain ⟨Nx, Ow, Le, c1, c2, c3, c4, c5, c6, rows⟩ := hx
  exact (rows i hi).1
theorem zc163 {c : Nat} (hc : c < 256) (q : Q (.inl (some (.int (if c ≤ 10 then nI (ztp c) else -1)))) h) : zG xs d (163, 0, lv_args 0 [.int (nI c)], []) h Q := by
  apply zm_163
  refine pk_lt 4 c (fun h4 => pk_eq c 6 (fun h6 => ?_) (fun h6 => pk_eq c 8 (fun h8 => ?_) (fun h8 => pk_lt 10 c (fun h10 => ?_) (fun h10 => ?_)))) (fun h4 => ?_)
  · subst h6; exact q
  · subst h8; exact q
  · rw [if_neg (by omega)] at q; exact q
  · rw [if_pos h10] at q
    have : ∀ c, c ≤ 10 → 4 < c → c ≠ 6 → c ≠ 8 → ztp c = 2 := by decide
    rw [this c h10 h4 h6 h8] at q; exact q
  · rw [if_pos (by omega)] at q
    have : ∀ c, c ≤ 4 → ztp c = 0 := by decide
    rw [this c h4] at q; exact q
theorem zc164 (hl : 50 ≤ h.1.length) (h10 : M 10 = zMo F) (hR : zRf F) (hx : zNx M N) (hi : i + 1 < N.length) (h100 : N.length ≤ 100) (q : Q (.inl (some (.int (nI (znx N (i + 1)))))) (zov h M)) : zG xs d (164, 0, lv_args 0 [zo (some 10), .int (nI i), .int 1], []) (zov h M) Q := by
  refine zm_164 ⟨fun z => absurd z (by decide), fun _ => ?_⟩
  rw [nI_1]
  exact zM_nX hl h10 hR hx hi h100 q
theorem zc166 {c : Nat} (hl : 50 ≤ h.1.length) (h10 : M 10 = zMo F) (hR : zRf F) (ht : zTbl M F Ts) (hc : c ≤ 4) (hsz : .arg c ∈ Ts ∨ Ts.length < 220)
    (q : ∀ M' F' Ts' i, zIn Ts (.arg c) Ts' → M' 10 = zMo F' → zRf F' → zTbl M' F' Ts' → Ts'[i]? = some (.arg c) → i < 220 → zSm [10, 25, 26, 27, 28, 29] M M' → zSm [21] F F' → Q (.inl (some (.int (nI i)))) (zov h M')) : zG xs (d + 1) (166, 0, lv_args 0 [zo (some 10), .int (nI c)], []) (zov h M) Q :=
  zm_166 (zM_cv hl h10 (zc165 (T := .arg c) hl h10 hR ht hc (show 1 ≤ 200 by decide) rfl rfl hsz (fun M' F' Ts' i a1 a2 a3 a4 a5 a6 a7 a8 => zKI_v (q M' F' Ts' i a1 a2 a3 a4 a5 a6 a7 a8))))
/-- the first refusal so far, as the reference keeps it -/
def zs1 (b : Option (Nat × Nat)) : Int32 := match b with
  | none => 20000
  | some q => nI q.1
def zs2 (fr : Nat) (b : Option (Nat × Nat)) : Int32 := match b with
  | none => -1
  | some q => nI (fr + q.2)
theorem zIn_len {Ts Ts' : List Term} {T : Term} (h : zIn Ts T Ts') : Ts'.length ≤ Ts.length + 1 ∧ ∃ S, Ts' = Ts ++ S := by
  rcases h with ⟨_, rfl⟩ | ⟨_, rfl⟩
  · exact ⟨by omega, [], (List.append_nil _).symm⟩
  · exact ⟨by rw [List.length_append]; exact Nat.le_refl _, [T], rfl⟩
theorem zc162 {n : Nat} {st : Bool} {To : List Int32} (hl : 50 ≤ h.1.length) (h10 : M 10 = zMo F) (hR : zRf F) (hr : zNr M F N fr) (hx : zNx M N) (h6 : F 6 = .int (nI fr)) (hfr : fr ≤ 8660) (hN : zNg N) (ht : zTbl M F Ts) (hTo : M 19 = zAi To) (lTo : To.length = 100) (hn : n < N.length) (hsz : Ts.length + (znx N n - n) ≤ 220)
    (k0 : ∀ x, zTy N n st.toNat = .inl x → ∀ M' F' S To', M' 10 = zMo F' → zRf F' → zTbl M' F' (Ts ++ S) → S.length ≤ znx N n - n → M' 19 = zAi To' → To'.length = 100 → zSm [10, 19, 25, 26, 27, 28, 29] M M' → zSm [5, 21] F F' → F' 5 = .int (nI x) → Q (.inl (some (.int (-1)))) (zov h M'))
    (k1 : ∀ T, zTy N n st.toNat = .inr T → ∀ M' F' S To' i, M' 10 = zMo F' → zRf F' → zTbl M' F' (Ts ++ S) → S.length ≤ znx N n - n → M' 19 = zAi To' → To'.length = 100 → zSm [10, 19, 25, 26, 27, 28, 29] M M' → zSm [21] F F' → (Ts ++ S)[i]? = some T → i < 220 → Q (.inl (some (.int (nI i)))) (zov h M')) : zG xs (d + 2) (162, 0, lv_args 0 [zo (some 10), .int (nI n), .int (zB st)], []) (zov h M) Q := by
  have hN100 := hN.1
  have hfn := zNx_ful hx hn
  obtain ⟨f1, f2, f3⟩ := zful_lt hfn
  obtain ⟨B1, B2⟩ := zty_bst hN100 (n := n) (st := st) N.length n (by omega) (Nat.le_refl _) hfn (fun j ej hj _ hjl _ => zful_fuls hj (zNx_ful hx (by omega)))
  have hwn : zwh N n st n = st.toNat := if_pos rfl
  rw [hwn] at B1 B2
  refine zm_162 (fun m l0 l1 l2 l3 l4 l5 h1 => ∃ k M1 F1 S To1, m = znx N n - n - k ∧ k ≤ znx N n - n ∧ l0 = some 10 ∧ l1 = nI n ∧ l2 = zB st ∧ l3 = zs1 (zbst (zev N n st) none (znx N n) k) ∧ l4 = zs2 fr (zbst (zev N n st) none (znx N n) k) ∧ l5 = nI (znx N n - k) - 1 ∧ h1 = zov h M1 ∧ M1 10 = zMo F1 ∧ zRf F1 ∧ zTbl M1 F1 (Ts ++ S) ∧ S.length ≤ k ∧ M1 19 = zAi To1 ∧ To1.length = 100 ∧ zSm [10, 19, 25, 26, 27, 28, 29] M M1 ∧ zSm [21] F F1 ∧ ∀ m, znx N n - k ≤ m → m < znx N n → ∃ i, i < 220 ∧ To1[m]? = some (nI i) ∧ (Ts ++ S)[i]? = some (zTg N n st m)) ?_ ?_
  · rintro m l0 l1 l2 l3 l4 l5 h1 ⟨k, M1, F1, S, To1, rfl, hk, rfl, rfl, rfl, rfl, rfl, rfl, rfl, m10, hR1, ht1, hS, m19, l19, sM, sF, hrow⟩
    have hr1 : zNr M1 F1 N fr := zNr_sm hr sM (sF 8 (by decide)) (by decide)
    have hx1 : zNx M1 N := zNx_sm hx sM (by decide)
    have h61 : F1 6 = .int (nI fr) := by rw [sF 6 (by decide)]; exact h6
    by_cases hkk : k = znx N n - n
    · -- the end
      have e5 : nI (znx N n - k) - 1 < nI n := by
        rw [show znx N n - k = n by omega]
        cases n with
        | zero => exact (by decide : nI 0 - 1 < nI 0)
        | succ n => rw [nI_pred]; exact nI_lt (by omega) (by omega)
      refine ⟨fun _ => ?_, fun z => absurd e5 z⟩
      subst hkk
      cases hz : zTy N n st.toNat with
      | inl x =>
        obtain ⟨t, hb, _⟩ := B2 x hz
        rw [hb]
        show (nI (fr + x) < 0 → _) ∧ (¬ nI (fr + x) < 0 → _)
        have hxb : fr + x < 2 ^ 31 := by
          have : ∀ k, ∀ t p, zbst (zev N n st) none (znx N n) k = some (t, p) → p < 2000 := by
            intro k
            induction k with
            | zero => intro t p h; cases h
            | succ k ih =>
              intro t p h
              have h : zmin1 (zbst (zev N n st) none (znx N n) k) (zev N n st (znx N n - (k + 1))) = some (t, p) := h
              have hev : ∀ m t p, zev N n st m = some (t, p) → p < 2000 := by
                intro m t p h
                unfold zev at h
                cases he : N[m]? with
                | none => rw [he] at h; cases h
                | some e =>
                  rw [he] at h
                  dsimp only at h
                  have h0 := (hN.2 m e he).2.2.2.1
                  have h1 : zFp N (m + 1) < 2000 := by
                    unfold zFp
                    cases he1 : N[m + 1]? with
                    | none => show 0 < 2000; decide
                    | some e1 => exact (hN.2 _ e1 he1).2.2.2.1
                  split at h
                  · split at h
                    · cases h; exact h1
                    · split at h
                      · cases h; exact h0
                      · cases h
                  · cases h; exact h0
              cases ha : zbst (zev N n st) none (znx N n) k with
              | none => rw [ha, zmin1_none] at h; exact hev _ _ _ h
              | some q =>
                obtain ⟨t1, p1⟩ := q
                rw [ha] at h
                cases hb : zev N n st (znx N n - (k + 1)) with
                | none => rw [hb] at h; cases h; exact ih _ _ ha
                | some r =>
                  obtain ⟨t2, p2⟩ := r
                  rw [hb] at h
                  simp only [zmin1] at h
                  split at h
                  · cases h; exact hev _ _ _ hb
                  · cases h; exact ih _ _ ha
          have := this _ _ _ hb
          omega
        refine ⟨fun z => absurd z (nI_pos hxb), fun _ => zM_cv hl m10 (zc158 hl m10 h61 (zKI_v ?_))⟩
        have sF2 : zSm [5] F1 (zub F1 5 (.int (nI (fr + x) - nI fr))) := zSm_ub zSm_refl (by decide)
        refine k0 x hz _ (zub F1 5 (.int (nI (fr + x) - nI fr))) S To1 zub_s (zRf_sm hR1 sF2 (by decide)) (zTbl_sm ht1 (S := [10]) (zSm_ub zSm_refl (by decide)) (by rw [zub_n (by decide)]) (by decide)) hS (by rw [zub_n (by decide)]; exact m19) l19 (zSm_ub sM (by decide)) (zSm_trans sF sF2 (by decide) (by decide)) ?_
        rw [zub_s, pk_sub (by omega), show fr + x - fr = x by omega]
      | inr T =>
        obtain ⟨hb, hT⟩ := B1 T hz
        rw [hb]
        refine ⟨fun _ => ?_, fun z => absurd (show (-1 : Int32) < 0 by decide) z⟩
        obtain ⟨i, hi, hi1, hi2⟩ := hrow n (by omega) f2
        rw [hT] at hi2
        exact zM_gr hl m10 (hR1 (15, 19) (by decide)) (zM_ia' hl m19 hi1 (k1 T hz M1 F1 S To1 i m10 hR1 ht1 hS m19 l19 sM sF hi2 hi))
    · have hkl : k < znx N n - n := by omega
      obtain ⟨m, hm⟩ : ∃ m, m = znx N n - (k + 1) := ⟨_, rfl⟩
      have hm1 : znx N n - k = m + 1 := by omega
      rw [hm1, nI_pred]
      have hmn : n ≤ m := by omega
      have hmN : m < N.length := by omega
      have hmz : m < znx N n := by omega
      obtain ⟨e, he⟩ : ∃ e, N[m]? = some e := ⟨_, List.getElem?_eq_getElem hmN⟩
      obtain ⟨n1, n2, n3, n4, _⟩ := hN.2 m e he
      have hfm := zNx_ful hx hmN
      obtain ⟨g1, g2, g3⟩ := zful_lt hfm
      have gn := znest hfn hmn hmz
      have hfus := zful_fuls he hfm
      have hstep : zbst (zev N n st) none (znx N n) (k + 1) = zmin1 (zbst (zev N n st) none (znx N n) k) (zev N n st m) := by rw [hm]; rfl
      have gsp := zTg_eq hN100 n st m
      unfold zgB at gsp
      rw [he] at gsp
      dsimp only at gsp
      have hev : zev N n st m = (if zisg N n st m e = true then
          (if 9 ≤ eC e ∧ ztsim (zTg N n st (m + 1)) = false then some (100 * znx N (m + 1) + 98, zFp N (m + 1))
          else if 7 < ztdep (zTg N n st m) then some (100 * znx N m + 99 - m, eF e) else none)
        else some (100 * m + 99, eF e)) := by
        unfold zev; rw [he]
      obtain ⟨tok, tdep⟩ := zTg_ok hN100 (n := n) (st := st) N.length m (by omega)
      refine ⟨fun z => absurd z (nI_nlt (by omega) (by omega)), fun _ => ?_⟩
      -- behind the type of m
      obtain ⟨J, hJ⟩ : ∃ J : zP → Int32 → Int32 → Int32 → Int32 → Int32 → zH → Prop, J = (fun l0 l1 l2 l3 l4 l5 h1 => ∃ n1, n1 < znx N n - n - k ∧ ∃ k M1 F1 S To1, n1 = znx N n - n - k ∧ k ≤ znx N n - n ∧ l0 = some 10 ∧ l1 = nI n ∧ l2 = zB st ∧ l3 = zs1 (zbst (zev N n st) none (znx N n) k) ∧ l4 = zs2 fr (zbst (zev N n st) none (znx N n) k) ∧ l5 = nI (znx N n - k) - 1 ∧ h1 = zov h M1 ∧ M1 10 = zMo F1 ∧ zRf F1 ∧ zTbl M1 F1 (Ts ++ S) ∧ S.length ≤ k ∧ M1 19 = zAi To1 ∧ To1.length = 100 ∧ zSm [10, 19, 25, 26, 27, 28, 29] M M1 ∧ zSm [21] F F1 ∧ ∀ m, znx N n - k ≤ m → m < znx N n → ∃ i, i < 220 ∧ To1[m]? = some (nI i) ∧ (Ts ++ S)[i]? = some (zTg N n st m)) := ⟨_, rfl⟩
      rw [← hJ]
      have done : ∀ (is : Bool) (ai : Int32) (M2 : Nat → zE) (F2 : Nat → Value) (S2 : List Term) (ti : Nat), is = zisg N n st m e → zIn (Ts ++ S) (zTg N n st m) S2 → M2 10 = zMo F2 → zRf F2 → zTbl M2 F2 S2 → S2[ti]? = some (zTg N n st m) → ti < 220 → zSm [10, 25, 26, 27, 28, 29] M1 M2 → zSm [21] F1 F2 → (is = true → 0 < eM e → ∃ i, i < 220 ∧ ai = nI i ∧ (Ts ++ S)[i]? = some (zTg N n st (m + 1))) →
          zw_162_193 xs (d + 2) Q J (some 10) (nI n) (zB st) (zs1 (zbst (zev N n st) none (znx N n) k)) (zs2 fr (zbst (zev N n st) none (znx N n) k)) (nI m) (zB is) ai (nI ti) (nI m) (some 19) (zov h M2) := by
        intro is ai M2 F2 S2 ti his hin c10 cR ct cti hti sM2 sF2 hai
        have c19 : M2 19 = zAi To1 := by rw [sM2 19 (by decide)]; exact m19
        refine zM_st' hl c19 (by omega) (by omega) ?_
        have sM3 : zSm [19] M2 (zub M2 19 (zAi (To1.set m (nI ti)))) := zSm_ub zSm_refl (by decide)
        have d19 : zub M2 19 (zAi (To1.set m (nI ti))) 19 = zAi (To1.set m (nI ti)) := zub_s
        generalize zub M2 19 (zAi (To1.set m (nI ti))) = M3 at sM3 d19
        have d10 : M3 10 = zMo F2 := by rw [sM3 10 (by decide)]; exact c10
        have dt : zTbl M3 F2 S2 := zTbl_sm ct sM3 rfl (by decide)
        have sM4 : zSm [10, 19, 25, 26, 27, 28, 29] M M3 := zSm_trans (zSm_trans sM sM2 (fun _ z => z) (by decide)) sM3 (fun _ z => z) (by decide)
        have sF4 : zSm [21] F F2 := zSm_t sF sF2
        have dr : zNr M3 F2 N fr := zNr_sm hr sM4 (sF4 8 (by decide)) (by decide)
        have dx : zNx M3 N := zNx_sm hx sM4 (by decide)
        obtain ⟨hl2, S3, hS3⟩ := zIn_len hin
        have hS2 : S2 = Ts ++ (S ++ S3) := by rw [hS3, List.append_assoc]
        have hlS : (S ++ S3).length ≤ k + 1 := by
          have : S2.length = Ts.length + (S ++ S3).length := by rw [hS2, List.length_append]
          rw [List.length_append] at hl2
          omega
        -- the loop goes on
        have go : zw_162_350 xs (d + 2) Q J (some 10) (nI n) (zB st) (zs2 fr (zbst (zev N n st) none (znx N n) (k + 1))) (nI m) (zs1 (zbst (zev N n st) none (znx N n) (k + 1))) (zov h M3) := by
          intro x5 hx5
          rw [hJ]
          refine ⟨znx N n - n - (k + 1), by omega, k + 1, M3, F2, S ++ S3, To1.set m (nI ti), rfl, by omega, rfl, rfl, rfl, rfl, rfl, ?_, rfl, d10, cR, by rw [← hS2]; exact dt, hlS, d19, by rw [List.length_set]; exact l19, sM4, sF4, fun m' h1 h2 => ?_⟩
          · rw [hx5, ← hm, Int32.sub_eq_add_neg]; first | done | rfl
          · by_cases hmm : m' = m
            · rw [hmm, List.getElem?_set_self (by omega)]
              exact ⟨ti, hti, rfl, by rw [← hS2]; exact cti⟩
            · obtain ⟨i, i1, i2, i3⟩ := hrow m' (by omega) h2
              rw [List.getElem?_set_ne (by omega)]
              exact ⟨i, i1, i2, by rw [← hS2]; exact zIn_old hin i3⟩
        have hst0 : zs1 (zbst (zev N n st) none (znx N n) k) = nI (match zbst (zev N n st) none (znx N n) k with | none => 20000 | some q => q.1) := by
          cases zbst (zev N n st) none (znx N n) k <;> rfl
        have hst1 : (match zbst (zev N n st) none (znx N n) k with | none => 20000 | some q => q.1) ≤ 20000 := by
          cases hb : zbst (zev N n st) none (znx N n) k with
          | none => exact Nat.le_refl _
          | some q =>
            obtain ⟨t1, p1⟩ := q
            have := (zbst_ge hN100 k t1 p1 (by omega) hb).2
            show t1 ≤ 20000; omega
        have c304 : ∀ (key : Bool) (w : Nat), (zev N n st m = none ∧ w = 20000 ∨ ∃ p j e', zev N n st m = some (w, p) ∧ w < 20000 ∧ j = (if key then m + 1 else m) ∧ N[j]? = some e' ∧ p = eF e') → zw_162_304 xs (d + 2) Q J (some 10) (nI n) (zB st) (zs1 (zbst (zev N n st) none (znx N n) k)) (zs2 fr (zbst (zev N n st) none (znx N n) k)) (nI m) (zB key) (nI w) (zov h M3) := by
          intro key w hw
          have hw2 : w ≤ 20000 := by rcases hw with ⟨_, z⟩ | ⟨p, j, e', _, z, _⟩ <;> omega
          have keep : ¬ w < (match zbst (zev N n st) none (znx N n) k with | none => 20000 | some q => q.1) → zbst (zev N n st) none (znx N n) (k + 1) = zbst (zev N n st) none (znx N n) k := by
            intro z
            rw [hstep]
            rcases hw with ⟨q, _⟩ | ⟨p, j, e', q, hq, _⟩
            · rw [q]; rfl
            · rw [q]
              cases hb : zbst (zev N n st) none (znx N n) k with
              | none => rw [hb] at z; exact absurd hq z
              | some r => rw [hb] at z; exact if_neg z
          have repl : w < (match zbst (zev N n st) none (znx N n) k with | none => 20000 | some q => q.1) → ∃ p j e', zev N n st m = some (w, p) ∧ j = (if key then m + 1 else m) ∧ N[j]? = some e' ∧ p = eF e' ∧ zbst (zev N n st) none (znx N n) (k + 1) = some (w, p) := by
            intro z
            rcases hw with ⟨_, q⟩ | ⟨p, j, e', q, hq, h1, h2, h3⟩
            · omega
            · refine ⟨p, j, e', q, h1, h2, h3, ?_⟩
              rw [hstep, q]
              cases hb : zbst (zev N n st) none (znx N n) k with
              | none => rfl
              | some r => rw [hb] at z; exact if_pos z
          refine ⟨fun z => ?_, fun z => ?_⟩
          · rw [hst0] at z
            have hz := (nI_ltI (by omega) (by omega)).mp z
            obtain ⟨p, j, e', q1, q2, q3, q4, q5⟩ := repl hz
            have f336 : zw_162_336 xs (d + 2) Q J (some 10) (nI n) (zB st) (zs1 (zbst (zev N n st) none (znx N n) k)) (nI m) (nI w) (nI (fr + eF e')) (zov h M3) := by
              refine ⟨fun _ => ?_, fun z2 => absurd (by rw [hst0]; exact z) z2⟩
              rw [q5, q4] at go
              exact go
            have hnf := zM_nF (xs := xs) (K := fun x => zw_162_336 xs (d + 2) Q J (some 10) (nI n) (zB st) (zs1 (zbst (zev N n st) none (znx N n) k)) (nI m) (nI w) x (zov h M3)) hl d10 cR dr q3 f336
            cases key with
            | false =>
              rw [if_neg (by decide)] at q2
              rw [q2] at hnf
              obtain ⟨kk, fs, x, g1, g2, g3, g4⟩ := hnf
              exact ⟨kk, fs, x, g1, g2, g3, fun _ => g4, fun z => absurd rfl z⟩
            | true =>
              rw [if_pos rfl] at q2
              rw [q2] at hnf
              obtain ⟨kk, fs, x, g1, g2, g3, g4⟩ := hnf
              refine ⟨kk, fs, x, g1, g2, g3, fun z => absurd z (by decide), fun _ => ?_⟩
              rw [nI_1]
              exact g4
          · rw [hst0] at z
            have hz := mt (nI_ltI (a := w) (b := (match zbst (zev N n st) none (znx N n) k with | none => 20000 | some q => q.1)) (by omega) (by omega)).mpr z
            refine ⟨fun z2 => absurd (by rw [hst0] at z2; exact z2) z, fun _ => ?_⟩
            rw [keep hz] at go
            exact go
        have deep : zisg N n st m e = true → ¬ (9 ≤ eC e ∧ ztsim (zTg N n st (m + 1)) = false) → zw_162_225 xs (d + 2) Q J (some 10) (nI n) (zB st) (zs1 (zbst (zev N n st) none (znx N n) k)) (zs2 fr (zbst (zev N n st) none (znx N n) k)) (nI m) 1 (zov h M3) := by
          intro hi hnk
          rw [if_pos hi, if_neg hnk] at hev
          refine ⟨fun z => absurd z (by decide), fun _ => ⟨fun _ => ?_, fun z => absurd rfl z⟩⟩
          obtain ⟨_, _, _, _, Ki, On, Tw, De, Si, b1, b2, b3, b4, b5, cc1, cc2, cc3, cc4, cc5, rows⟩ := dt
          refine zM_gr hl d10 (cR (25, 28) (by decide)) (zM_gr hl d10 (cR (15, 19) (by decide)) (zM_ia' hl d19 (v := nI ti) (by rw [List.getElem?_set_self (by omega)]) (zM_ia' hl b4 (rows ti _ cti).2.2.2.1 (pk_lt 7 (ztdep (zTg N n st m)) (fun h7 => ?_) (fun h7 => ?_)))))
          · refine zM_nX hl d10 cR dx hmN hN100 ?_
            rw [show (100 : Int32) * nI (znx N m) + 99 - nI m = nI (100 * znx N m + 99 - m) by
              rw [show (100 : Int32) * nI (znx N m) = nI (100 * znx N m) from pk_mul 100 _, show nI (100 * znx N m) + (99 : Int32) = nI (100 * znx N m + 99) from nI_add _ 99, pk_sub (by omega)]]
            rw [if_pos h7] at hev
            exact c304 false _ (Or.inr ⟨eF e, m, e, hev, by omega, rfl, he, rfl⟩)
          · rw [if_neg (by omega)] at hev
            exact c304 false 20000 (Or.inl ⟨hev, rfl⟩)
        cases is with
        | false =>
          refine ⟨fun _ => ⟨fun _ => ?_, fun z => absurd rfl z⟩, fun z => absurd rfl z⟩
          rw [if_neg (by rw [← his]; decide)] at hev
          rw [show (100 : Int32) * nI m + 99 = nI (100 * m + 99) by rw [show (100 : Int32) * nI m = nI (100 * m) from pk_mul 100 _]; exact nI_add _ 99]
          exact c304 false _ (Or.inr ⟨eF e, m, e, hev, by omega, rfl, he, rfl⟩)
        | true =>
          refine ⟨fun z => absurd z (by decide), fun _ => zM_nC hl d10 cR dr he (pk_lt (eC e) 9 (fun h9 => deep his.symm (by omega)) (fun h9 => ?_))⟩
          obtain ⟨i1, i2, i3⟩ := zist_ok (zisg_wh.mp his.symm).1
          have hm2 : eM e = 2 := by
            have : ∀ c, c ≤ 10 → 9 ≤ c → ztp c = 2 := by decide
            rw [i3]; exact this _ i2 h9
          obtain ⟨ia, hia, rfl, hia2⟩ := hai rfl (by omega)
          obtain ⟨_, _, _, _, Ki, On, Tw, De, Si, b1, b2, b3, b4, b5, cc1, cc2, cc3, cc4, cc5, rows⟩ := dt
          have hsi := (rows ia _ (zIn_old hin hia2)).2.2.2.2
          refine zM_gr hl d10 (cR (26, 29) (by decide)) (zM_bo hl b5 hsi ⟨fun z => ?_, fun z => deep his.symm (fun q => z (by rw [q.2]; rfl))⟩)
          have hs0 := zB_0.mp z
          rw [if_pos his.symm, if_pos ⟨h9, hs0⟩] at hev
          have hm1N : m + 1 < N.length := by
            rw [hm2] at hfus
            obtain ⟨q1, q2, q3⟩ := zfuls_2 hfus
            have := zful_lt q1; omega
          obtain ⟨e1, he1⟩ : ∃ e1, N[m + 1]? = some e1 := ⟨_, List.getElem?_eq_getElem hm1N⟩
          refine ⟨fun z => absurd z (by decide), fun _ => ⟨fun z => absurd z (by decide), fun _ => zM_cv hl d10 (zc164 hl d10 cR dx hm1N hN100 (zKI_v ?_))⟩⟩
          have hge := zev_ge hN100 hev
          rw [show (100 : Int32) * nI (znx N (m + 1)) + 98 = nI (100 * znx N (m + 1) + 98) by rw [show (100 : Int32) * nI (znx N (m + 1)) = nI (100 * znx N (m + 1)) from pk_mul 100 _]; exact nI_add _ 98]
          refine c304 true _ (Or.inr ⟨zFp N (m + 1), m + 1, e1, hev, hge.2.1, rfl, he1, ?_⟩)
          unfold zFp; rw [he1]
      have hroom : (Ts ++ S).length < 220 := by rw [List.length_append]; omega
      -- it is no type
      have c92 : zisg N n st m e = false → zw_162_92 xs (d + 2) Q J (some 10) (nI n) (zB st) (zs1 (zbst (zev N n st) none (znx N n) k)) (zs2 fr (zbst (zev N n st) none (znx N n) k)) (nI m) (zov h M1) := by
        intro hno
        rw [if_neg (by rw [hno]; decide)] at gsp
        refine ⟨fun _ => ⟨fun _ => zM_gr hl m10 (hR1 (15, 19) (by decide)) ⟨fun _ => zM_cv hl m10 (zc166 (c := 0) hl m10 hR1 ht1 (by decide) (Or.inr hroom) (fun M' F' Ts' i a1 a2 a3 a4 a5 a6 a7 a8 => zKI_v ?_)), fun z => absurd rfl z⟩, fun z => absurd rfl z⟩, fun z => absurd rfl z⟩
        rw [← gsp] at a1 a5
        exact done false (-1) M' F' Ts' i hno.symm a1 a2 a3 a4 a5 a6 a7 a8 (fun z => (by cases z))
      have c88 : zisg N n st m e = true → zw_162_88 xs (d + 2) Q J (some 10) (nI n) (zB st) (zs1 (zbst (zev N n st) none (znx N n) k)) (zs2 fr (zbst (zev N n st) none (znx N n) k)) (nI m) (zov h M1) := by
        intro hyes
        rw [if_pos hyes] at gsp
        obtain ⟨i1, i2, i3⟩ := zist_ok (zisg_wh.mp hyes).1
        -- the parts are known: the type is made
        have c157 : ∀ ai bi : Int32, zpx (Ts ++ S) (zq1 (zTg N n st m)) ai → zpx (Ts ++ S) (zq2 (zTg N n st m)) bi → (0 < eM e → ∃ i, i < 220 ∧ ai = nI i ∧ (Ts ++ S)[i]? = some (zTg N n st (m + 1))) → ztc (zTg N n st m) = eC e → zw_162_157 xs (d + 2) Q J (some 10) (nI n) (zB st) (zs1 (zbst (zev N n st) none (znx N n) k)) (zs2 fr (zbst (zev N n st) none (znx N n) k)) (nI m) 1 ai bi (zov h M1) := by
          intro ai bi p1 p2 p3 p4
          refine zM_gr hl m10 (hR1 (15, 19) (by decide)) ⟨fun z => absurd z (by decide), fun _ => zM_nC hl m10 hR1 hr1 he ?_⟩
          rw [← p4]
          refine zM_cv hl m10 (zc165 hl m10 hR1 ht1 tok (by omega) p1 p2 (Or.inr hroom) (fun M' F' Ts' i a1 a2 a3 a4 a5 a6 a7 a8 => zKI_v ?_))
          exact done true ai M' F' Ts' i hyes.symm a1 a2 a3 a4 a5 a6 a7 a8 (fun _ => p3)
        refine ⟨fun z => absurd z (by decide), fun _ => zM_nM hl m10 hR1 hr1 he (pk_lt 0 (eM e) (fun h0 => ?_) (fun h0 => ?_))⟩
        · rw [if_neg (by omega)] at gsp
          have hp0 : zful N (m + 1) := by
            obtain ⟨q, hq⟩ : ∃ q, eM e = q + 1 := ⟨eM e - 1, by omega⟩
            rw [hq] at hfus
            exact hfus.1
          have hp0l : m + 1 < znx N m := by
            by_cases h1 : eM e = 1
            · rw [h1] at hfus; have := (zfuls_1 hfus).2; have := zful_lt hp0; omega
            · rw [(ztp_2 i2 i3 (by omega) h1).1] at hfus
              obtain ⟨q1, q2, q3⟩ := zfuls_2 hfus
              have := zful_lt q1; have := zful_lt q2; omega
          obtain ⟨ia, ia1, ia2, ia3⟩ := hrow (m + 1) (by omega) (by omega)
          rw [nI_1]
          refine zM_gr hl m10 (hR1 (15, 19) (by decide)) (zM_ia' hl m19 ia2 ⟨fun z => absurd z (by decide), fun _ => zM_nM hl m10 hR1 hr1 he (pk_lt 1 (eM e) (fun h1 => ?_) (fun h1 => ?_))⟩)
          · rw [if_neg (by omega)] at gsp
            have hm2 := ztp_2 i2 i3 (by omega) (by omega)
            rw [hm2.1] at hfus
            obtain ⟨q1, q2, q3⟩ := zfuls_2 hfus
            have q4 := zful_lt q1
            have q5 := zful_lt q2
            obtain ⟨ib, ib1, ib2, ib3⟩ := hrow (znx N (m + 1)) (by omega) (by omega)
            refine zM_gr hl m10 (hR1 (15, 19) (by decide)) (zM_cv hl m10 (zc164 hl m10 hR1 hx1 (by omega) hN100 (zKI_v (zM_ia' hl m19 ib2 ?_))))
            refine c157 _ _ ?_ ?_ (fun _ => ⟨ia, ia1, rfl, ia3⟩) (by rw [gsp]; rfl)
            · rw [gsp]; exact ⟨ia, ia1, ia3, rfl⟩
            · rw [gsp]; exact ⟨ib, ib1, ib3, rfl⟩
          · rw [if_pos (by omega)] at gsp
            refine c157 _ _ ?_ ?_ (fun _ => ⟨ia, ia1, rfl, ia3⟩) (by rw [gsp]; rfl)
            · rw [gsp]; exact ⟨ia, ia1, ia3, rfl⟩
            · rw [gsp]; exact rfl
        · rw [if_pos (by omega)] at gsp
          refine ⟨fun z => absurd z (by decide), fun _ => zM_nM hl m10 hR1 hr1 he (pk_lt 1 (eM e) (fun h1 => absurd h1 (by omega)) (fun h1 => ?_))⟩
          refine c157 _ _ ?_ ?_ (fun z => absurd z (by omega)) (by rw [gsp]; rfl)
          · rw [gsp]; exact rfl
          · rw [gsp]; exact rfl
      refine zM_nS hl m10 hR1 hr1 he (pk_eq (eS e) 3 (fun h3 => ?_) (fun h3 => c92 ?_))
      · refine zM_nM hl m10 hR1 hr1 he (zM_nC hl m10 hR1 hr1 he ⟨d + 1, rfl, zc163 n2 (zKI_v ?_)⟩)
        by_cases hc10 : eC e ≤ 10
        · rw [if_pos hc10]
          have htp : ztp (eC e) < 3 := by
            have : ∀ c, c ≤ 10 → ztp c < 3 := by decide
            exact this _ hc10
          refine pk_eq (eM e) (ztp (eC e)) (fun hm => ?_) (fun hm => c92 ?_)
          · have hist : zist e = true := by unfold zist; rw [h3, ← hm, decide_eq_true hc10]; simp
            refine zM_nC hl m10 hR1 hr1 he (pk_eq (eC e) 10 (fun h10' => ?_) (fun h10' => c88 (zisg_wh.mpr ⟨hist, Or.inl h10'⟩)))
            have no2 : zwh N n st m ≠ 2 → zisg N n st m e = false := by
              intro hw
              cases hq : zisg N n st m e with
              | false => rfl
              | true => rcases (zisg_wh.mp hq).2 with z | z; exact absurd h10' z; exact absurd z hw
            refine ⟨fun z => c92 (no2 ?_), fun z => ?_⟩
            · have := zB_0.mp z
              unfold zwh
              rw [this]
              split
              · decide
              · rw [if_neg (by simp)]; decide
            · have hst : st = true := by cases hq : st; exact absurd (by rw [hq]; rfl) z; rfl
              rw [nI_1]
              refine pk_eq m (n + 1) (fun hmn1 => ?_) (fun hmn1 => c92 (no2 ?_))
              · obtain ⟨e0, he0⟩ : ∃ e0, N[n]? = some e0 := ⟨_, List.getElem?_eq_getElem hn⟩
                have k2 := (hN.2 n e0 he0).2.1
                refine zM_nC hl m10 hR1 hr1 he0 (pk_eq (eC e0) 5 (fun h5 => c88 (zisg_wh.mpr ⟨hist, Or.inr ?_⟩)) (fun h5 => c92 (no2 ?_)))
                · unfold zwh
                  rw [if_neg (by omega), he0, if_pos ⟨hst, hmn1, beq_iff_eq.mpr h5⟩]
                · unfold zwh
                  rw [if_neg (by omega), he0, if_neg (fun q => h5 (eq_of_beq q.2.2))]; decide
              · unfold zwh
                by_cases hmn2 : m = n
                · rw [if_pos hmn2]; cases st <;> decide
                · rw [if_neg hmn2, if_neg (fun q => hmn1 q.2.1)]; decide
          · cases hq : zisg N n st m e with
            | false => rfl
            | true => exact absurd (zist_ok (zisg_wh.mp hq).1).2.2 hm
        · rw [if_neg hc10]
          refine ⟨fun z => absurd z (fun q => ?_), fun _ => c92 ?_⟩
          · have := nI_pos (n := eM e) (by omega); rw [q] at this; exact this (by decide)
          · cases hq : zisg N n st m e with
            | false => rfl
            | true => exact absurd (zist_ok (zisg_wh.mp hq).1).2.1 hc10
      · cases hq : zisg N n st m e with
        | false => rfl
        | true => exact absurd (zist_ok (zisg_wh.mp hq).1).1 h3
  · refine zM_nX hl h10 hR hx hn hN100 ?_
    intro x10 hx10
    exact ⟨_, 0, M, F, [], To, rfl, Nat.zero_le _, rfl, rfl, rfl, rfl, rfl, hx10, rfl, h10, hR, by rw [List.append_nil]; exact ht, Nat.le_refl _, hTo, lTo, zSm_refl, zSm_refl, fun m h1 h2 => absurd h1 (by omega)⟩
end TYR
