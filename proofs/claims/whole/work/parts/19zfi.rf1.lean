/-! the reference's rows of cells: isLink, rows, found -/
def zlk (w : Nat) : Bool := w == 11 || w == 13 || decide (15 ≤ w)
def zRk (k : Nat) (L : List Term) : Prop := (k = 10 ∨ k = 12 ∨ k = 14) ∧ (k ≠ 14 → ∀ v ∈ L, zgo v = 0)
theorem zgo_le (v : Term) : zgo v ≤ 1 := by
  unfold zgo
  split
  · split <;> omega
  · omega
theorem zRk_0 {k : Nat} {L : List Term} (h : zRk k L) : zlk k = false ∧ k < 100 := by
  rcases h.1 with rfl | rfl | rfl <;> exact ⟨rfl, by decide⟩
theorem zRk_1 {k : Nat} {v : Term} {L : List Term} (h : zRk k (v :: L)) : zlk (k + 1 + zgo v) = true ∧ k + 1 + zgo v < 100 ∧ zRk k L := by
  have h2 : zRk k L := ⟨h.1, fun z w hw => h.2 z w (List.mem_cons_of_mem _ hw)⟩
  have hg := zgo_le v
  by_cases k14 : k = 14
  · subst k14
    refine ⟨?_, by omega, h2⟩
    unfold zlk
    rw [decide_eq_true (show 15 ≤ 14 + 1 + zgo v by omega), Bool.or_true]
  · rw [h.2 k14 v List.mem_cons_self]
    rcases h.1 with rfl | rfl | rfl
    · exact ⟨rfl, by decide, h2⟩
    · exact ⟨rfl, by decide, h2⟩
    · exact absurd rfl k14
/-- the scratch of order -/
def zS35 (M : Nat → zE) : Prop := ∃ A B, M 35 = zAi A ∧ M 36 = zAi B ∧ A.length = 60 ∧ B.length = 60
/-- an entry whose key can be held against key -/
def zBe (key : Term) (x : Term) : Prop := ∃ cc kk v, x = .add (.div (.arg cc) kk) v ∧ zSimp kk key ∧ zdep kk ≤ 7
section RF1
variable {xs : List Value} {d : Nat} {h : zH} {M : Nat → zE} {F : Nat → Value} {Q : zO → zH → Prop} {ce : List (Nat × Nat × Nat)} {lo : List (Nat × Nat)} {c k b i : Nat} {L : List Term} {key : Term}
theorem zc204 {e : Nat × Nat × Nat} (hl : 50 ≤ h.1.length) (hp : zPo M F ce lo) (hi : ce[c]? = some e) (hw : e.1 < 100) (q : Q (.inl (some (.int (zB (zlk e.1))))) (zov h M)) : zG xs d (204, 0, lv_args 0 [zo (some 10), .int (nI c)], []) (zov h M) Q := by
  apply zm_204
  have yes : zlk e.1 = true → zw_204_38 xs d Q 1 (zov h M) := fun z => ⟨Or.inr rfl, by rw [z] at q; exact q⟩
  have no : zlk e.1 = false → zw_204_38 xs d Q 0 (zov h M) := fun z => ⟨Or.inl rfl, by rw [z] at q; exact q⟩
  refine zM_what hl hp hi (pk_eq e.1 11 (fun z => yes (by rw [z]; rfl)) (fun z => zM_what hl hp hi (pk_eq e.1 13 (fun z2 => yes (by rw [z2]; rfl)) (fun z2 => zM_what hl hp hi (pk_lt e.1 15 (fun z3 => no ?_) (fun z3 => yes ?_))))))
  · unfold zlk
    rw [beq_false_of_ne z, beq_false_of_ne z2, decide_eq_false (by omega)]; rfl
  · unfold zlk
    rw [decide_eq_true z3, Bool.or_true]
theorem zc205 (hl : 50 ≤ h.1.length) (hp : zPo M F ce lo) (hr : zRc ce lo (zenc L) (.inr (c, k))) (hk : zRk k L) (hn : L.length < 1400) (q : Q (.inl (some (.int (nI L.length)))) (zov h M)) : zG xs (d + 1) (205, 0, lv_args 0 [zo (some 10), .int (nI c)], []) (zov h M) Q := by
  refine zm_205 (fun n l0 l2 l3 l4 h0 => ∃ i rest c', n = rest.length ∧ l0 = some 10 ∧ l2 = nI i ∧ l3 = nI c' ∧ l4 = nI i ∧ h0 = zov h M ∧ i + rest.length = L.length ∧ zRk k rest ∧ zRc ce lo (zenc rest) (.inr (c', k))) ?_ ?_
  · rintro n l0 l2 l3 l4 h0 ⟨i, rest, c', rfl, rfl, rfl, rfl, rfl, rfl, hi, hk, hr⟩
    refine pk_lt i 1400 (fun _ => ?_) (fun z => absurd z (by omega))
    cases rest with
    | nil =>
      obtain ⟨a, b, hc⟩ := hr
      obtain ⟨k0, k1⟩ := zRk_0 hk
      refine zM_cv hl hp.1 (zc204 hl hp hc k1 (zKI_v ⟨fun _ => ?_, fun z => absurd (by rw [show ((k, a, b) : Nat × Nat × Nat).1 = k from rfl, k0]; rfl) z⟩))
      have : i = L.length := hi
      subst this
      exact q
    | cons v rest =>
      obtain ⟨hd, bd, hc, hv, hr⟩ := hr
      obtain ⟨k0, k1, k2⟩ := zRk_1 hk
      refine zM_cv hl hp.1 (zc204 hl hp hc k1 (zKI_v ⟨fun z => absurd z (by rw [show ((k + 1 + zgo v, hd, bd) : Nat × Nat × Nat).1 = k + 1 + zgo v from rfl, k0]; decide), fun _ => ?_⟩))
      intro x5 hx5
      refine zM_body hl hp hc ?_
      intro x13 hx
      exact ⟨rest.length, by rw [List.length_cons]; omega, i + 1, rest, bd, rfl, rfl, by rw [hx5, nI_1], rfl, by rw [hx, nI_1], rfl, by rw [List.length_cons] at hi; omega, k2, hr⟩
  · exact ⟨L.length, 0, L, c, rfl, rfl, rfl, rfl, rfl, rfl, by omega, hk, hr⟩
/-- the key of an entry's cell is held against a key -/
theorem zord_e {x : Term} {hd b : Nat} {K : Int32 → zH → Prop} {E : Nat → zH → Prop} (hl : 50 ≤ h.1.length) (hp : zPo M F ce lo) (h35 : zS35 M) (hx : zBe key x) (hc : zRc ce lo x (.inl hd)) (hat : ∃ w bd, ce[c]? = some (w, hd, bd)) (hb : zRc ce lo key (.inl b)) (q : ∀ M', zPo M' F ce lo → zSm [35, 36] M M' → zS35 M' → K (zcmp (zv1 x) key) (zov h M')) : zGR (some 10) 12 31 (zov h M) fun x3 => zGR (some 10) 12 31 (zov h M) fun x5 => zSA x5 (nI c) (zov h M) fun x7 => zSA x3 x7 (zov h M) fun x8 => zCV xs (d + 2) 191 12 (some 10) [Value.int x8, Value.int (nI b)] (zov h M) (zKI K E) := by
  obtain ⟨cc, kk, v, rfl, hs, hd7⟩ := hx
  obtain ⟨w, bd, hat⟩ := hat
  obtain ⟨j, k2, h1, h2, h3⟩ := hc
  obtain ⟨A, B, a1, a2, a3, a4⟩ := h35
  have hp' := hp
  obtain ⟨p1, p2, p3, p4, p5, p6, W, H, B0, U, L0, b1, b2, b3, b4, b5, b6, b7, b8, b9, b10, b11, b12⟩ := hp
  have hcl := (List.getElem?_eq_some_iff.mp hat).1
  have hhl := (List.getElem?_eq_some_iff.mp h1).1
  refine zM_gr hl p1 (p2 (31, 31) (by decide)) (zM_gr hl p1 (p2 (31, 31) (by decide)) (zM_sa (v := nI hd) hl b2 (b11 _ _ hat).2.1 (zM_sa (v := nI j) (j := hd) hl b2 (b11 _ _ h1).2.1 ?_)))
  exact zM_cv hl p1 (zc191 hl hp' hs h2 hb hd7 a1 a2 a3 a4 (fun M' A' B' q1 q2 q3 q4 q5 q6 => zKI_v (q M' q1 q2 ⟨A', B', q3, q4, q5, q6⟩)))
theorem zc215 (hl : 50 ≤ h.1.length) (hp : zPo M F ce lo) (h35 : zS35 M) (hr : zRc ce lo (zenc L) (.inr (c, k))) (hk : zRk k L) (hn : L.length < 1400) (hL : ∀ x ∈ L, zBe key x) (hb : zRc ce lo key (.inl b)) (q0 : zfd key L = .arg 24 → ∀ M', zPo M' F ce lo → zSm [35, 36] M M' → zS35 M' → Q (.inl (some (.int (-1)))) (zov h M')) (q1 : ∀ v c', zfd key L = .div (.arg 25) v → zRc ce lo v (.inl c') → ∀ M', zPo M' F ce lo → zSm [35, 36] M M' → zS35 M' → Q (.inl (some (.int (nI c')))) (zov h M')) : zG xs (d + 2) (215, 0, lv_args 0 [zo (some 10), .int (nI c), .int (nI b)], []) (zov h M) Q := by
  refine zm_215 (fun n l0 l2 l3 l4 h0 => ∃ i rest c' M1, n = rest.length ∧ l0 = some 10 ∧ l2 = nI b ∧ l3 = nI c' ∧ l4 = nI i ∧ h0 = zov h M1 ∧ i + rest.length = L.length ∧ zRk k rest ∧ zRc ce lo (zenc rest) (.inr (c', k)) ∧ zPo M1 F ce lo ∧ zSm [35, 36] M M1 ∧ zS35 M1 ∧ (∀ x ∈ rest, zBe key x) ∧ zfd key L = zfd key rest) ?_ ?_
  · rintro n l0 l2 l3 l4 h0 ⟨i, rest, c', M1, rfl, rfl, rfl, rfl, rfl, rfl, hi, hk, hr, p1, sM, s1, hL1, hz⟩
    refine pk_lt i 1400 (fun _ => ?_) (fun z => absurd z (by omega))
    cases rest with
    | nil =>
      obtain ⟨a, b, hc⟩ := hr
      obtain ⟨k0, k1⟩ := zRk_0 hk
      exact zM_cv hl p1.1 (zc204 hl p1 hc k1 (zKI_v ⟨fun _ => q0 hz M1 p1 sM s1, fun z => absurd (by rw [show ((k, a, b) : Nat × Nat × Nat).1 = k from rfl, k0]; rfl) z⟩))
    | cons x rest =>
      obtain ⟨hd, bd, hc, hv, hr⟩ := hr
      have hk' := hk
      obtain ⟨k0, k1, k2⟩ := zRk_1 hk
      have hx := hL1 x List.mem_cons_self
      refine zM_cv hl p1.1 (zc204 hl p1 hc k1 (zKI_v ⟨fun z => absurd z (by rw [show ((k + 1 + zgo x, hd, bd) : Nat × Nat × Nat).1 = k + 1 + zgo x from rfl, k0]; decide), fun _ => ?_⟩))
      refine zord_e (d := d) hl p1 s1 hx hv ⟨_, _, hc⟩ hb (fun M2 p2 sM2 s2 => ⟨fun z0 => ?_, fun z0 => ?_⟩)
      · have sM3 := zSm_t sM sM2
        rw [zfd, if_pos z0] at hz
        refine zM_what hl p2 hc (pk_eq (k + 1 + zgo x) 16 (fun z1 => ?_) (fun z1 => ?_))
        · have g1 : zgo x = 1 := by
            have := zgo_le x
            rcases hk'.1 with rfl | rfl | rfl <;> omega
          rw [if_pos g1] at hz
          exact q0 hz M2 p2 sM3 s2
        · have g1 : ¬ zgo x = 1 := fun g1 => by
            by_cases k14 : k = 14
            · omega
            · have := hk'.2 k14 x List.mem_cons_self; omega
          rw [if_neg g1] at hz
          obtain ⟨cc, kk, v, rfl, _, _⟩ := hx
          obtain ⟨j, k3, e1, e2, e3⟩ := hv
          obtain ⟨t1, t2, t3, t4, t5, t6, W, H, B0, U, L0, b1, b2, b3, b4, b5, b6, b7, b8, b9, b10, b11, b12⟩ := p2
          have hcl := (List.getElem?_eq_some_iff.mp hc).1
          have hhl := (List.getElem?_eq_some_iff.mp e1).1
          refine zM_gr hl t1 (t2 (32, 32) (by decide)) (zM_gr hl t1 (t2 (31, 31) (by decide)) (zM_sa (v := nI hd) hl b2 (b11 _ _ hc).2.1 (zM_sa (v := nI k3) (j := hd) hl b3 (b11 _ _ e1).2.2 ?_)))
          exact q1 v k3 hz e3 M2 ⟨t1, t2, t3, t4, t5, t6, W, H, B0, U, L0, b1, b2, b3, b4, b5, b6, b7, b8, b9, b10, b11, b12⟩ sM3 s2
      · rw [zfd, if_neg z0] at hz
        refine zM_body hl p2 hc ?_
        intro x18 hx18
        exact ⟨rest.length, by rw [List.length_cons]; omega, i + 1, rest, bd, M2, rfl, rfl, rfl, rfl, by rw [hx18, nI_1], rfl, by rw [List.length_cons] at hi; omega, k2, hr, p2, zSm_t sM sM2, s2, fun y hy => hL1 y (List.mem_cons_of_mem _ hy), hz⟩
  · exact ⟨L.length, 0, L, c, M, rfl, rfl, rfl, rfl, rfl, rfl, by omega, hk, hr, hp, zSm_refl, h35, hL, rfl⟩
/-- a cell's body is changed -/
theorem zPo_body {w a b0 v : Nat} {K : zH → Prop} (hl : 50 ≤ h.1.length) (hp : zPo M F ce lo) (hi : ce[i]? = some (w, a, b0)) (hv : v < 32768) (q : ∀ M', zPo M' F (ce.set i (w, a, v)) lo → zSm [32] M M' → K (zov h M')) : zGR (some 10) 12 32 (zov h M) fun x => zST 3 x (nI i) (Value.int (vp_nar .short (nI v).toInt16.toInt32)) (zov h M) K := by
  obtain ⟨a1, a2, a3, a4, a5, a6, W, H, B, U, L, b1, b2, b3, b4, b5, b6, b7, b8, b9, b10, b11, b12⟩ := hp
  have hil := (List.getElem?_eq_some_iff.mp hi).1
  rw [znar_h hv]
  refine zM_gr hl a1 (a2 (32, 32) (by decide)) (zM_sth hl b3 (by omega) (by omega) ?_)
  refine q _ ⟨by rw [zub_n (by decide)]; exact a1, a2, by rw [List.length_set]; exact a3, a4, by rw [List.length_set]; exact a5, a6, W, H, B.set i (nI v), U, L, by rw [zub_n (by decide)]; exact b1, by rw [zub_n (by decide)]; exact b2, zub_s, by rw [zub_n (by decide)]; exact b4, by rw [zub_n (by decide)]; exact b5, b6, b7, by rw [List.length_set]; exact b8, b9, b10, fun j e hj => ?_, b12⟩ (zSm_ub zSm_refl (by decide))
  by_cases hji : j = i
  · subst hji
    rw [List.getElem?_set_self hil] at hj
    cases hj
    obtain ⟨c1, c2, c3⟩ := b11 j _ hi
    exact ⟨c1, c2, by rw [List.getElem?_set_self (by omega)]⟩
  · rw [List.getElem?_set_ne (Ne.symm hji)] at hj
    obtain ⟨c1, c2, c3⟩ := b11 j e hj
    exact ⟨c1, c2, by rw [List.getElem?_set_ne (Ne.symm hji)]; exact c3⟩
end RF1
