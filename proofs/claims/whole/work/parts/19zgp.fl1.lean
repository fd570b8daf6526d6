section FL1
variable {xs : List Value} {d : Nat} {h : zH} {N : List zNt} {M0 M : Nat → zE} {F0 F : Nat → Value} {Q : zO → zH → Prop} {ce : List (Nat × Nat × Nat)} {lo : List (Nat × Nat)} {Ts vs : List Term} {pd : List Int32} {most p c ca j : Nat} {T V v : Term}
theorem zmapid {f : Term → Term} : ∀ L : List Term, (∀ v ∈ L, f v = v) → L.map f = L
  | [], _ => rfl
  | v :: L, h => by rw [List.map_cons, h v List.mem_cons_self, zmapid L (fun x hx => h x (List.mem_cons_of_mem _ hx))]
/-- without a big nothing is shown otherwise -/
theorem zNob_id : ∀ (T : Term), zNob T → ∀ V, zVt T V → znm V = V ∧ zshw V = V := by
  intro T
  fun_induction zNob T with
  | case1 c a ih =>
    intro h V hv
    rcases hv with ⟨_, rfl | ⟨v, rfl, hv⟩⟩ | ⟨_, L, rfl, hL⟩
    · exact ⟨rfl, rfl⟩
    · obtain ⟨i1, i2⟩ := ih h v hv
      exact ⟨by rw [znm, i1], by rw [zshw, i2]⟩
    · refine ⟨?_, ?_⟩
      · rw [znm, znm_enc, zmapid L (fun v hv => (ih h v (hL v hv)).1)]
      · rw [zshw, zshw_enc, zmapid L (fun v hv => (ih h v (hL v hv)).2)]
  | case2 c a b ih1 ih2 =>
    rintro ⟨h0, h1, h2⟩ V hv
    rcases hv with ⟨_, x, y, rfl, q1, q2⟩ | ⟨_, ⟨v, rfl, hv⟩ | ⟨v, rfl, hv⟩⟩ | ⟨_, es, rfl, hL, _⟩ | ⟨z, _⟩
    · obtain ⟨i1, i2⟩ := ih1 h1 x q1
      obtain ⟨i3, i4⟩ := ih2 h2 y q2
      exact ⟨by rw [znm, znm, i1, i3], by rw [zshw, zshw, i2, i4]⟩
    · obtain ⟨i1, i2⟩ := ih1 h1 v hv
      exact ⟨by rw [znm, i1], by rw [zshw, i2]⟩
    · obtain ⟨i1, i2⟩ := ih2 h2 v hv
      exact ⟨by rw [znm, i1], by rw [zshw, i2]⟩
    · refine ⟨?_, ?_⟩
      · rw [znm, znm_enc, zmapid]
        intro v hv
        obtain ⟨e, he, rfl⟩ := List.mem_map.mp hv
        show znm (.add (.div (.arg 28) e.1) e.2) = .add (.div (.arg 28) e.1) e.2
        rw [znm, znm, (ih1 h1 _ (hL e he).1).1, (ih2 h2 _ (hL e he).2).1]
      · rw [zshw, zshw_enc, zmapid]
        intro v hv
        obtain ⟨e, he, rfl⟩ := List.mem_map.mp hv
        show zshw (.add (.div (.arg 28) e.1) e.2) = .add (.div (.arg 28) e.1) e.2
        rw [zshw, zshw, (ih1 h1 _ (hL e he).1).2, (ih2 h2 _ (hL e he).2).2]
    · exact absurd z h0
  | case3 T h1 h2 =>
    intro _ V hv
    unfold zVt at hv
    split at hv
    · rcases hv with ⟨_, rfl⟩ | ⟨_, rfl | rfl⟩ | ⟨_, s, n, rfl, _⟩ | ⟨_, k, w, rfl, _⟩ <;> exact ⟨rfl, rfl⟩
    · rename_i T' c a; exact absurd rfl (h1 c a)
    · rename_i T' c a b; exact absurd rfl (h2 c a b)
    · exact hv.elim
theorem zNob_sw {st : Bool} (hT : zNob T) (hv : zVt T V) : zsw st V = V := by
  obtain ⟨a, b⟩ := zNob_id T hT V hv
  unfold zsw
  cases st with
  | true => exact a
  | false => show zshw (znm V) = V; rw [a, b]
theorem zsim_nob : ∀ (T : Term), ztsim T = true → zNob T ∧ ∀ V, zVt T V → zmr V = 0 ∧ znd V + 1 ≤ 2 ^ ztdep T := by
  intro T
  fun_induction ztsim T with
  | case1 c =>
    intro _
    refine ⟨trivial, fun V hv => ?_⟩
    rcases hv with ⟨_, rfl⟩ | ⟨_, rfl | rfl⟩ | ⟨_, s, n, rfl, _⟩ | ⟨_, k, w, rfl, _⟩ <;> exact ⟨rfl, show 1 + 1 ≤ 2 ^ 1 by decide⟩
  | case2 c a b ih1 ih2 =>
    intro h
    simp only [Bool.and_eq_true, beq_iff_eq] at h
    obtain ⟨⟨hc, h1⟩, h2⟩ := h
    obtain ⟨i1, i2⟩ := ih1 h1
    obtain ⟨i3, i4⟩ := ih2 h2
    refine ⟨⟨by omega, i1, i3⟩, fun V hv => ?_⟩
    rcases hv with ⟨_, x, y, rfl, q1, q2⟩ | ⟨z, _⟩ | ⟨z, _⟩ | ⟨z, _⟩
    · obtain ⟨e1, e2⟩ := i2 x q1
      obtain ⟨e3, e4⟩ := i4 y q2
      refine ⟨by show max (zmr x) (zmr y) = 0; omega, ?_⟩
      show 1 + (znd x + znd y) + 1 ≤ 2 ^ (1 + max (ztdep a) (ztdep b))
      have p1 : 2 ^ ztdep a ≤ 2 ^ max (ztdep a) (ztdep b) := Nat.pow_le_pow_right (by decide) (by omega)
      have p2 : 2 ^ ztdep b ≤ 2 ^ max (ztdep a) (ztdep b) := Nat.pow_le_pow_right (by decide) (by omega)
      rw [Nat.pow_add]
      omega
    all_goals omega
  | case3 => intro h; cases h
/-- sign() of any cell -/
theorem zc192x {w a b : Nat} (hl : 50 ≤ h.1.length) (hp : zPo M F ce lo) (hc : ce[c]? = some (w, a, b)) (q : ∀ x : Int32, Q (.inl (some (.int x))) (zov h M)) : zG xs d (192, 0, lv_args 0 [zo (some 10), .int (nI c)], []) (zov h M) Q := by
  apply zm_192
  exact zM_body hl hp hc ⟨fun _ => q _, fun _ => q _⟩
theorem znum_c {w xa xb : Nat} (hk : zTok T) (hv : zVt T v) (hca : zRc ce lo v (.inl ca)) (hc : ce[ca]? = some (w, xa, xb)) (hw : nI w = 3) : ∃ q, lo[xa]? = some q := by
  have h10 := zTok_c hk
  have no : ∀ {w2 x y : Nat}, w2 ≠ 3 ∧ w2 < 100 → ce[ca]? = some (w2, x, y) → False := fun hne h1 => by
    rw [hc] at h1
    injection h1 with h1
    injection h1 with h1 _
    rw [h1] at hw
    exact hne.1 ((nI_eq (b := 3) (by omega) (by decide)).mp hw)
  rcases (by omega : ztc T = 0 ∨ ztc T = 1 ∨ (ztc T = 2 ∨ ztc T = 3) ∨ ztc T = 4 ∨ ztc T = 5 ∨ ztc T = 6 ∨ ztc T = 7 ∨ ztc T = 8 ∨ ztc T = 9 ∨ ztc T = 10) with q | q | q | q | q | q | q | q | q | q
  · have e := zVt_unit hk q hv
    subst e
    obtain ⟨a, b, h1⟩ := hca
    exact (no (by decide) h1).elim
  · rcases zVt_bool hk q hv with e | e <;> (subst e; obtain ⟨a, b, h1⟩ := hca; exact (no (by decide) h1).elim)
  · obtain ⟨s, n, e, _⟩ := zVt_num hk q hv
    subst e
    obtain ⟨⟨j, h1, h2⟩, _⟩ := hca
    rw [hc] at h1
    injection h1 with h1
    injection h1 with _ h1
    injection h1 with h1 _
    rw [h1]
    exact ⟨_, h2⟩
  · obtain ⟨k, w, e, _⟩ := zVt_text hk q hv
    subst e
    obtain ⟨⟨j, h1, h2⟩, _⟩ := hca
    exact (no (by decide) h1).elim
  · obtain ⟨x, y, e, _⟩ := zVt_pair hk q hv
    subst e
    obtain ⟨j, k, h1, _⟩ := hca
    exact (no (by decide) h1).elim
  · rcases zVt_opt hk q hv with e | ⟨u, e, _⟩
    · subst e
      obtain ⟨a, b, h1⟩ := hca
      exact (no (by decide) h1).elim
    · subst e
      obtain ⟨a, b, h1, _⟩ := hca
      exact (no (by decide) h1).elim
  · rcases zVt_or hk q hv with ⟨u, e, _⟩ | ⟨u, e, _⟩ <;> (subst e; obtain ⟨a, b, h1, _⟩ := hca; exact (no (by decide) h1).elim)
  · obtain ⟨L, e, _⟩ := zVt_list hk q hv
    subst e
    cases L with
    | nil => obtain ⟨a, b, h1⟩ := hca; exact (no (by decide) h1).elim
    | cons x L => obtain ⟨a, b, h1, _⟩ := hca; have := zgo_le x; exact (no (by omega) h1).elim
  · obtain ⟨L, e, _⟩ := zVt_map hk q hv
    subst e
    cases L with
    | nil => obtain ⟨a, b, h1⟩ := hca; exact (no (by decide) h1).elim
    | cons x L => obtain ⟨a, b, h1, _⟩ := hca; exact (no (show 12 + 1 + 0 ≠ 3 ∧ 12 + 1 + 0 < 100 by decide) h1).elim
  · obtain ⟨L, e, _⟩ := zVt_big hk q hv
    subst e
    cases L with
    | nil => obtain ⟨a, b, h1⟩ := hca; exact (no (by decide) h1).elim
    | cons x L => obtain ⟨a, b, h1, _⟩ := hca; have := zgo_le x; exact (no (by omega) h1).elim
/-- act() of FAIL -/
theorem zc207f {b : Int32} (hl : 50 ≤ h.1.length) (ws : zWS N M0 M F0 F Ts (v :: vs) most pd p ce lo) (hcl : ce.length ≤ 1300) (hca : zRc ce lo v (.inl ca)) (hT : zTg1 T) (hsim : ztsim T = true ∨ ztc T = 0) (hd : ztdep T ≤ 8) (hv : zVt T v) (h37 : ∃ A : List Int32, M0 37 = zAi A ∧ A.length = 60) (h12 : ∃ A : List Int32, M0 12 = zAi A ∧ A.length = 2800) (k : ∀ M' F', M' 10 = zMo F' → zSm (12 :: 37 :: zwkS) M0 M' → zSm (4 :: 29 :: zwkT) F0 F' → zWr M' F' (zser v) → Q (.inl (some (.int 4))) (zov h M')) : zG xs (d + 8) (207, 0, lv_args 0 [zo (some 10), .int (nI j), .int (nI 76), .int (nI ca), .int b], []) (zov h M) (fun o h' => o = .inl (some (.int 4)) ∧ Q (.inl (some (.int 4))) h') := by
  obtain ⟨f1, f2, f3, f4⟩ := zfail_w hT hsim hd hv
  have hnob : zNob T ∧ zmr v = 0 ∧ znd v ≤ 255 := by
    rcases hsim with z | z
    · obtain ⟨q1, q2⟩ := zsim_nob T z
      obtain ⟨q3, q4⟩ := q2 v hv
      have : 2 ^ ztdep T ≤ 2 ^ 8 := Nat.pow_le_pow_right (by decide) hd
      exact ⟨q1, q3, by omega⟩
    · have e := zVt_unit hT.1 z hv
      refine ⟨?_, by rw [e]; rfl, by rw [e]; decide⟩
      have hk := hT.1
      unfold zTok at hk
      split at hk
      · trivial
      · rename_i c a; have : c = 0 := z; omega
      · rename_i c a b; have : c = 0 := z; omega
      · exact hk.elim
  obtain ⟨n1, n2, n3⟩ := hnob
  have esw : zsw false v = v := zNob_sw n1 hv
  have ebw := zbw_0 T n1 v hv
  obtain ⟨a1, a2, a3, a4, a5, a6, a7, a8, a9⟩ := ws
  have h35 : zS35 M := by
    obtain ⟨To, Cl, A, B, _, _, _, _, q5, q6, q7, q8⟩ := a8
    exact ⟨A, B, q5, q6, q7, q8⟩
  obtain ⟨A37, e37, l37⟩ := h37
  obtain ⟨A12, e12, l12⟩ := h12
  apply zm_207
  refine ⟨fun _ => ?_, fun z => absurd (show nI 76 = 76 from rfl) z⟩
  refine zM_cv hl a1.1 (zc208 (d := d + 4) (st := false) (limit := 300) hl a1 h35 ⟨A37, (a2 37 (by decide)).trans e37, l37⟩ ⟨A12, (a2 12 (by decide)).trans e12, l12⟩ ⟨hT, zNob_bgt T n1, hd⟩ hv (by omega) hca (by omega) (Nat.le_refl _) (Or.inr (by rw [esw]; omega)) (fun _ M' F' X p' lx s35 sM sF wr _ _ => zKI_v ?_) (fun z => absurd z (by rw [esw]; omega)))
  rw [esw] at wr
  have hX : X = [] := List.eq_nil_of_length_eq_zero (by omega)
  subst hX
  rw [List.append_nil] at p'
  obtain ⟨⟨w, xa, xb⟩, hcell⟩ : ∃ q, ce[ca]? = some q := ⟨_, List.getElem?_eq_getElem (zRc_lt _ _ hca ca (Or.inl rfl))⟩
  -- the end: four
  have fin : ∀ (x : Int32) (M2 : Nat → zE) (F2 : Nat → Value), M2 10 = zMo F2 → zSm [10, 30, 31, 32] M' M2 → zSm [27] F' F2 → zw_207_42 xs (d + 8) (fun o h' => o = .inl (some (.int 4)) ∧ Q (.inl (some (.int 4))) h') (some 10) (nI 76) (nI ca) x (zov h M2) := by
    intro x M2 F2 m2 sM2 sF2
    have last : zw_207_57 xs (d + 8) (fun o h' => o = .inl (some (.int 4)) ∧ Q (.inl (some (.int 4))) h') (nI 76) (zov h M2) := by
      refine ⟨fun _ => ⟨rfl, ?_⟩, fun z => absurd (show nI 76 = 76 from rfl) z⟩
      refine k M2 F2 m2 (zSm_trans (zSm_trans (U := 12 :: 37 :: zwkS) a2 sM (by decide) (by decide)) sM2 (fun _ z => z) (by decide)) (zSm_trans (zSm_trans (U := 4 :: 29 :: zwkT) a3 sF (by decide) (by decide)) sF2 (fun _ z => z) (by decide)) (zWr_sm wr sM2 sF2 (by decide) (by decide))
    exact ⟨fun _ => last, fun _ => ⟨fun _ => last, fun z => absurd (show nI 76 = 76 from rfl) z⟩⟩
  refine ⟨fun z => absurd z (by decide), fun _ => ?_⟩
  refine zM_cv hl p'.1 (zm_217 ?_)
  -- truth()
  have tru : ∀ (s : Bool) (x : Int32), x = zB s → zw_217_489 xs (d + 7) (zKI (fun x1 h2 => zw_207_42 xs (d + 8) (fun o h' => o = .inl (some (.int 4)) ∧ Q (.inl (some (.int 4))) h') (some 10) (nI 76) (nI ca) x1 h2) (fun e h => (Sum.inr e : zO) = .inl (some (.int 4)) ∧ Q (.inl (some (.int 4))) h)) x (some 10) (zov h M') := by
    intro s x hx
    subst hx
    refine zM_cv hl p'.1 (zc188 hl p' (by omega) (fun M2 F2 p2 sM2 sF2 => zKI_v (zKI_v ?_)))
    exact fin _ M2 F2 p2.1 sM2 sF2
  have e81 : ∀ l5 : Int32, zw_217_81 xs (d + 7) (zKI (fun x1 h2 => zw_207_42 xs (d + 8) (fun o h' => o = .inl (some (.int 4)) ∧ Q (.inl (some (.int 4))) h') (some 10) (nI 76) (nI ca) x1 h2) (fun e h => (Sum.inr e : zO) = .inl (some (.int 4)) ∧ Q (.inl (some (.int 4))) h)) (some 10) (nI 76) (nI ca) b l5 0 (zov h M') := by
    intro l5
    refine ⟨fun z => absurd z (by decide), fun z => absurd z (by decide), fun z => absurd z (by decide), fun z => absurd z (by decide), fun z => absurd z (by decide), fun z => absurd z (by decide), fun z => absurd z (by decide), fun z => absurd z (by decide), fun z => absurd z (by decide), fun _ => ⟨fun z => absurd z (by decide), fun _ => ⟨fun z => absurd z (by decide), fun _ => ⟨fun z => absurd z (by decide), fun _ => ⟨fun z => absurd z (by decide), fun _ => ⟨fun z => absurd z (by decide), fun _ => ⟨fun _ => tru false 0 rfl, fun _ => tru true 1 rfl⟩⟩⟩⟩⟩⟩⟩
  have e63 : ∀ l5 : Int32, zw_217_63 xs (d + 7) (zKI (fun x1 h2 => zw_207_42 xs (d + 8) (fun o h' => o = .inl (some (.int 4)) ∧ Q (.inl (some (.int 4))) h') (some 10) (nI 76) (nI ca) x1 h2) (fun e h => (Sum.inr e : zO) = .inl (some (.int 4)) ∧ Q (.inl (some (.int 4))) h)) (some 10) (nI 76) (nI ca) b l5 (zov h M') := fun l5 => ⟨fun z => absurd z (by decide), fun _ => e81 l5⟩
  have e46 : zw_217_47 xs (d + 7) (zKI (fun x1 h2 => zw_207_42 xs (d + 8) (fun o h' => o = .inl (some (.int 4)) ∧ Q (.inl (some (.int 4))) h') (some 10) (nI 76) (nI ca) x1 h2) (fun e h => (Sum.inr e : zO) = .inl (some (.int 4)) ∧ Q (.inl (some (.int 4))) h)) (some 10) (nI 76) (nI ca) b 0 (zov h M') := ⟨fun _ => zM_cv hl p'.1 (zc192x hl p' hcell (fun x => zKI_v (e63 x))), fun z => absurd rfl z⟩
  refine zM_what hl p' hcell ⟨fun z3 => ?_, fun _ => e46⟩
  obtain ⟨⟨q1, q2⟩, hq⟩ := znum_c hT.1 hv hca hcell z3
  have hql := (List.getElem?_eq_some_iff.mp hq).1
  have p'' := p'
  obtain ⟨p1, p2, p3, p4, p5, p6, W, H, B0, U, L0, b1, b2, b3, b4, b5, b6, b7, b8, b9, b10, b11, b12⟩ := p''
  refine zM_gr hl p1 (p2 (33, 33) (by decide)) (zM_head hl p' hcell (zM_la (j := xa) hl b4 (b12 _ _ hq).1 ⟨fun _ => ?_, fun _ => e46⟩))
  exact zM_gr hl p1 (p2 (34, 34) (by decide)) (zM_head hl p' hcell (zM_la (j := xa) hl b5 (b12 _ _ hq).2 ⟨fun _ => ⟨fun z => absurd z (by decide), fun _ => e63 0⟩, fun _ => e46⟩))
end FL1
