/-! the reference at work: its loop -/
def zC22 (xs : List Value) (d : Nat) (Q : zO → zH → Prop) (l0 : zP) (l1 l2 l3 l4 : Int32) (h : zH) : Prop := ∀ lv : List (Nat × Value), zgetl lv 0 = some (zo l0) → zgetl lv 1 = some (Value.int l1) → zgetl lv 2 = some (Value.int l2) → zgetl lv 3 = some (Value.int l3) → zgetl lv 4 = some (Value.int l4) → zG xs d (201, 22, lv, []) h Q
theorem zC22_i {xs : List Value} {d : Nat} {Q : zO → zH → Prop} {l0 : zP} {l1 l2 l3 l4 : Int32} {h : zH} (w : zw_201_22 xs d Q (zC22 xs d Q) l0 l1 l2 l3 l4 h) : zC22 xs d Q l0 l1 l2 l3 l4 h := fun lv g0 g1 g2 g3 g4 => zs_201_22 (J22 := zC22 xs d Q) (fun _ _ _ _ _ _ lv' g0 g1 g2 g3 g4 hJ => hJ lv' g0 g1 g2 g3 g4) g0 g1 g2 g3 g4 w
/-- what a run's bad end wants -/
def zErw (xs : List Value) (d : Nat) (h : zH) (N : List zNt) (M0 : Nat → zE) (F0 : Nat → Value) (Q : zO → zH → Prop) (R : zro) : Prop :=
  (∀ x, R = .inl (2, x) → ∀ M' F' Ts' vs' most' pd' p' ce' lo', zWS N M0 M' F0 F' Ts' vs' most' pd' p' ce' lo' → Q (.inl (some (.int 2))) (zov h M')) ∧
  (∀ x, R = .inl (3, x) → ∀ M' F' Ts' vs' most' pd' p' ce' lo', zWS N M0 M' F0 F' Ts' vs' most' pd' p' ce' lo' → Q (.inl (some (.int 3))) (zov h M')) ∧
  (∀ v, R = .inl (4, v) → ∀ M F Ts vs most pd p ce lo T j ca b, zWS N M0 M F0 F Ts (v :: vs) most pd p ce lo → ce.length ≤ 1300 → zRc ce lo v (.inl ca) → zTg1 T → (ztsim T = true ∨ ztc T = 0) → ztdep T ≤ 8 → zVt T v → zG xs (d + 8) (207, 0, lv_args 0 [zo (some 10), .int (nI j), .int (nI 76), .int (nI ca), .int b], []) (zov h M) (fun o h' => o = .inl (some (.int 4)) ∧ Q (.inl (some (.int 4))) h'))
/-- the room that is left -/
def zRs (N : List zNt) (A : List Nat) (Ts : List Term) (ce : List (Nat × Nat × Nat)) (lo : List (Nat × Nat)) (pd : List Int32) (p : Nat) : Prop := ce.length + 2 * zpw N A pd ≤ 601 + 4 * p ∧ lo.length + zpw N A pd ≤ 300 + 2 * p ∧ Ts.length + zpw N A pd ≤ 220
/-- how much was taken from there to there -/
def zGw (N : List zNt) (A : List Nat) (Ts : List Term) (ce : List (Nat × Nat × Nat)) (lo : List (Nat × Nat)) (pd : List Int32) (p : Nat) (Ts' : List Term) (ce' : List (Nat × Nat × Nat)) (lo' : List (Nat × Nat)) (pd' : List Int32) (p' : Nat) : Prop := ce'.length + 2 * zpw N A pd' + 4 * p ≤ ce.length + 2 * zpw N A pd + 4 * p' ∧ lo'.length + zpw N A pd' + 2 * p ≤ lo.length + zpw N A pd + 2 * p' ∧ Ts'.length + zpw N A pd' ≤ Ts.length + zpw N A pd
/-- going on at nx, when a run ended well -/
def zCow (xs : List Value) (d : Nat) (h : zH) (N : List zNt) (M0 : Nat → zE) (F0 : Nat → Value) (Q : zO → zH → Prop) (A : List Nat) (R : zro) (D nx stop : Nat) (M : Nat → zE) (Ts : List Term) (ce : List (Nat × Nat × Nat)) (lo : List (Nat × Nat)) (pd : List Int32) (p : Nat) : Prop := ∀ vs' p', R = .inr (vs', p') → p ≤ p' → ∀ M' F' Ts' most' pd' X Y t', zWS N M0 M' F0 F' Ts' vs' most' pd' p' (ce ++ X) (lo ++ Y) → zGw N A Ts ce lo pd p Ts' (ce ++ X) (lo ++ Y) pd' p' → zFq D M M' → t' + D ≤ 2 * p' → zC22 xs d Q (some 10) (nI D) (nI nx) (nI stop) (nI t') (zov h M')
section RN6
variable {xs : List Value} {d : Nat} {h : zH} {N : List zNt} {M0 M M' : Nat → zE} {F0 F F' : Nat → Value} {Q : zO → zH → Prop} {ce : List (Nat × Nat × Nat)} {lo : List (Nat × Nat)} {Ts vs w : List Term} {pd : List Int32} {most p bits bound j fr D t stop r at_ : Nat} {a39 a41 a42 a43 : Int32} {V : Term} {e : zNt} {A : List Nat} {J : zP → Int32 → Int32 → Int32 → Int32 → zH → Prop} {R R1 : zro}
theorem zGw_t {Ts' Ts2 : List Term} {ce' ce2 : List (Nat × Nat × Nat)} {lo' lo2 : List (Nat × Nat)} {pd' pd2 : List Int32} {p' p2 : Nat} (a : zGw N A Ts ce lo pd p Ts' ce' lo' pd' p') (b : zGw N A Ts' ce' lo' pd' p' Ts2 ce2 lo2 pd2 p2) : zGw N A Ts ce lo pd p Ts2 ce2 lo2 pd2 p2 := by
  obtain ⟨a1, a2, a3⟩ := a
  obtain ⟨b1, b2, b3⟩ := b
  exact ⟨by omega, by omega, by omega⟩
theorem zGw_r {Ts' : List Term} {ce' : List (Nat × Nat × Nat)} {lo' : List (Nat × Nat)} {pd' : List Int32} {p' : Nat} (a : zGw N A Ts ce lo pd p Ts' ce' lo' pd' p') (b : zRs N A Ts ce lo pd p) : zRs N A Ts' ce' lo' pd' p' := by
  obtain ⟨a1, a2, a3⟩ := a
  obtain ⟨b1, b2, b3⟩ := b
  exact ⟨by omega, by omega, by omega⟩
theorem zErw_of (g : zErw xs d h N M0 F0 Q R) (he : ∀ e, R1 = .inl e → R = .inl e) : zErw xs d h N M0 F0 Q R1 := ⟨fun x hx => g.1 x (he _ hx), fun x hx => g.2.1 x (he _ hx), fun v hv => g.2.2 v (he _ hv)⟩
theorem zg225n (q : J (some 10) (nI D) (nI at_) (nI stop) (nI (t + 1)) h) : zw_201_225 xs d Q J (some 10) (nI D) (nI at_) (nI stop) (nI t) (-1) h := by
  refine ⟨fun z => absurd z (by decide), fun _ => ⟨fun _ => ?_, fun z => absurd (by decide) z⟩⟩
  intro x3 hx3
  rw [show nI D + (0 : Int32) = nI D from nI_add D 0] at hx3
  subst hx3
  refine ⟨fun _ => ⟨fun _ => ?_, fun z => absurd (by decide) z⟩, fun z => absurd (by decide) z⟩
  intro x5 hx5
  subst hx5
  rw [nI_1]
  exact q
theorem zg225r (hl : 50 ≤ h.1.length) (hw : zWC N fr bits bound M0 F0) (hs : zWS N M0 M F0 F Ts vs most pd p ce lo) (hr : r < N.length) (q : J (some 10) (nI (D + 1)) (nI (r + 1)) (nI (znx N r)) (nI (t + 1)) (zov h M)) : zw_201_225 xs d Q J (some 10) (nI D) (nI at_) (nI stop) (nI t) (nI r) (zov h M) := by
  obtain ⟨r1, r2, r3, r4⟩ := zWS_c hs hw
  refine ⟨fun z => absurd (show nI r < 0 by rw [z]; decide) (nI_pos (by omega)), fun _ => ⟨fun z => absurd z (nI_pos (by omega)), fun _ => ?_⟩⟩
  intro x3 hx3
  rw [nI_1] at hx3
  subst hx3
  refine ⟨fun z => absurd z (nI_pos (by omega)), fun _ => zM_nX hl hs.1.1 hs.1.2.1 r2 hr r4 ⟨fun z => absurd z (nI_pos (by omega)), fun _ => ?_⟩⟩
  rw [nI_1]
  intro x5 hx5
  subst hx5
  rw [nI_1]
  exact q
theorem zg225x (q : Q (.inl (some (.int 2))) h) : zw_201_225 xs d Q J (some 10) (nI D) (nI at_) (nI stop) (nI t) (-2) h := ⟨fun _ => q, fun z => absurd rfl z⟩
/-- the end of a row: again(), then where it says -/
theorem zclose (hl : 50 ≤ h.1.length) (hw : zWC N fr bits bound M0 F0) (hs : zWS N M0 M F0 F Ts vs most pd p ce lo) (hD : D < 12) (hj : j < N.length) (ht : t < 3000)
    (g : ∀ Q0 : zO → zH → Prop, (∀ (row : Int32) (M' : Nat → zE) (F' : Nat → Value) (Ts' vs' : List Term) (most' : Nat) (pd' : List Int32) (p' : Nat) (ce' : List (Nat × Nat × Nat)) (lo' : List (Nat × Nat)), zWS N M0 M' F0 F' Ts' vs' most' pd' p' ce' lo' → zAt M' 38 D = some (nI j) → zAt M' 39 D = some (nI stop) → zw_201_225 xs (d + 4) Q (zC22 xs (d + 4) Q) (some 10) (nI D) (nI (znx N j)) (nI stop) (nI t) row (zov h M') → Q0 (.inl (some (.int row))) (zov h M')) → zG xs (d + 3) (202, 0, lv_args 0 [zo (some 10), .int (nI D)], []) (zov h M) Q0) : zC22 xs (d + 4) Q (some 10) (nI (D + 1)) (nI at_) (nI at_) (nI t) (zov h M) := by
  apply zC22_i
  refine pk_lt t 3000 (fun _ => ⟨fun _ => ⟨fun z => absurd ((nI_eq (a := D + 1) (b := 0) (by omega) (by omega)).mp z) (by omega), fun _ => ?_⟩, fun z => absurd rfl z⟩) (fun z => absurd z (by omega))
  intro x28 hx28
  rw [pk_m1] at hx28
  subst hx28
  refine zM_cv hl hs.1.1 (g _ (fun row M' F' Ts' vs' most' pd' p' ce' lo' ws q38 q39 q => zKI_v ?_))
  exact znxt hl hw ws hD hj q38 (zfg hl ws (q := 39) (by decide) hD q39 q)
end RN6
