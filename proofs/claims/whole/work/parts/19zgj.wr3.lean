/-! writeValue(): its state -/
def zTd (M : Nat → zE) (td : List Int32) : Prop := ∃ T : List Int32, M 37 = zAi T ∧ T.length = 60 ∧ ∀ (j : Nat) (x : Int32), td[j]? = some x → T[td.length - 1 - j]? = some x
def zY2 (M : Nat → zE) (F : Nat → Value) (M1 : Nat → zE) (F1 : Nat → Value) (cX : List (Nat × Nat × Nat)) (lo : List (Nat × Nat)) (O : List Nat) (cn : Nat) (td : List Int32) : Prop := zPo M1 F1 cX lo ∧ zS35 M1 ∧ zSm [10, 12, 30, 31, 32, 35, 36, 37] M M1 ∧ zSm [4, 27, 29] F F1 ∧ zWr M1 F1 O ∧ F1 29 = .int (nI cn) ∧ zTd M1 td
section WR3
variable {xs : List Value} {d : Nat} {h : zH} {M M1 M' M2 : Nat → zE} {F F1 F' F2 : Nat → Value} {Q : zO → zH → Prop} {ce cX : List (Nat × Nat × Nat)} {lo : List (Nat × Nat)} {O O1 O2 : List Nat} {b n c cn limit t : Nat} {td : List Int32} {J : zP → Int32 → Int32 → Int32 → Int32 → zH → Prop} {st : Int32}
theorem zS35_sm {S : List Nat} (hs : zS35 M) (hM : zSm S M M') (h5 : 35 ∉ S) (h6 : 36 ∉ S) : zS35 M' := by
  obtain ⟨A, B, a1, a2, a3, a4⟩ := hs
  exact ⟨A, B, (hM 35 h5).trans a1, (hM 36 h6).trans a2, a3, a4⟩
theorem zTd_sm {S : List Nat} (hs : zTd M td) (hM : zSm S M M') (h5 : 37 ∉ S) : zTd M' td := by
  obtain ⟨T, a1, a2, a3⟩ := hs
  exact ⟨T, (hM 37 h5).trans a1, a2, a3⟩
theorem zWr_sm {S T : List Nat} (hs : zWr M F O) (hM : zSm S M M') (hF : zSm T F F') (h5 : 12 ∉ S) (h6 : 4 ∉ T) : zWr M' F' O := by
  obtain ⟨a1, a2, A, a3, a4, a5⟩ := hs
  exact ⟨(hF 4 h6).trans a1, a2, A, (hM 12 h5).trans a3, a4, a5⟩
/-- something was written -/
theorem zY2_w (hs : zY2 M F M1 F1 cX lo O cn td) (hd : zWd M1 M2 F1 F2 O2) : zY2 M F M2 F2 cX lo O2 cn td := by
  obtain ⟨a1, a2, a3, a4, a5, a6, a7⟩ := hs
  obtain ⟨b1, b2, b3, b4⟩ := hd
  exact ⟨zWd_p a1 ⟨b1, b2, b3, b4⟩, zS35_sm a2 b2 (by decide) (by decide), zSm_trans a3 b2 (fun _ z => z) (by decide), zSm_trans a4 b3 (fun _ z => z) (by decide), b4, (b3 29 (by decide)).trans a6, zTd_sm a7 b2 (by decide)⟩
/-- something was counted -/
theorem zY2_c (hs : zY2 M F M1 F1 cX lo O cn td) (n : Nat) : zY2 M F (zub M1 10 (zMo (zub F1 29 (.int (nI n))))) (zub F1 29 (.int (nI n))) cX lo O n td := by
  obtain ⟨a1, a2, a3, a4, a5, a6, a7⟩ := hs
  have sM : zSm [10] M1 (zub M1 10 (zMo (zub F1 29 (.int (nI n))))) := zSm_ub zSm_refl (by decide)
  have sF : zSm [29] F1 (zub F1 29 (.int (nI n))) := zSm_ub zSm_refl (by decide)
  exact ⟨zPo_sm a1 zub_s sM sF (by decide) (by decide), zS35_sm a2 sM (by decide) (by decide), zSm_trans a3 sM (fun _ z => z) (by decide), zSm_trans a4 sF (fun _ z => z) (by decide), zWr_sm a5 sM sF (by decide) (by decide), zub_s, zTd_sm a7 sM (by decide)⟩
/-- a big was settled -/
theorem zY2_s {X : List (Nat × Nat × Nat)} (hs : zY2 M F M1 F1 cX lo O cn td) (hp : zPo M2 F2 (cX ++ X) lo) (hM : zSm [10, 30, 31, 32, 35, 36] M1 M2) (hF : zSm [27] F1 F2) (h35 : zS35 M2) : zY2 M F M2 F2 (cX ++ X) lo O cn td := by
  obtain ⟨a1, a2, a3, a4, a5, a6, a7⟩ := hs
  exact ⟨hp, h35, zSm_trans a3 hM (fun _ z => z) (by decide), zSm_trans a4 hF (fun _ z => z) (by decide), zWr_sm a5 hM hF (by decide) (by decide), (hF 29 (by decide)).trans a6, zTd_sm a7 hM (by decide)⟩
/-- one more is to do -/
theorem zyps {K : Int32 → zH → Prop} {E : Nat → zH → Prop} {v : Int32} (hl : 50 ≤ h.1.length) (hs : zY2 M F M1 F1 cX lo O cn td) (hn : td.length < 60) (k : ∀ M2, zY2 M F M2 F1 cX lo O cn (v :: td) → K (nI (td.length + 1)) (zov h M2)) : zCV xs (d + 1) 213 12 (some 10) [Value.int (nI td.length), Value.int v] (zov h M1) (zKI K E) := by
  obtain ⟨a1, a2, a3, a4, a5, a6, T, a7, a8, a9⟩ := hs
  refine zM_cv hl a1.1 (zc213 hl a1.1 a1.2.1 a7 (by omega) a8 (zKI_v (k _ ?_)))
  have sM : zSm [37] M1 (zub M1 37 (zAi (T.set td.length v))) := zSm_ub zSm_refl (by decide)
  refine ⟨zPo_sm a1 (by rw [zub_n (by decide)]; exact a1.1) sM zSm_refl (T := []) (by decide) (by decide), zS35_sm a2 sM (by decide) (by decide), zSm_trans a3 sM (fun _ z => z) (by decide), a4, zWr_sm a5 sM zSm_refl (T := []) (by decide) (by decide), a6, _, zub_s, by rw [List.length_set]; exact a8, ?_⟩
  intro j x hx
  cases j with
  | zero =>
    cases hx
    rw [List.length_cons, show td.length + 1 - 1 - 0 = td.length by omega]
    exact List.getElem?_set_self (by omega)
  | succ j =>
    have hx : td[j]? = some x := hx
    have hj := (List.getElem?_eq_some_iff.mp hx).1
    rw [List.length_cons, show td.length + 1 - 1 - (j + 1) = td.length - 1 - j by omega, List.getElem?_set_ne (by omega)]
    exact a9 j x hx
/-- the end of a turn -/
theorem zt409 (k : J (some 10) (nI limit) st (nI n) (nI (t + 1)) h) : zw_208_409 xs d Q J (some 10) (nI limit) st (nI n) (nI t) h := by
  intro x3 hx
  rw [hx, nI_1]
  exact k
/-- a head is pushed -/
theorem zt394 {w a b : Nat} (hl : 50 ≤ h.1.length) (hs : zY2 M F M1 F1 cX lo O cn td) (hn : td.length < 60) (hc : cX[c]? = some (w, a, b)) (k : ∀ M2, zY2 M F M2 F1 cX lo O cn (nI a :: td) → J (some 10) (nI limit) st (nI (td.length + 1)) (nI (t + 1)) (zov h M2)) : zw_208_394 xs (d + 1) Q J (some 10) (nI limit) st (nI td.length) (nI t) (nI c) (zov h M1) :=
  zM_head hl hs.1 hc (zyps hl hs hn (fun M2 s2 => zt409 (k M2 s2)))
/-- links: the row is over -/
theorem zt243e {w a b k0 : Nat} (hl : 50 ≤ h.1.length) (hs : zY2 M F M1 F1 cX lo O cn td) (hc : cX[c]? = some (w, a, b)) (hw : zlk w = false) (hw2 : w < 100) (hk0 : 10 ≤ k0 ∧ k0 < 100) (k : J (some 10) (nI limit) st (nI td.length) (nI (t + 1)) (zov h M1)) : zw_208_243 xs (d + 1) Q J (some 10) (nI limit) st (nI td.length) (nI t) (nI c) (nI k0) (zov h M1) := by
  have nl : ∀ {K : Int32 → zH → Prop} {E : Nat → zH → Prop}, K 0 (zov h M1) → zCV xs (d + 1) 204 12 (some 10) [Value.int (nI c)] (zov h M1) (zKI K E) := fun {K E} kk => zM_cv hl hs.1.1 (zc204 hl hs.1 hc hw2 (zKI_v (by rw [show ((w, a, b) : Nat × Nat × Nat).1 = w from rfl, hw]; exact kk)))
  refine nl ⟨fun _ => nl ⟨fun _ => ⟨fun _ => ⟨fun _ => ⟨fun _ => pk_eq k0 5 (fun z => absurd z (by omega)) (fun _ => nl ⟨fun _ => pk_lt k0 5 (fun z => absurd z (by omega)) (fun _ => pk_lt k0 10 (fun z => absurd z (by omega)) (fun _ => zt409 k)), fun z => absurd rfl z⟩), fun z => absurd rfl z⟩, fun z => absurd rfl z⟩, fun z => absurd rfl z⟩, fun z => absurd rfl z⟩, fun z => absurd rfl z⟩
/-- links: one element of a list -/
theorem zt243c {a b k0 : Nat} (hl : 50 ≤ h.1.length) (hs : zY2 M F M1 F1 cX lo O cn td) (hn : td.length + 1 < 60) (hc : cX[c]? = some (11, a, b)) (hk0 : 10 ≤ k0 ∧ k0 < 100) (k : ∀ M2, zY2 M F M2 F1 cX lo O cn (nI a :: (-1 - nI b) :: td) → J (some 10) (nI limit) st (nI (td.length + 2)) (nI (t + 1)) (zov h M2)) : zw_208_243 xs (d + 1) Q J (some 10) (nI limit) st (nI td.length) (nI t) (nI c) (nI k0) (zov h M1) := by
  have lk : ∀ {M3 : Nat → zE} {F3 : Nat → Value} {td' : List Int32} {K : Int32 → zH → Prop} {E : Nat → zH → Prop}, zY2 M F M3 F3 cX lo O cn td' → K 1 (zov h M3) → zCV xs (d + 1) 204 12 (some 10) [Value.int (nI c)] (zov h M3) (zKI K E) := fun {M3 F3 td' K E} s3 kk => zM_cv hl s3.1.1 (zc204 hl s3.1 hc (show 11 < 100 by decide) (zKI_v kk))
  refine lk hs ⟨fun z => absurd z (by decide), fun _ => zM_body hl hs.1 hc (zyps hl hs (by omega) (fun M2 s2 => ?_))⟩
  refine lk s2 ⟨fun z => absurd z (by decide), fun _ => zM_what hl s2.1 hc ⟨fun _ => ⟨fun _ => ⟨fun _ => ⟨fun _ => pk_eq k0 5 (fun z => absurd z (by omega)) (fun _ => lk s2 ⟨fun z => absurd z (by decide), fun _ => ?_⟩), fun z => absurd rfl z⟩, fun z => absurd rfl z⟩, fun z => absurd rfl z⟩, fun z => absurd rfl z⟩⟩
  exact zt394 hl s2 (by rw [List.length_cons]; omega) hc (fun M3 s3 => by rw [List.length_cons]; exact k M3 s3)
/-- links: an entry -/
theorem zt243p {a b k0 w j k2 : Nat} (hl : 50 ≤ h.1.length) (hs : zY2 M F M1 F1 cX lo O cn td) (hn : td.length + 2 < 60) (hc : cX[c]? = some (w, a, b)) (hw : w = 13 ∨ w = 15) (hj : cX[a]? = some (5, j, k2)) (hO : O.length + 2 ≤ 2800) (hk0 : 10 ≤ k0 ∧ k0 < 100) (k : ∀ M2 F2, zY2 M F M2 F2 cX lo (O ++ [6, 28]) (cn + 1) (nI j :: nI k2 :: (-1 - nI b) :: td) → J (some 10) (nI limit) st (nI (td.length + 3)) (nI (t + 1)) (zov h M2)) : zw_208_243 xs (d + 1) Q J (some 10) (nI limit) st (nI td.length) (nI t) (nI c) (nI k0) (zov h M1) := by
  have hlk : zlk w = true ∧ w < 100 ∧ w ≠ 11 := by rcases hw with rfl | rfl <;> exact ⟨rfl, by decide, by decide⟩
  have lk : ∀ {M3 : Nat → zE} {F3 : Nat → Value} {O' : List Nat} {cn' : Nat} {td' : List Int32} {K : Int32 → zH → Prop} {E : Nat → zH → Prop}, zY2 M F M3 F3 cX lo O' cn' td' → K 1 (zov h M3) → zCV xs (d + 1) 204 12 (some 10) [Value.int (nI c)] (zov h M3) (zKI K E) := fun {M3 F3 O' cn' td' K E} s3 kk => zM_cv hl s3.1.1 (zc204 hl s3.1 hc hlk.2.1 (zKI_v (by rw [show ((w, a, b) : Nat × Nat × Nat).1 = w from rfl, hlk.1]; exact kk)))
  refine lk hs ⟨fun z => absurd z (by decide), fun _ => zM_body hl hs.1 hc (zyps hl hs (by omega) (fun M2 s2 => ?_))⟩
  refine lk s2 ⟨fun z => absurd z (by decide), fun _ => zM_what hl s2.1 hc (pk_eq w 11 (fun z => absurd z hlk.2.2) (fun _ => ⟨fun z => absurd z (by decide), fun _ => ?_⟩))⟩
  refine zM_gi hl s2.1.1 s2.2.2.2.2.2.1 (zM_pf hl s2.1.1 ?_)
  rw [nI_1]
  have s3 := zY2_c s2 (cn + 1)
  refine zM_cv hl s3.1.1 (zc211 (a := 6) (b := 28) hl s3.1.1 s3.1.2.1 s3.2.2.2.2.1 hO rfl rfl (fun M4 F4 d4 => zKV_v ?_))
  have s4 := zY2_w s3 d4
  refine ⟨fun z => absurd z (by decide), fun _ => zM_head hl s4.1 hc ⟨fun z => absurd z (by decide), fun _ => zM_body hl s4.1 hj ?_⟩⟩
  have e1 : td.length + 1 = ((-1 - nI b) :: td).length := rfl
  rw [e1]
  refine zyps hl s4 (by rw [List.length_cons]; omega) (fun M5 s5 => lk s5 ⟨fun z => absurd z (by decide), fun _ => ?_⟩)
  have e2 : ((-1 - nI b) :: td).length + 1 = (nI k2 :: (-1 - nI b) :: td).length := rfl
  rw [e2]
  exact zt394 hl s5 (by rw [List.length_cons, List.length_cons]; omega) hj (fun M6 s6 => by rw [List.length_cons, List.length_cons]; exact k M6 F4 s6)
end WR3
