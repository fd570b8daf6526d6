section WR4
variable {xs : List Value} {d : Nat} {h : zH} {M M1 M' M2 : Nat → zE} {F F1 F' F2 : Nat → Value} {Q : zO → zH → Prop} {ce cX : List (Nat × Nat × Nat)} {lo : List (Nat × Nat)} {O O1 O2 B : List Nat} {b n c cn limit t : Nat} {td : List Int32} {J : zP → Int32 → Int32 → Int32 → Int32 → zH → Prop} {st : Int32}
/-- what a cell's parts are -/
def zprt (w a b : Nat) : List Int32 := if w = 5 then [nI a, nI b] else if 7 ≤ w then [nI a] else []
/-- a turn: a value that is no row -/
theorem zt88v {w a b : Nat} (hl : 50 ≤ h.1.length) (hs : zY2 M F M1 F1 cX lo O cn td) (hn : td.length + 1 < 60) (hc : cX[c]? = some (w, a, b)) (hw : w < 10) (wh : ∀ (M2 : Nat → zE) (F2 : Nat → Value) (R : zO → zH → Prop), zY2 M F M2 F2 cX lo O (cn + 1) td → (∀ M' F', zWd M2 M' F2 F' (O ++ B) → R (.inl none) (zov h M')) → zG xs (d + 1) (212, 0, lv_args 0 [zo (some 10), .int (nI c), .int (nI w)], []) (zov h M2) R) (k : ∀ M2 F2, zY2 M F M2 F2 cX lo (O ++ B) (cn + 1) (zprt w a b ++ td) → J (some 10) (nI limit) st (nI ((zprt w a b).length + td.length)) (nI (t + 1)) (zov h M2)) : zw_208_88 xs (d + 2) Q J (some 10) (nI limit) st (nI td.length) (nI t) 0 (nI c) (zov h M1) := by
  have lkf : zlk w = false := by
    unfold zlk
    rw [beq_false_of_ne (by omega), beq_false_of_ne (by omega), decide_eq_false (by omega)]; rfl
  have nl : ∀ {M3 : Nat → zE} {F3 : Nat → Value} {O' : List Nat} {cn' : Nat} {td' : List Int32} {K : Int32 → zH → Prop} {E : Nat → zH → Prop}, zY2 M F M3 F3 cX lo O' cn' td' → K 0 (zov h M3) → zCV xs (d + 2) 204 12 (some 10) [Value.int (nI c)] (zov h M3) (zKI K E) := fun {M3 F3 O' cn' td' K E} s3 kk => zM_cv hl s3.1.1 (zc204 hl s3.1 hc (show w < 100 by omega) (zKI_v (by rw [show ((w, a, b) : Nat × Nat × Nat).1 = w from rfl, lkf]; exact kk)))
  refine zM_what hl hs.1 hc (pk_lt w 14 (fun _ => pk_lt w 10 (fun _ => ?_) (fun z => absurd hw (by omega))) (fun z => absurd hw (by omega)))
  refine zM_gi hl hs.1.1 hs.2.2.2.2.2.1 ⟨fun _ => ⟨fun z => absurd z (by decide), fun _ => ?_⟩, fun z => absurd rfl z⟩
  unfold zw_208_181
  refine zM_pf hl hs.1.1 ?_
  rw [nI_1]
  have s3 := zY2_c hs (cn + 1)
  refine pk_lt w 14 (fun _ => pk_lt w 10 (fun _ => pk_lt w 10 (fun _ => ?_) (fun z => absurd hw (by omega))) (fun z => absurd hw (by omega))) (fun z => absurd hw (by omega))
  refine zM_cv hl s3.1.1 (wh _ _ _ s3 (fun M4 F4 d4 => zKV_v ?_))
  have s4 := zY2_w s3 d4
  refine nl s4 ⟨fun _ => nl s4 ⟨fun _ => ⟨fun _ => ⟨fun _ => ⟨fun _ => ?_, fun z => absurd rfl z⟩, fun z => absurd rfl z⟩, fun z => absurd rfl z⟩, fun z => absurd rfl z⟩, fun z => absurd rfl z⟩
  refine pk_eq w 5 (fun w5 => ?_) (fun w5 => ?_)
  · subst w5
    refine zM_body hl s4.1 hc (zyps hl s4 (by omega) (fun M5 s5 => nl s5 ⟨fun _ => pk_lt 5 5 (fun z => absurd z (by omega)) (fun _ => pk_lt 5 10 (fun _ => pk_eq 5 6 (fun z => absurd z (by omega)) (fun _ => ?_)) (fun z => absurd z (by omega))), fun z => absurd rfl z⟩))
    exact zt394 (td := nI b :: td) hl s5 (by rw [List.length_cons]; omega) hc (fun M6 s6 => by
      have := k M6 F4 s6
      rw [show (zprt 5 a b).length + td.length = (nI b :: td).length + 1 by rw [List.length_cons]; show 2 + td.length = _; omega] at this
      exact this)
  · refine nl s4 ⟨fun _ => pk_lt w 5 (fun w5' => zt409 ?_) (fun w5' => pk_lt w 10 (fun _ => pk_eq w 6 (fun w6 => zt409 ?_) (fun w6 => ?_)) (fun z => absurd hw (by omega))), fun z => absurd rfl z⟩
    · have e : zprt w a b = [] := by unfold zprt; rw [if_neg w5, if_neg (by omega)]
      rw [e, List.nil_append] at k
      rw [show ([] : List Int32).length + td.length = td.length from Nat.zero_add _] at k
      exact k M4 F4 s4
    · have e : zprt w a b = [] := by unfold zprt; rw [if_neg w5, if_neg (by omega)]
      rw [e, List.nil_append] at k
      rw [show ([] : List Int32).length + td.length = td.length from Nat.zero_add _] at k
      exact k M4 F4 s4
    · have e : zprt w a b = [nI a] := by unfold zprt; rw [if_neg w5, if_pos (by omega)]
      rw [e] at k
      exact zt394 hl s4 (by omega) hc (fun M6 s6 => by
        have := k M6 F4 s6
        rw [show ([nI a] : List Int32).length + td.length = td.length + 1 from Nat.add_comm _ _] at this
        exact this)
/-- a turn: what is left of a row -/
theorem zt88x {w a b : Nat} (hl : 50 ≤ h.1.length) (hs : zY2 M F M1 F1 cX lo O cn td) (hc : cX[c]? = some (w, a, b)) (hw : 10 ≤ w ∧ w < 100) (hst : 14 ≤ w → st ≠ 0) (k : ∀ M2 F2, zY2 M F M2 F2 cX lo O cn td → zw_208_243 xs (d + 1) Q J (some 10) (nI limit) st (nI td.length) (nI t) (nI c) (nI w) (zov h M2)) : zw_208_88 xs (d + 1) Q J (some 10) (nI limit) st (nI td.length) (nI t) 1 (nI c) (zov h M1) := by
  have e19 : zw_208_119 xs (d + 1) Q J (some 10) (nI limit) st (nI td.length) (nI t) 1 (nI c) (nI w) (zov h M1) := by
    refine pk_lt w 10 (fun z => absurd z (by omega)) (fun _ => ⟨fun z => absurd z (by decide), fun _ => ?_⟩)
    refine zM_gi hl hs.1.1 hs.2.2.2.2.2.1 ⟨fun z => absurd z (by decide), fun _ => ?_⟩
    refine zM_pf hl hs.1.1 ?_
    rw [show nI cn + (0 : Int32) = nI cn from nI_add cn 0]
    have s3 := zY2_c hs cn
    have e9 : zw_208_209 xs (d + 1) Q J (some 10) (nI limit) st (nI td.length) (nI t) 1 (nI c) (nI w) 0 (zov h (zub M1 10 (zMo (zub F1 29 (.int (nI cn)))))) := pk_lt w 10 (fun z => absurd z (by omega)) (fun _ => ⟨fun z => absurd z (by decide), fun _ => pk_lt w 10 (fun z => absurd z (by omega)) (fun _ => k _ _ s3)⟩)
    exact pk_lt w 14 (fun _ => e9) (fun z => ⟨fun z0 => absurd z0 (hst (by omega)), fun _ => e9⟩)
  exact zM_what hl hs.1 hc (pk_lt w 14 (fun _ => e19) (fun _ => ⟨fun z => absurd z (by decide), fun _ => e19⟩))
/-- a turn: a row's head, many elements -/
theorem zt141r {w n : Nat} (hl : 50 ≤ h.1.length) (hs : zY2 M F M1 F1 cX lo O cn td) (hw : 10 ≤ w ∧ w < 100) (hn : n < 2000) (hst : 14 ≤ w → st ≠ 0) (hO : O.length + 2 ≤ 2800) (k : ∀ M2 F2, zY2 M F M2 F2 cX lo (O ++ [2, n]) (cn + if 40 < n then 1000 else 1) td → zw_208_243 xs (d + 1) Q J (some 10) (nI limit) st (nI td.length) (nI t) (nI c) (nI w) (zov h M2)) : zw_208_141 xs (d + 1) Q J (some 10) (nI limit) st (nI td.length) (nI t) 0 (nI c) (nI w) (nI n) (zov h M1) := by
  have e82 : ∀ m : Nat, m = (if 40 < n then 1000 else 1) → zw_208_182 xs (d + 1) Q J (some 10) (nI limit) st (nI td.length) (nI t) 0 (nI c) (nI w) (nI n) (nI m) (nI cn) (some 10) (zov h M1) := by
    intro m hm
    rw [← hm] at k
    refine zM_pf hl hs.1.1 ?_
    rw [nI_add]
    have s3 := zY2_c hs (cn + m)
    have e9 : zw_208_209 xs (d + 1) Q J (some 10) (nI limit) st (nI td.length) (nI t) 0 (nI c) (nI w) (nI n) (zov h (zub M1 10 (zMo (zub F1 29 (.int (nI (cn + m))))))) := pk_lt w 10 (fun z => absurd z (by omega)) (fun _ => ⟨fun _ => zM_cv hl s3.1.1 (zc211 (a := 2) (b := n) hl s3.1.1 s3.1.2.1 s3.2.2.2.2.1 hO rfl rfl (fun M4 F4 d4 => zKV_v (pk_lt w 10 (fun z => absurd z (by omega)) (fun _ => k M4 F4 (zY2_w s3 d4))))), fun z => absurd rfl z⟩)
    exact pk_lt w 14 (fun _ => e9) (fun z => ⟨fun z0 => absurd z0 (hst (by omega)), fun _ => e9⟩)
  refine zM_gi hl hs.1.1 hs.2.2.2.2.2.1 ⟨fun _ => pk_lt 40 n (fun z40 => ?_) (fun z40 => e82 1 (by rw [if_neg (by omega)])), fun z => absurd rfl z⟩
  have e75 := e82 1000 (by rw [if_pos z40])
  exact ⟨fun z0 => pk_lt w 14 (fun _ => e75) (fun z => absurd z0 (hst (by omega))), fun _ => e75⟩
/-- a turn: a list, a map -/
theorem zt88r {w a b kb : Nat} {L : List Term} (hl : 50 ≤ h.1.length) (hs : zY2 M F M1 F1 cX lo O cn td) (hc : cX[c]? = some (w, a, b)) (hw : 10 ≤ w ∧ w < 14) (hr : zRc cX lo (zenc L) (.inr (c, kb))) (hrk : zRk kb L) (hL : L.length < 1400) (hO : O.length + 2 ≤ 2800) (k : ∀ M2 F2, zY2 M F M2 F2 cX lo (O ++ [2, L.length]) (cn + if 40 < L.length then 1000 else 1) td → zw_208_243 xs (d + 2) Q J (some 10) (nI limit) st (nI td.length) (nI t) (nI c) (nI w) (zov h M2)) : zw_208_88 xs (d + 2) Q J (some 10) (nI limit) st (nI td.length) (nI t) 0 (nI c) (zov h M1) := by
  refine zM_what hl hs.1 hc (pk_lt w 14 (fun _ => pk_lt w 10 (fun z => absurd z (by omega)) (fun _ => ⟨fun _ => ?_, fun z => absurd rfl z⟩)) (fun z => absurd hw.2 (by omega)))
  exact zM_cv hl hs.1.1 (zc205 hl hs.1 hr hrk hL (zKI_v (zt141r (d := d + 1) hl hs ⟨hw.1, by omega⟩ (by omega) (fun z => absurd z (by omega)) hO k)))
/-- a turn: a big -/
theorem zt88b {w a b : Nat} {L : List Term} {K : Term} (hl : 50 ≤ h.1.length) (hs : zY2 M F M1 F1 cX lo O cn td) (hc : cX[c]? = some (w, a, b)) (hw : 14 ≤ w ∧ w < 100) (hr : zRc cX lo (zenc L) (.inr (c, 14))) (hk : zTok K) (hsim : ztsim K = true) (hd8 : ztdep K ≤ 8) (hL : ∀ x ∈ L, zbt K x) (hn : L.length < 200) (hcX : cX.length + 1 + (zbm L).length ≤ 1400) (hO : O.length + 20 ≤ 2800)
    (k0 : st = 0 → ∀ M2 F2 X, X.length = 1 + (zbm L).length → zY2 M F M2 F2 (cX ++ X) lo (O ++ 0 :: znum false (zbm L).length) (cn + 1) td → J (some 10) (nI limit) st (nI td.length) (nI (t + 1)) (zov h M2))
    (k1 : st ≠ 0 → ∀ M2 F2 X c', X.length = 1 + (zbm L).length → zRc (cX ++ X) lo (zenc ((zbm L).map fun e => zent2 e.1 e.2)) (.inr (c', 14)) → zY2 M F M2 F2 (cX ++ X) lo (O ++ [2, (zbm L).length]) (cn + if 40 < (zbm L).length then 1000 else 1) td → zw_208_243 xs (d + 3) Q J (some 10) (nI limit) st (nI td.length) (nI t) (nI c') (nI w) (zov h M2)) : zw_208_88 xs (d + 3) Q J (some 10) (nI limit) st (nI td.length) (nI t) 0 (nI c) (zov h M1) := by
  have hbl : (zbm L).length ≤ L.length := (zbm_ok hk hsim L hL).2.2
  refine zM_what hl hs.1 hc (pk_lt w 14 (fun z => absurd z (by omega)) (fun _ => ⟨fun _ => ?_, fun z => absurd rfl z⟩))
  refine zM_cv hl hs.1.1 (zc209 hl hs.1 hs.2.1 hk hsim hd8 hL hr hn hcX (fun M2 F2 X c' p2 lx s2 t2 h2 hr2 => zKI_v ?_))
  have s3 := zY2_s hs p2 s2 t2 h2
  have hrk : zRk 14 ((zbm L).map fun e => zent2 e.1 e.2) := ⟨Or.inr (Or.inr rfl), fun z => absurd rfl z⟩
  refine pk_lt w 10 (fun z => absurd z (by omega)) (fun _ => ⟨fun _ => ?_, fun z => absurd rfl z⟩)
  refine zM_cv hl s3.1.1 (zc205 (d := d + 1) hl s3.1 hr2 hrk (by rw [List.length_map]; omega) (zKI_v ?_))
  rw [List.length_map]
  by_cases h0 : st = 0
  · subst h0
    have e81 : zw_208_181 xs (d + 3) Q J (some 10) (nI limit) 0 (nI td.length) (nI t) 0 (nI c') (nI w) (nI (zbm L).length) (nI cn) (some 10) (zov h M2) := by
      unfold zw_208_181
      refine zM_pf hl s3.1.1 ?_
      rw [nI_1]
      have s4 := zY2_c s3 (cn + 1)
      refine pk_lt w 14 (fun z => absurd z (by omega)) (fun _ => ⟨fun _ => ?_, fun z => absurd rfl z⟩)
      have hz : (znum false (zbm L).length).length ≤ 18 := znum_le (by omega)
      have e1 : (0 : Int64) = lN ((zbm L).length / 1152921504606846976) := by rw [Nat.div_eq_of_lt (by omega)]; rfl
      have e2 : (nI (zbm L).length).toInt64 = lN ((zbm L).length % 1152921504606846976) := by
        rw [Nat.mod_eq_of_lt (by omega)]
        exact nI_l (by omega)
      rw [e1, e2]
      exact zM_cv hl s4.1.1 (zc210 (s := false) hl s4.1.1 s4.1.2.1 s4.2.2.2.2.1 (by omega) (by omega) rfl (fun M5 F5 d5 => zKV_v (zt409 (k0 rfl M5 F5 X lx (zY2_w s4 d5)))))
    exact zM_gi hl s3.1.1 s3.2.2.2.2.2.1 ⟨fun _ => ⟨fun _ => ⟨fun _ => pk_lt w 14 (fun z => absurd z (by omega)) (fun _ => e81), fun z => absurd rfl z⟩, fun _ => e81⟩, fun z => absurd rfl z⟩
  · exact zt141r (d := d + 2) hl s3 ⟨by omega, hw.2⟩ (by omega) (fun _ => h0) (by omega) (fun M4 F4 s4 => k1 h0 M4 F4 X c' lx hr2 s4)
end WR4
