section WR2
variable {xs : List Value} {d : Nat} {h : zH} {M M1 M' M2 : Nat → zE} {F F1 F' F2 : Nat → Value} {Q : zO → zH → Prop} {ce : List (Nat × Nat × Nat)} {lo : List (Nat × Nat)} {O O1 O2 : List Nat} {b n c : Nat}
theorem pf_shr3 {a d : Nat} {D : Int64} (hD : (D.toBitVec.smod 64).toNat = d) (h : a < 2 ^ 63) : lN a >>> D = lN (a / 2 ^ d) := by
  have hd : a / 2 ^ d ≤ a := Nat.div_le_self _ _
  apply Int64.toInt_inj.mp
  have e : (lN a >>> D).toInt = (lN a).toInt >>> d := by
    rw [← hD]
    exact BitVec.toInt_sshiftRight ..
  rw [e, Int.shiftRight_eq_div_pow, pf_lI (by omega), pf_lI (by omega)]
  rfl
/-- heap(): one more is to do -/
theorem zc213 {T : List Int32} {v : Int32} (hl : 50 ≤ h.1.length) (h10 : M 10 = zMo F) (hr : zRf F) (hT : M 37 = zAi T) (hn : n < T.length) (hT2 : T.length = 60) (k : Q (.inl (some (.int (nI (n + 1))))) (zov h (zub M 37 (zAi (T.set n v))))) : zG xs d (213, 0, lv_args 0 [zo (some 10), .int (nI n), .int v], []) (zov h M) Q := by
  apply zm_213
  refine zM_gr hl h10 (hr (37, 37) (by decide)) (zM_st' hl hT hn (by omega) ?_)
  rw [nI_1]
  exact k
/-- writeHead(): a number -/
theorem zc212n {s : Bool} (hl : 50 ≤ h.1.length) (hp : zPo M F ce lo) (hw : zWr M F O) (hc : zNm ce lo c s n) (hn : n < 2 ^ 120) (hO : O.length + 1 + (znum s n).length ≤ 2800) (k : ∀ M' F', zWd M M' F F' (O ++ 0 :: znum s n) → Q (.inl none) (zov h M')) : zG xs (d + 1) (212, 0, lv_args 0 [zo (some 10), .int (nI c), .int 3], []) (zov h M) Q := by
  obtain ⟨j, h1, h2⟩ := hc
  have hp' := hp
  obtain ⟨p1, p2, p3, p4, p5, p6, W, H, B0, U, L0, b1, b2, b3, b4, b5, b6, b7, b8, b9, b10, b11, b12⟩ := hp
  have hcl := (List.getElem?_eq_some_iff.mp h1).1
  have hjl := (List.getElem?_eq_some_iff.mp h2).1
  refine zm_212 (fun _ _ _ _ _ => False) (fun n l0 l1 l3 h hf => hf.elim) ⟨fun _ => ?_, fun z => absurd rfl z⟩
  refine zM_gr hl p1 (p2 (33, 33) (by decide)) (zM_head hl hp' h1 (zM_la (j := j) hl b4 (b12 _ _ h2).1 ?_))
  refine zM_gr hl p1 (p2 (34, 34) (by decide)) (zM_head hl hp' h1 (zM_la (j := j) hl b5 (b12 _ _ h2).2 ?_))
  refine zM_body hl hp' h1 (zM_cv hl p1 (zc210 hl p1 p2 hw hn hO rfl (fun M' F' d' => zKV_v (k M' F' d'))))
/-- writeHead(): a word -/
theorem zc212w {w a b tg cd : Nat} (hl : 50 ≤ h.1.length) (hp : zPo M F ce lo) (hw : zWr M F O) (hc : ce[c]? = some (w, a, b)) (hw2 : w = 0 ∧ tg = 4 ∧ cd = 20 ∨ w = 1 ∧ tg = 4 ∧ cd = 21 ∨ w = 2 ∧ tg = 4 ∧ cd = 22 ∨ w = 6 ∧ tg = 4 ∧ cd = 24 ∨ w = 5 ∧ tg = 6 ∧ cd = 23 ∨ w = 7 ∧ tg = 5 ∧ cd = 25 ∨ w = 8 ∧ tg = 5 ∧ cd = 26 ∨ w = 9 ∧ tg = 5 ∧ cd = 27) (hO : O.length + 2 ≤ 2800) (k : ∀ M' F', zWd M M' F F' (O ++ [tg, cd]) → Q (.inl none) (zov h M')) : zG xs (d + 1) (212, 0, lv_args 0 [zo (some 10), .int (nI c), .int (nI w)], []) (zov h M) Q := by
  have fin : ∀ {J : zP → Int32 → Int32 → zH → Prop} {x y : Int32}, x = nI cd → y = nI tg → zw_212_170 xs (d + 1) Q J x y (some 10) (zov h M) := fun {J x y} hx hy => zM_cv hl hp.1 (zc211 hl hp.1 hp.2.1 hw hO hy hx (fun M' F' d' => zKV_v (k M' F' d')))
  refine zm_212 (fun _ _ _ _ _ => False) (fun n l0 l1 l3 h hf => hf.elim) ?_
  rcases hw2 with ⟨rfl, rfl, rfl⟩ | ⟨rfl, rfl, rfl⟩ | ⟨rfl, rfl, rfl⟩ | ⟨rfl, rfl, rfl⟩ | ⟨rfl, rfl, rfl⟩ | ⟨rfl, rfl, rfl⟩ | ⟨rfl, rfl, rfl⟩ | ⟨rfl, rfl, rfl⟩
  · exact ⟨fun z => absurd z (by decide), fun _ => ⟨fun z => absurd z (by decide), fun _ => ⟨fun z => absurd z (by decide), fun _ => ⟨fun z => absurd z (by decide), fun _ => fin (by decide) rfl⟩⟩⟩⟩
  · exact ⟨fun z => absurd z (by decide), fun _ => ⟨fun z => absurd z (by decide), fun _ => ⟨fun z => absurd z (by decide), fun _ => ⟨fun z => absurd z (by decide), fun _ => fin (by decide) rfl⟩⟩⟩⟩
  · exact ⟨fun z => absurd z (by decide), fun _ => ⟨fun z => absurd z (by decide), fun _ => ⟨fun z => absurd z (by decide), fun _ => ⟨fun z => absurd z (by decide), fun _ => fin (by decide) rfl⟩⟩⟩⟩
  · exact ⟨fun z => absurd z (by decide), fun _ => ⟨fun z => absurd z (by decide), fun _ => ⟨fun _ => ⟨fun _ => ⟨fun _ => fin (by decide) rfl, fun z => absurd (by decide) z⟩, fun z => absurd rfl z⟩, fun z => absurd (by decide) z⟩⟩⟩
  · exact ⟨fun z => absurd z (by decide), fun _ => ⟨fun z => absurd z (by decide), fun _ => ⟨fun _ => ⟨fun z => absurd z (by decide), fun _ => ⟨fun _ => ⟨fun _ => fin (by decide) rfl, fun z => absurd (by decide) z⟩, fun z => absurd rfl z⟩⟩, fun z => absurd (by decide) z⟩⟩⟩
  all_goals exact ⟨fun z => absurd z (by decide), fun _ => ⟨fun z => absurd z (by decide), fun _ => ⟨fun _ => ⟨fun z => absurd z (by decide), fun _ => ⟨fun z => absurd z (by decide), fun _ => ⟨fun _ => fin (by decide) rfl, fun z => absurd (by decide) z⟩⟩⟩, fun z => absurd (by decide) z⟩⟩⟩
/-- writeHead(): a text -/
theorem zc212t {kk w j : Nat} (hl : 50 ≤ h.1.length) (hp : zPo M F ce lo) (hw : zWr M F O) (hc : ce[c]? = some (4, j, kk)) (hj : lo[j]? = some (0, w)) (hk : kk ≤ 8) (hw2 : w < 2 ^ 63) (hO : O.length + 2 + kk ≤ 2800) (k : ∀ M' F', zWd M M' F F' (O ++ zser (.mul (.arg kk) (.arg w))) → Q (.inl none) (zov h M')) : zG xs (d + 1) (212, 0, lv_args 0 [zo (some 10), .int (nI c), .int 4], []) (zov h M) Q := by
  have hcl := (List.getElem?_eq_some_iff.mp hc).1
  have hjl := (List.getElem?_eq_some_iff.mp hj).1
  have hp5 := hp.2.2.2.2.1
  have hp6 := hp.2.2.2.2.2.1
  refine zm_212 (fun m l0 l1 l3 h0 => ∃ i M1 F1 A, m = kk - i ∧ i ≤ kk ∧ l0 = some 10 ∧ l1 = nI c ∧ l3 = nI i ∧ h0 = zov h M1 ∧ zPo M1 F1 ce lo ∧ zSm [10, 12] M M1 ∧ zSm [4] F F1 ∧ F1 4 = .int (nI (O.length + 2)) ∧ M1 12 = zAi A ∧ A.length = 2800 ∧ ∀ (i' b : Nat), (O ++ (1 :: kk :: (List.range i).map (fun i => w / 2 ^ (8 * (7 - i)) % 256)))[i']? = some b → A[i']? = some (nI b)) ?_ ?_
  · rintro m l0 l1 l3 h0 ⟨i, M1, F1, A, rfl, hi, rfl, rfl, rfl, rfl, q1, q2, q3, q4, q5, q6, q7⟩
    have hlen : (O ++ (1 :: kk :: (List.range i).map (fun i => w / 2 ^ (8 * (7 - i)) % 256))).length = O.length + 2 + i := by rw [List.length_append, List.length_cons, List.length_cons, List.length_map, List.length_range]; omega
    refine zM_body hl q1 hc (pk_lt i kk (fun hik => ?_) (fun hik => ?_))
    · obtain ⟨p1, p2, p3, p4, p5, p6, W, H, B0, U, L0, b1, b2, b3, b4, b5, b6, b7, b8, b9, b10, b11, b12⟩ := q1
      refine zM_gr hl p1 (p2 (2, 12) (by decide)) (zM_gi hl p1 q4 (zM_gr hl p1 (p2 (34, 34) (by decide)) (zM_gr hl p1 (p2 (31, 31) (by decide)) (zM_sa (v := nI j) hl b2 (b11 _ _ hc).2.1 (zM_la (j := j) hl b5 (b12 _ _ hj).2 ?_)))))
      have e1 : (((lN w) >>> ((((8 : Int32) * ((7 : Int32) - nI i))).toInt64 &&& 63)).toInt32 &&& (255 : Int32)) = nI (w / 2 ^ (8 * (7 - i)) % 256) := by
        rw [show (7 : Int32) - nI i = nI (7 - i) from pk_sub (a := 7) (by omega), show (8 : Int32) * nI (7 - i) = nI (8 * (7 - i)) from pk_mul 8 (7 - i), pf_shr3 (zsmod _ (by omega)) hw2, lN_i]
        have := pk_and (nI (w / 2 ^ (8 * (7 - i)))) (m := 255) 8 rfl
        rw [this]
        congr 1
        have e2 : (nI (w / 2 ^ (8 * (7 - i)))).toBitVec.toNat = w / 2 ^ (8 * (7 - i)) % 2 ^ 32 := by
          show (BitVec.ofNat 32 _).toNat = _
          exact BitVec.toNat_ofNat _ _
        rw [e2]
        omega
      rw [e1, nI_add]
      refine zM_st' hl q5 (by omega) (by omega) ?_
      intro x23 hx
      have sM : zSm [12] M1 (zub M1 12 (zAi (A.set (O.length + 2 + i) (nI (w / 2 ^ (8 * (7 - i)) % 256))))) := zSm_ub zSm_refl (by decide)
      refine ⟨kk - (i + 1), by omega, i + 1, _, F1, _, rfl, hik, rfl, rfl, by rw [hx, nI_1], rfl, zPo_sm ⟨p1, p2, p3, p4, p5, p6, W, H, B0, U, L0, b1, b2, b3, b4, b5, b6, b7, b8, b9, b10, b11, b12⟩ (by rw [zub_n (by decide)]; exact p1) sM zSm_refl (T := []) (by decide) (by decide), zSm_trans q2 sM (fun _ z => z) (by decide), q3, q4, zub_s, by rw [List.length_set]; exact q6, ?_⟩
      rw [List.range_succ, List.map_append, List.map_singleton]
      have := zWr_add (b := w / 2 ^ (8 * (7 - i)) % 256) q6 q7 (by omega)
      rw [List.append_assoc, hlen] at this
      exact this
    · have hik : i = kk := by omega
      subst hik
      refine zM_gi hl q1.1 q4 (zM_body hl q1 hc (zM_pf hl q1.1 ?_))
      refine k _ (zub F1 4 (.int (nI (O.length + 2) + nI i))) ⟨zub_s, zSm_ub q2 (by decide), zSm_ub q3 (by decide), ?_, ?_, A, ?_, q6, q7⟩
      · rw [zub_s, nI_add]
        show _ = Value.int (nI (O ++ (1 :: i :: _)).length)
        rw [hlen]
      · show (O ++ (1 :: i :: _)).length ≤ 2800
        rw [hlen]; omega
      · rw [zub_n (by decide)]; exact q5
  · refine ⟨fun z => absurd z (by decide), fun _ => ⟨fun _ => ?_, fun z => absurd rfl z⟩⟩
    refine zM_body hl hp hc (zM_cv hl hp.1 (zc211 (a := 1) (b := kk) hl hp.1 hp.2.1 hw (by omega) rfl rfl (fun M1 F1 d1 => zKV_v ?_)))
    obtain ⟨w1, w2, A, a1, a2, a3⟩ := d1.2.2.2
    refine ⟨kk, 0, M1, F1, A, by omega, by omega, rfl, rfl, rfl, rfl, zWd_p hp d1, d1.2.1, d1.2.2.1, ?_, a1, a2, a3⟩
    rw [w1, List.length_append]; rfl
end WR2
