/-! the reference at work: COMPARE, CONCAT, and a plain instruction as a whole -/
section RW6
variable {xs : List Value} {d : Nat} {h : zH} {N : List zNt} {M0 M M' : Nat → zE} {F0 F F' : Nat → Value} {Q : zO → zH → Prop} {ce : List (Nat × Nat × Nat)} {lo : List (Nat × Nat)} {Ts vs st : List Term} {pd : List Int32} {most p bits bound held C c j fr n m ca cb : Nat} {a b : Int32} {K V T v w : Term} {A : List Nat} {s t : Bool} {e : zNt}
theorem zpre_a (hl : 50 ≤ h.1.length) (hp : zPo M F ce lo) (ht : zTok T) (hsim : ztsim T = true) (hv : zVt T v) (hc : zRc ce lo v (.inl ca)) (g : ∀ l5, zw_217_63 xs (d + 1) Q (some 10) (nI c) (nI ca) b l5 (zov h M)) : zw_217_0 xs (d + 1) Q (some 10) (nI c) (nI ca) b (zov h M) := by
  have h10 := zTok_c ht
  have hno : ztc T ≠ 0 ∧ ztc T ≠ 6 ∧ ztc T ≠ 7 ∧ ztc T ≠ 8 ∧ ztc T ≠ 9 ∧ ztc T ≠ 10 := by
    unfold ztsim at hsim
    split at hsim
    · rename_i c
      have hsim := of_decide_eq_true hsim
      show c ≠ 0 ∧ c ≠ 6 ∧ c ≠ 7 ∧ c ≠ 8 ∧ c ≠ 9 ∧ c ≠ 10
      omega
    · rename_i c A B
      simp at hsim
      have := hsim.1.1
      show c ≠ 0 ∧ c ≠ 6 ∧ c ≠ 7 ∧ c ≠ 8 ∧ c ≠ 9 ∧ c ≠ 10
      omega
    · cases hsim
  rcases (by omega : ztc T = 1 ∨ (ztc T = 2 ∨ ztc T = 3) ∨ ztc T = 4 ∨ ztc T = 5) with q | q | q | q
  · rcases zVt_bool ht q hv with rfl | rfl
    · obtain ⟨x, y, e1⟩ := hc; exact zpre_x hl hp e1 (by decide) (by decide) g
    · obtain ⟨x, y, e1⟩ := hc; exact zpre_x hl hp e1 (by decide) (by decide) g
  · obtain ⟨s, n, rfl, _⟩ := zVt_num ht q hv
    exact zpre_n hl hp hc (g _)
  · obtain ⟨k, x, rfl, _⟩ := zVt_text ht q hv
    obtain ⟨⟨jj, e1, e2⟩, e3⟩ := hc
    exact zpre_x hl hp e1 (by decide) (by decide) g
  · obtain ⟨x, y, rfl, _⟩ := zVt_pair ht q hv
    obtain ⟨jj, kk, e1, _⟩ := hc
    exact zpre_x hl hp e1 (by decide) (by decide) g
theorem ze68 (hl : 50 ≤ h.1.length) (hs : zWS N M0 M F0 F Ts vs most pd p ce lo) (hq : zPq bits p 68 held st vs) (hab : zAbs ce lo vs a b) (hC : 1 ≤ C) (hce : ce.length + 4 ≤ 1400) (hlo : lo.length + 2 ≤ 600) (g : ∀ V, zrv bits 68 vs K = some V → zDo Q h N M0 M F0 Ts vs most pd p ce lo A C V) : zG xs (d + 6) (217, 0, lv_args 0 [zo (some 10), .int (nI 68), .int a, .int b], []) (zov h M) Q := by
  have hg := zPq_g hq
  obtain ⟨a1, a2, a3, a4, a5, a6⟩ := hq
  have hr : (ztsim (zkat st 0) && zkat st 0 == zkat st 1) = true := a3
  simp only [Bool.and_eq_true, beq_iff_eq] at hr
  have b0 : 1 < st.length := by
    have q : ∀ i, ztsim (zkat st i) = true → i < st.length := fun i hi => by
      by_cases z : i < st.length
      · exact z
      · exfalso
        have : zkat st i = .arg 0 := by unfold zkat; rw [List.getD_eq_getElem?_getD, List.getElem?_eq_none (by omega)]; rfl
        rw [this] at hi; cases hi
    exact q 1 (hr.2 ▸ hr.1)
  obtain ⟨v, w, r, rfl⟩ := zvs2 a2 b0
  obtain ⟨ca, rfl, h0⟩ := hab.1 (Nat.succ_pos _)
  obtain ⟨cb, rfl, h1⟩ := hab.2 (Nat.succ_lt_succ (Nat.succ_pos _))
  have h0 : zRc ce lo v (.inl ca) := h0
  have h1 : zRc ce lo w (.inl cb) := h1
  have hT := zkat_g hg 0 (by omega)
  have hv : zVt (zkat st 0) v := zCfo_at 0 a2 (by omega)
  have hw : zVt (zkat st 0) w := by rw [hr.2]; exact zCfo_at 1 a2 b0
  have hd8 : ztdep (zkat st 0) ≤ 8 := by rw [zkat_lt (by omega)]; exact (a1 _ (List.getElem_mem _)).2
  have h3 := (zOr_t _ v w w hT.1 hr.1 hv hw hw).1
  have gg : zDo Q h N M0 M F0 Ts (v :: w :: r) most pd p ce lo A C (zcpn (zcmp v w)) := g _ rfl
  apply zm_217
  refine zpre_a (d := d + 5) hl hs.1 hT.1 hr.1 hv h0 (fun l5 => ⟨fun _ => ?_, fun z => absurd rfl z⟩)
  obtain ⟨A1, B1, u1, u2, u3, u4⟩ := zS35_4 (zWS_4 hs)
  refine zM_cv hl hs.1.1 (zc191 (d := d + 4) hl hs.1 (zSimp_t _ v w hT.1 hr.1 hv hw) h0 h1 (by have := (zdep_t _ v hT.1 hr.1 hv).1; omega) u1 u2 u3 u4 (fun M' A' B' p1 s1 q1 q2 q3 q4 => zKI_v ?_))
  have s2 := zWS_35 hs p1 s1 ⟨A', B', q1, q2, q3, q4⟩
  have gg := zDo_mv gg (zfr_sm s1 (by decide))
  refine ⟨fun z => absurd z (by decide), fun z => absurd z (by decide), fun z => absurd z (by decide), fun z => absurd z (by decide), fun z => absurd z (by decide), fun z => absurd z (by decide), fun z => absurd z (by decide), fun _ => ?_, fun z => absurd z (by decide), fun z => absurd rfl z.2.2.2.2.2.2.2.1⟩
  rcases h3 with z | z | z <;> rw [z] at gg ⊢
  · exact ⟨fun z => absurd z (by decide), fun _ => ⟨fun _ => zdo_n (s := true) (n := 1) (d := d + 3) hl s2 hC (by omega) (by omega) (by decide) gg, fun z => absurd (by decide) z⟩⟩
  · exact ⟨fun _ => ⟨fun z => absurd z (by decide), fun _ => zdo_n (s := false) (n := 0) (d := d + 3) hl s2 hC (by omega) (by omega) (by decide) gg⟩, fun z => absurd rfl z⟩
  · exact ⟨fun z => absurd z (by decide), fun _ => ⟨fun z => absurd z (by decide), fun _ => zdo_n (s := false) (n := 1) (d := d + 3) hl s2 hC (by omega) (by omega) (by decide) gg⟩⟩
theorem zM_tx {x y u vv jj : Nat} {K : Int64 → Prop} (hl : 50 ≤ h.1.length) (hp : zPo M F ce lo) (hi : ce[ca]? = some (x, jj, y)) (hj : lo[jj]? = some (u, vv)) (k : K (lN vv)) : zGR (some 10) 12 34 (zov h M) fun x1 => zGR (some 10) 12 31 (zov h M) fun x3 => zSA x3 (nI ca) (zov h M) fun x5 => zLA x1 x5 (zov h M) K := by
  obtain ⟨a1, a2, a3, a4, a5, a6, W, H, B, U, L, b1, b2, b3, b4, b5, b6, b7, b8, b9, b10, b11, b12⟩ := hp
  have g1 : H[ca]? = some (nI jj) := (b11 ca _ hi).2.1
  have g2 : L[jj]? = some (lN vv) := (b12 jj _ hj).2
  have hi := (List.getElem?_eq_some_iff.mp hi).1
  have hj := (List.getElem?_eq_some_iff.mp hj).1
  exact zM_gr hl a1 (a2 (34, 34) (by decide)) (zM_gr hl a1 (a2 (31, 31) (by decide)) (zM_sa hl b2 g1 (zM_la hl b5 g2 k)))
theorem ze75 (hl : 50 ≤ h.1.length) (hs : zWS N M0 M F0 F Ts vs most pd p ce lo) (hq : zPq bits p 75 held st vs) (hab : zAbs ce lo vs a b) (hC : 1 ≤ C) (hce : ce.length + 4 ≤ 1400) (hlo : lo.length + 2 ≤ 600) (g : ∀ V, zrv bits 75 vs K = some V → zDo Q h N M0 M F0 Ts vs most pd p ce lo A C V) (g2 : zrv bits 75 vs K = none → zDx Q h N M0 F0 Ts vs most pd p) : zG xs (d + 6) (217, 0, lv_args 0 [zo (some 10), .int (nI 75), .int a, .int b], []) (zov h M) Q := by
  have hg := zPq_g hq
  obtain ⟨a1, a2, a3, a4, a5, a6⟩ := hq
  have hr : (zkhs st 0 4 && zkhs st 1 4) = true := a3
  simp only [Bool.and_eq_true] at hr
  have b0 := zkhs_c hr.1
  have b1 := zkhs_c hr.2
  obtain ⟨v, w, r, rfl⟩ := zvs2 a2 b1.1
  obtain ⟨ca, rfl, h0⟩ := hab.1 (Nat.succ_pos _)
  obtain ⟨cb, rfl, h1⟩ := hab.2 (Nat.succ_lt_succ (Nat.succ_pos _))
  have h0 : zRc ce lo v (.inl ca) := h0
  have h1 : zRc ce lo w (.inl cb) := h1
  obtain ⟨k, x, e0, t0⟩ := zVt_text (zkat_g hg 0 b0.1).1 b0.2 (show zVt (zkat st 0) v from zCfo_at 0 a2 b0.1)
  obtain ⟨l, y, e1, t1⟩ := zVt_text (zkat_g hg 1 b1.1).1 b1.2 (show zVt (zkat st 1) w from zCfo_at 1 a2 b1.1)
  subst e0 e1
  have ez : zrv bits 75 (.mul (.arg k) (.arg x) :: .mul (.arg l) (.arg y) :: r) K = (if k + l ≤ 8 then some (Term.mul (.arg (k + l)) (.arg (x + y / 2 ^ (8 * k)))) else none) := rfl
  obtain ⟨⟨ja, f1, f2⟩, _⟩ := h0
  obtain ⟨⟨jb, g1, g3⟩, _⟩ := h1
  have k8 := t0.1
  have l8 := t1.1
  apply zm_217
  refine zpre_x (d := d + 5) hl hs.1 f1 (by decide) (by decide) (fun l5 => zn68 (by decide) ⟨fun z => absurd z (by decide), fun z => absurd z (by decide), fun z => absurd z (by decide), fun z => absurd z (by decide), fun z => absurd z (by decide), fun z => absurd z (by decide), fun z => absurd z (by decide), fun z => absurd z (by decide), fun _ => ?_, fun z => absurd rfl z.2.2.2.2.2.2.2.2⟩)
  refine zM_bd hl hs.1 f1 (zM_bd hl hs.1 g1 ?_)
  rw [nI_add]
  refine pk_lt 8 (k + l) (fun hgt => ?_) (fun hle => ?_)
  · exact g2 (by rw [ez, if_neg (by omega)]) M F ce lo hs
  · have fin : ∀ z : Int64, z = lN (x + y / 2 ^ (8 * k)) → zCV xs (d + 6) 190 12 (some 10) [Value.int (4 : Int32), Value.long (0 : Int64), Value.long z, Value.int (nI (k + l))] (zov h M) (zKI (fun x7 h8 => zw_217_382 xs (d + 6) Q x7 h8) (fun e h => Q (.inr e) h)) := by
      intro z hz
      subst hz
      refine zM_cv hl hs.1.1 (zc190 (k := 4) (u := 0) (d := d + 4) hl hs.1 (by omega) (by omega) (by decide) (by omega) (fun M' F' p1 s1 s2 => zKI_v ?_))
      refine g _ (by rw [ez, if_pos (by omega)]) M' F' Ts pd [_] [_] ce.length (zWS_up hs s1 s2 p1 (zTbl_sm (zWS_t hs) s1 (s2 21 (by decide)) (by decide)) (fun x V => zCr_app) (zSc4_sm (zWS_4 hs) s1 (by decide)) (by decide) (by decide)) ?_ (by rw [List.length_singleton]; omega) (by rw [List.length_singleton]; omega) (Nat.le_refl _) (zfr_sm s1 (by decide))
      exact ⟨⟨lo.length, zget_new, zget_new⟩, zTxo_cat t0 t1 (by omega)⟩
    refine zM_tx hl hs.1 f1 f2 (zM_bd hl hs.1 g1 (pk_eq l 0 (fun l0 => ?_) (fun l0 => ?_)))
    · refine zM_bd hl hs.1 f1 (zM_bd hl hs.1 g1 ?_)
      rw [nI_add]
      refine fin _ ?_
      have y0 : y = 0 := by
        have := t1.2.2.1
        have q := t1.2.1
        rw [l0] at this
        have e : (2 : Nat) ^ (8 * (8 - 0)) = 18446744073709551616 := by decide
        rw [e, Nat.mod_eq_of_lt (Nat.lt_trans q (by decide))] at this
        exact this
      rw [y0, Nat.zero_div, Nat.add_zero]
      exact Int64.or_zero
    · refine zM_tx hl hs.1 g1 g3 (zM_bd hl hs.1 f1 (zM_bd hl hs.1 f1 (zM_bd hl hs.1 g1 ?_)))
      rw [nI_add]
      exact fin _ (zcat_l t0 t1 (by omega))
end RW6
