/-! the reference at work: maps -/
section RW3
variable {xs : List Value} {d : Nat} {h : zH} {N : List zNt} {M0 M M' : Nat → zE} {F0 F F' : Nat → Value} {Q : zO → zH → Prop} {ce : List (Nat × Nat × Nat)} {lo : List (Nat × Nat)} {Ts vs st : List Term} {pd : List Int32} {most p bits held C c j : Nat} {a b : Int32} {K V T key : Term} {A : List Nat}
theorem zS35_4 (hs : zSc4 M) : zS35 M := by
  obtain ⟨To, Cl, A, B, b1, b2, b3, b4, b5, b6, b7, b8⟩ := hs
  exact ⟨A, B, b5, b6, b7, b8⟩
theorem zSc4_35 {S : List Nat} (hs : zSc4 M) (sM : zSm S M M') (hS : (S.contains 19 || S.contains 20) = false) (h35 : zS35 M') : zSc4 M' := by
  obtain ⟨To, Cl, A, B, b1, b2, b3, b4, b5, b6, b7, b8⟩ := hs
  obtain ⟨A', B', c1, c2, c3, c4⟩ := h35
  simp only [Bool.or_eq_false_iff] at hS
  exact ⟨To, Cl, A', B', (sM 19 (fun z => by rw [List.contains_iff_mem.mpr z] at hS; cases hS.1)).trans b1, b2, (sM 20 (fun z => by rw [List.contains_iff_mem.mpr z] at hS; cases hS.2)).trans b3, b4, c1, c2, c3, c4⟩
theorem zWS_35 (hs : zWS N M0 M F0 F Ts vs most pd p ce lo) (p1 : zPo M' F ce lo) (sM : zSm [35, 36] M M') (s1 : zS35 M') : zWS N M0 M' F0 F Ts vs most pd p ce lo :=
  zWS_up hs sM (T := []) zSm_refl p1 (zTbl_sm (zWS_t hs) sM rfl (by decide)) (fun _ _ z => z) (zSc4_35 (zWS_4 hs) sM (by decide) s1) (by decide) (by decide)
/-- a map as the reference has it -/
theorem zmapq (hT : zTg1 T) (hm : zkm T = true) (hd : ztdep (zt1 T) ≤ 8) (hv : zVt T V) (hk : zVt (zt1 T) key) : ∃ L k, (∀ (ce : List (Nat × Nat × Nat)) (lo : List (Nat × Nat)) (c : Nat), zRc ce lo V (.inl c) → zRc ce lo (zenc L) (.inr (c, k))) ∧ zRk k L ∧ L.length ≤ zmr V ∧ (∀ x ∈ L, zBe key x) ∧ zgt key V = zfd key L ∧ (zfd key L = .arg 24 ∨ ∃ v, zfd key L = .div (.arg 25) v) := by
  have hc : ztc T = 9 ∨ ztc T = 10 := by unfold zkm at hm; simpa using hm
  have hs := zsim_of hT hc
  have be : ∀ (cc : Nat) (k v : Term), zVt (zt1 T) k → zBe key (.add (.div (.arg cc) k) v) := fun cc k v h => ⟨cc, k, v, rfl, zSimp_t _ k key (zTg1_1 hT).1 hs h hk, by have := (zdep_t _ k (zTg1_1 hT).1 hs h).1; omega⟩
  have f2 : ∀ L : List Term, zfd key L = .arg 24 ∨ ∃ v, zfd key L = .div (.arg 25) v := by
    intro L
    induction L with
    | nil => exact Or.inl rfl
    | cons x L ih =>
      rw [zfd]
      split
      · split
        · exact Or.inl rfl
        · exact Or.inr ⟨_, rfl⟩
      · exact ih
  rcases hc with hc | hc
  · obtain ⟨es, rfl, h1, h2⟩ := zVt_map hT.1 hc hv
    refine ⟨es.map fun e : Term × Term => zent2 e.1 e.2, 12, fun ce lo c hr => hr, ⟨Or.inr (Or.inl rfl), fun _ x hx => by obtain ⟨y, _, rfl⟩ := List.mem_map.mp hx; rfl⟩, ?_, fun x hx => ?_, ?_, f2 _⟩
    · have := (zmr_rws (.length (zenc (es.map fun e => zent2 e.1 e.2)))).2
      have e : zrws (.length (zenc (es.map fun e => zent2 e.1 e.2))) = es.map fun e => zent2 e.1 e.2 := zels_enc _
      rw [e] at this; exact this
    · obtain ⟨y, hy, rfl⟩ := List.mem_map.mp hx
      exact be 28 y.1 y.2 (h1 y hy).1
    · show zget key ((zels (zenc _)).map zpr) = _
      rw [zels_enc, zpr_map]
      exact zget_fd (zTg1_1 hT).1 hs hk es (fun e he => (h1 e he).1) h2
  · obtain ⟨L, rfl, h1⟩ := zVt_big hT.1 hc hv
    refine ⟨L, 14, fun ce lo c hr => hr, ⟨Or.inr (Or.inr rfl), fun z => absurd rfl z⟩, ?_, fun x hx => ?_, ?_, f2 _⟩
    · have := (zmr_rws (.sum (zenc L))).2
      have e : zrws (.sum (zenc L)) = L := zels_enc _
      rw [e] at this; exact this
    · obtain ⟨k, v, hk', hx'⟩ := h1 x hx
      rcases hx' with ⟨rfl, _⟩ | rfl
      · exact be 28 k v hk'
      · exact be 29 k k hk'
    · show zfd key (zels (zenc L)) = _
      rw [zels_enc]
/-- what is found for a key -/
theorem zdfd (hc : c = 52 ∨ c = 54) (hl : 50 ≤ h.1.length) (hs : zWS N M0 M F0 F Ts vs most pd p ce lo) (hq : zPq bits p c held st vs) (hab : zAbs ce lo vs a b) (g : ∀ M', zWS N M0 M' F0 F Ts vs most pd p ce lo → (∀ q, q ∈ zfrs → M' q = M q) → (zgt (zkat vs 0) (zkat vs 1) = .arg 24 → zw_214_62 xs (d + 6) Q (some 10) (nI j) (nI c) a b (-1) (zov h M')) ∧ (∀ v c', zgt (zkat vs 0) (zkat vs 1) = .div (.arg 25) v → zRc ce lo v (.inl c') → zw_214_62 xs (d + 6) Q (some 10) (nI j) (nI c) a b (nI c') (zov h M'))) : zG xs (d + 6) (214, 0, lv_args 0 [zo (some 10), .int (nI j), .int (nI c), .int a, .int b], []) (zov h M) Q := by
  have hg := zPq_g hq
  obtain ⟨a1, a2, a3, a4, a5, a6⟩ := hq
  have hr : (zkm (zkat st 1) && zt1 (zkat st 1) == zkat st 0) = true := by rcases hc with rfl | rfl <;> exact a3
  simp only [Bool.and_eq_true, beq_iff_eq] at hr
  have b1 := zkm_at hr.1
  obtain ⟨v, w, r, rfl⟩ := zvs2 a2 b1
  obtain ⟨ca, rfl, h0⟩ := hab.1 (Nat.succ_pos _)
  obtain ⟨cb, rfl, h1⟩ := hab.2 (Nat.succ_lt_succ (Nat.succ_pos _))
  have h0 : zRc ce lo v (.inl ca) := h0
  have h1 : zRc ce lo w (.inl cb) := h1
  have hw : zVt (zkat st 1) w := zCfo_at 1 a2 b1
  have hv : zVt (zt1 (zkat st 1)) v := by rw [hr.2]; exact zCfo_at 0 a2 (by omega)
  have hd8 : ztdep (zt1 (zkat st 1)) ≤ 8 := by rw [hr.2, zkat_lt (by omega)]; exact (a1 _ (List.getElem_mem _)).2
  have hmr := a5 w (List.mem_cons_of_mem _ List.mem_cons_self)
  obtain ⟨L, k, m1, m2, m3, m4, m5, m6⟩ := zmapq (zkat_g hg 1 b1) hr.1 hd8 hw hv
  have go : zw_214_51 xs (d + 6) Q (some 10) (nI j) (nI c) (nI ca) (nI cb) (zov h M) := by
    refine zM_cv hl hs.1.1 (zc215 (d := d + 3) hl hs.1 (zS35_4 (zWS_4 hs)) (m1 _ _ _ h1) m2 (by omega) m4 h0 (fun z M' p1 sM s1 => zKI_v ?_) (fun v' c' z hv' M' p1 sM s1 => zKI_v ?_))
    · exact (g M' (zWS_35 hs p1 sM s1) (zfr_sm sM (by decide))).1 (m5.trans z)
    · exact (g M' (zWS_35 hs p1 sM s1) (zfr_sm sM (by decide))).2 v' c' (m5.trans z) hv'
  apply zm_214
  rcases hc with rfl | rfl
  · exact ⟨fun z => absurd z (by decide), fun _ => ⟨fun _ => go, fun z => absurd rfl z⟩⟩
  · exact ⟨fun z => absurd z (by decide), fun _ => ⟨fun z => absurd z (by decide), fun _ => ⟨fun _ => go, fun z => absurd rfl z⟩⟩⟩
theorem zd52 (hl : 50 ≤ h.1.length) (hs : zWS N M0 M F0 F Ts vs most pd p ce lo) (hq : zPq bits p 52 held st vs) (hab : zAbs ce lo vs a b) (hC : 1 ≤ C) (hce : ce.length + 4 ≤ 1400) (g : ∀ V, zrv bits 52 vs K = some V → zDo Q h N M0 M F0 Ts vs most pd p ce lo A C V) : zG xs (d + 6) (214, 0, lv_args 0 [zo (some 10), .int (nI j), .int (nI 52), .int a, .int b], []) (zov h M) Q := by
  refine zdfd (Or.inl rfl) hl hs hq hab (fun M' s1 fr1 => ⟨fun z => ?_, fun v c' z hv => ?_⟩)
  · refine ⟨fun z => absurd z (by decide), fun z => absurd z (by decide), fun z => absurd z (by decide), fun z => absurd z (by decide), fun z => absurd z (by decide), fun z => absurd z (by decide), fun z => absurd z (by decide), fun z => absurd z (by decide), fun z => absurd z (by decide), fun z => absurd z (by decide), fun z => absurd z (by decide), fun z => absurd z (by decide), fun z => absurd z (by decide), fun z => absurd z (by decide), fun z => absurd z (by decide), fun z => absurd z (by decide), fun _ => ?_, fun z => absurd z (by decide), fun z => absurd z (by decide), fun z => absurd z (by decide), fun z => absurd z (by decide), fun z => absurd rfl z.2.2.2.2.2.2.2.2.2.2.2.2.2.2.2.2.1⟩
    refine ⟨fun _ => ?_, fun z => absurd (by decide) z⟩
    exact zdo_c (V := .arg 24) (d := d + 5) (k := 6) (a := 0) (b := 0) hl s1 hC (by omega) (by decide) (by decide) (by decide) (by have := zDo_mv (g _ rfl) fr1; rw [z] at this; exact this) ⟨0, 0, zget_new⟩
  · have c14 := zRc_14 hs.1 hv
    refine ⟨fun z => absurd z (by decide), fun z => absurd z (by decide), fun z => absurd z (by decide), fun z => absurd z (by decide), fun z => absurd z (by decide), fun z => absurd z (by decide), fun z => absurd z (by decide), fun z => absurd z (by decide), fun z => absurd z (by decide), fun z => absurd z (by decide), fun z => absurd z (by decide), fun z => absurd z (by decide), fun z => absurd z (by decide), fun z => absurd z (by decide), fun z => absurd z (by decide), fun z => absurd z (by decide), fun _ => ?_, fun z => absurd z (by decide), fun z => absurd z (by decide), fun z => absurd z (by decide), fun z => absurd z (by decide), fun z => absurd rfl z.2.2.2.2.2.2.2.2.2.2.2.2.2.2.2.2.1⟩
    refine ⟨fun z => absurd z (nI_pos (by omega)), fun _ => ?_⟩
    exact zdo_c (V := .div (.arg 25) v) (d := d + 5) (k := 7) (a := c') (b := 0) hl s1 hC (by omega) (by decide) (by omega) (by decide) (by have := zDo_mv (g _ rfl) fr1; rw [z] at this; exact this) ⟨c', 0, zget_new, zRc_up1 hv⟩
theorem zd54 (hl : 50 ≤ h.1.length) (hs : zWS N M0 M F0 F Ts vs most pd p ce lo) (hq : zPq bits p 54 held st vs) (hab : zAbs ce lo vs a b) (hC : 1 ≤ C) (hce : ce.length + 4 ≤ 1400) (g : ∀ V, zrv bits 54 vs K = some V → zDo Q h N M0 M F0 Ts vs most pd p ce lo A C V) : zG xs (d + 6) (214, 0, lv_args 0 [zo (some 10), .int (nI j), .int (nI 54), .int a, .int b], []) (zov h M) Q := by
  refine zdfd (Or.inr rfl) hl hs hq hab (fun M' s1 fr1 => ⟨fun z => ?_, fun v c' z hv => ?_⟩)
  · refine ⟨fun z => absurd z (by decide), fun z => absurd z (by decide), fun z => absurd z (by decide), fun z => absurd z (by decide), fun z => absurd z (by decide), fun z => absurd z (by decide), fun z => absurd z (by decide), fun z => absurd z (by decide), fun z => absurd z (by decide), fun z => absurd z (by decide), fun z => absurd z (by decide), fun z => absurd z (by decide), fun z => absurd z (by decide), fun z => absurd z (by decide), fun z => absurd z (by decide), fun z => absurd z (by decide), fun z => absurd z (by decide), fun z => absurd z (by decide), fun _ => ?_, fun z => absurd z (by decide), fun z => absurd z (by decide), fun z => absurd rfl z.2.2.2.2.2.2.2.2.2.2.2.2.2.2.2.2.2.2.1⟩
    refine ⟨fun _ => ?_, fun z => absurd (by decide) z⟩
    exact zdo_t (d := d + 4) (t := false) hl s1 hC (by omega) (by have := zDo_mv (g _ rfl) fr1; rw [z] at this; exact this)
  · have c14 := zRc_14 hs.1 hv
    refine ⟨fun z => absurd z (by decide), fun z => absurd z (by decide), fun z => absurd z (by decide), fun z => absurd z (by decide), fun z => absurd z (by decide), fun z => absurd z (by decide), fun z => absurd z (by decide), fun z => absurd z (by decide), fun z => absurd z (by decide), fun z => absurd z (by decide), fun z => absurd z (by decide), fun z => absurd z (by decide), fun z => absurd z (by decide), fun z => absurd z (by decide), fun z => absurd z (by decide), fun z => absurd z (by decide), fun z => absurd z (by decide), fun z => absurd z (by decide), fun _ => ?_, fun z => absurd z (by decide), fun z => absurd z (by decide), fun z => absurd rfl z.2.2.2.2.2.2.2.2.2.2.2.2.2.2.2.2.2.2.1⟩
    refine ⟨fun z => absurd z (nI_pos (by omega)), fun _ => ?_⟩
    exact zdo_t (d := d + 4) (t := true) hl s1 hC (by omega) (by have := zDo_mv (g _ rfl) fr1; rw [z] at this; exact this)
theorem zd53 (hl : 50 ≤ h.1.length) (hs : zWS N M0 M F0 F Ts vs most pd p ce lo) (hq : zPq bits p 53 held st vs) (hab : zAbs ce lo vs a b) (hC : zcst 53 vs ≤ C) (hce : ce.length + 4 * C ≤ 1400) (g : ∀ V, zrv bits 53 vs K = some V → zDo Q h N M0 M F0 Ts vs most pd p ce lo A C V) : zG xs (d + 6) (214, 0, lv_args 0 [zo (some 10), .int (nI j), .int (nI 53), .int a, .int b], []) (zov h M) Q := by
  have hg := zPq_g hq
  have hC1 := zcst_1 53 vs
  obtain ⟨a1, a2, a3, a4, a5, a6⟩ := hq
  have hr : (zkm (zkat st 2) && zt1 (zkat st 2) == zkat st 0 && zkhs st 1 6 && zt2 (zkat st 2) == zt1 (zkat st 1)) = true := a3
  simp only [Bool.and_eq_true, beq_iff_eq] at hr
  have b2 := zkm_at hr.1.1.1
  have b1 := zkhs_c hr.1.2
  obtain ⟨v, w, u, r, rfl⟩ := zvs3 a2 b2
  obtain ⟨ca, rfl, h0⟩ := hab.1 (Nat.succ_pos _)
  obtain ⟨cb, rfl, h1⟩ := hab.2 (Nat.succ_lt_succ (Nat.succ_pos _))
  have h0 : zRc ce lo v (.inl ca) := h0
  have h1 : zRc ce lo w (.inl cb) := h1
  have hT := zkat_g hg 2 b2
  have hu : zVt (zkat st 2) u := zCfo_at 2 a2 b2
  have hv : zVt (zt1 (zkat st 2)) v := by rw [hr.1.1.2]; exact zCfo_at 0 a2 (by omega)
  have hd8 : ztdep (zt1 (zkat st 2)) ≤ 8 := by rw [hr.1.1.2, zkat_lt (by omega)]; exact (a1 _ (List.getElem_mem _)).2
  have hmr := a5 u (List.mem_cons_of_mem _ (List.mem_cons_of_mem _ List.mem_cons_self))
  have hopt : w = .arg 24 ∨ ∃ x, w = .div (.arg 25) x := by
    rcases zVt_opt (zkat_g hg 1 b1.1).1 b1.2 (show zVt (zkat st 1) w from zCfo_at 1 a2 b1.1) with z | ⟨x, z, _⟩
    · exact Or.inl z
    · exact Or.inr ⟨x, z⟩
  have ho := zOc_of hopt h1
  have hcc : ztc (zkat st 2) = 9 ∨ ztc (zkat st 2) = 10 := by have := hr.1.1.1; unfold zkm at this; simpa using this
  have hsim := zsim_of hT hcc
  have hse := hs
  obtain ⟨w1, w2, w3, w4, w5, w6⟩ := hse
  apply zm_214
  refine zd_0 (by decide) (by decide) (by decide) ⟨fun z => absurd z (by decide), fun z => absurd z (by decide), fun z => absurd z (by decide), fun z => absurd z (by decide), fun z => absurd z (by decide), fun z => absurd z (by decide), fun z => absurd z (by decide), fun z => absurd z (by decide), fun z => absurd z (by decide), fun z => absurd z (by decide), fun z => absurd z (by decide), fun z => absurd z (by decide), fun z => absurd z (by decide), fun z => absurd z (by decide), fun z => absurd z (by decide), fun z => absurd z (by decide), fun z => absurd z (by decide), fun _ => ?_, fun z => absurd z (by decide), fun z => absurd z (by decide), fun z => absurd z (by decide), fun z => absurd rfl z.2.2.2.2.2.2.2.2.2.2.2.2.2.2.2.2.2.1⟩
  refine zM_cv hl hs.1.1 (zc173 (d := d + 5) (k := 2) hl hs.1.1 hs.1.2.1 w5 (by decide) (fun U y hU hy => zKI_v ?_) (fun z => absurd z (by rw [List.length_cons, List.length_cons, List.length_cons]; omega)))
  cases hU
  obtain ⟨cu, rfl, hcu⟩ := hy
  rcases hcc with hc | hc
  · obtain ⟨es, rfl, e1, e2⟩ := zVt_map hT.1 hc hu
    have hC' : 1 + (zels (zenc (es.map fun e => zent2 e.1 e.2))).length ≤ C := hC
    rw [zels_enc, List.length_map] at hC'
    have hm1 := (zmr_rws (.length (zenc (es.map fun e => zent2 e.1 e.2)))).2
    have e : zrws (.length (zenc (es.map fun e => zent2 e.1 e.2))) = es.map fun e => zent2 e.1 e.2 := zels_enc _
    rw [e, List.length_map] at hm1
    refine zM_cv hl hs.1.1 (zc216m (d := d + 3) hl hs.1 (zS35_4 (zWS_4 hs)) (by omega) (by omega) h0 ho hcu (fun e he => ⟨zSimp_t _ e.1 v (zTg1_1 hT).1 hsim (e1 e he).1 hv, by have := (zdep_t _ e.1 (zTg1_1 hT).1 hsim (e1 e he).1).1; omega⟩) (fun M' F' X c' p1 l1 r1 sM sF s1 => zKI_v ?_))
    refine g _ rfl M' F' Ts pd X [] c' ?_ ?_ (by omega) (by rw [List.length_nil]; omega) (Nat.le_refl _) (zfr_sm sM (by decide))
    · exact zWS_up hs sM sF (by rw [List.append_nil]; exact p1) (zTbl_sm (zWS_t hs) sM (sF 21 (by decide)) (by decide)) (fun x V => zCr_app) (zSc4_35 (zWS_4 hs) sM (by decide) s1) (by decide) (by decide)
    · rw [List.append_nil]
      show zRc (ce ++ X) lo (.length (zenc ((zupl v w ((zels (zenc _)).map zpr)).map fun e => zent2 e.1 e.2))) (.inl c')
      rw [zels_enc, zpr_map]
      exact r1
  · obtain ⟨L, rfl, e1⟩ := zVt_big hT.1 hc hu
    refine zM_cv hl hs.1.1 (zc216b (d := d + 3) hl hs.1 (by omega) h0 ho hcu ⟨L, rfl⟩ (fun M' F' X p1 l1 r1 sM sF => zKI_v ?_))
    refine g _ rfl M' F' Ts pd X [] (ce.length + 1) ?_ ?_ (by omega) (by rw [List.length_nil]; omega) (Nat.le_refl _) (zfr_sm sM (by decide))
    · exact zWS_up hs sM sF (by rw [List.append_nil]; exact p1) (zTbl_sm (zWS_t hs) sM (sF 21 (by decide)) (by decide)) (fun x V => zCr_app) (zSc4_sm (zWS_4 hs) sM (by decide)) (by decide) (by decide)
    · rw [List.append_nil]
      exact r1
end RW3
