section MB8
variable {xs : List Value} {N : List zNt} {m sk bits bound f : Nat}
theorem zStL_len {P : zSP} {held : Nat} {x : zkcs} : ∀ (js : List Nat) (s : zkcs) (ls : List Nat), zStL N P held js s ls → zkfo (zkin N (zkbl N) held) js s = .inr x → ls.length = js.length
  | [], s, ls, h, _ => by have h : ls = [] := h; rw [h]
  | j :: js, s, ls, h, hk => by
    obtain ⟨l, ls2, st2, a2, b2, e1, e2, hP, hrest⟩ := h
    rw [zkfo] at hk
    cases hkj : zkin N (zkbl N) held j s with
    | inl y => rw [hkj] at hk; cases hk
    | inr y =>
      rw [hkj] at hk
      rw [e1, List.length_cons, List.length_cons, zStL_len js y ls2 (hrest y hkj) hk]
theorem zc99s (hg : zGd N) (hb2 : 1 ≤ bits ∧ bits ≤ 120) (hbd : bound ≤ 150) (H : zP100 xs N bits bound m sk f) : zP99 xs N bits bound m sk f := by
  intro i st held a b r vs p lb h S x Q D hD hrow hok hb hs hk hm ho hR
  obtain ⟨d, rfl⟩ : ∃ d, D = d + 1 := ⟨D - 1, by omega⟩
  obtain ⟨e, ls, he, hr, hL⟩ := hrow
  rw [zkbl_eq hg.1.1] at hk
  unfold zkB at hk
  rw [he] at hk
  dsimp only at hk
  split at hk
  · rw [zrbl_eq hg.1.1] at hR
    unfold zrB at hR
    rw [he] at hR
    dsimp only at hR
    have b12 : max b (st.length + held) ≤ 12 := by have := hok.1; omega
    generalize max b (st.length + held) = b0 at hk hL b12
    have hl40 : ls.length ≤ 40 := by
      rw [zStL_len _ _ _ hL hk, zchn_len]
      exact (hg.1.2 i e he).2.2.1
    generalize zchn N (eM e) (i + 1) = js at hk hL hR
    have hrm : r ∉ [m] := fun z => by
      obtain ⟨no, q⟩ := hm.2.1
      rw [← List.mem_singleton.mp z, hr] at q; cases q
    refine zm_99 (fun n l0 l1 l2 h0 => ∃ k js1 st1 a1 b1 vs1 p1 h1 S1 ls1, n = ls.length - k ∧ l0 = some m ∧ l1 = some r ∧ l2 = nI k ∧ k ≤ ls.length ∧ h0 = zrh h1 sk S1 ∧ p ≤ p1 ∧ zCe [m] h h1 (12 * (p1 - p)) (zph p1 - zph p) ∧ zMa h1 m sk bits bound (vs1.map znm) S1 p1 ∧ ls.drop k = ls1 ∧ zkok held st1 ∧ b1 ≤ 12 ∧ zSs bound st1 vs1 p1 ∧ zStL N (zStp lb h N f) held js1 (some st1, a1, b1) ls1 ∧ zkfo (zkin N (zkbl N) held) js1 (some st1, a1, b1) = .inr x ∧ zrfo (zrst N bits bound (zrbl N bits bound)) js (vs, p) = zrfo (zrst N bits bound (zrbl N bits bound)) js1 (vs1, p1)) ?_ ?_
    · rintro n l0 l1 l2 h0 ⟨k, js1, st1, a1, b1, vs1, p1, h1, S1, ls1, rfl, rfl, rfl, rfl, hkl, rfl, hp1, c1, m1, hls, ok1, hb1, s1, hL1, hk1, hz⟩
      have hpb1 := s1.2.2
      have mp1 := zph_mono hp1
      have hr1 : zown (zrh h1 sk S1) r = some (.inl (7, ls.map Value.ref)) := (zown_l m1.1 (c1.1 _ _ hrm hr) (fun z => absurd (show (7 : Nat) = 9999 from congrArg Prod.fst (Sum.inl.inj z)) (by decide))).2
      refine ⟨r, 7, _, rfl, zarr_own hr1, by decide, ⟨fun hlt => ?_, fun hge => ?_⟩⟩
      · rw [List.length_map] at hlt
        have hkl2 : k < ls.length := by
          rcases Nat.lt_or_ge k ls.length with q | q
          · exact q
          · exfalso
            have : k = ls.length := by omega
            subst this
            exact absurd ((nI_ltI (a := ls.length) (b := ls.length) (by omega) (by omega)).mp hlt) (by omega)
        cases js1 with
        | nil =>
          have hL1 : ls1 = [] := hL1
          rw [hL1] at hls
          have := congrArg List.length hls
          rw [List.length_drop, List.length_nil] at this
          omega
        | cons j js2 =>
          obtain ⟨l, ls2, st2, a2, b2, e1, e2, hP, hrest⟩ := hL1
          cases e2
          rw [e1] at hls
          have hlk : ls[k]? = some l := by
            have := congrArg (fun q => q[0]?) hls
            simp only [List.getElem?_drop, Nat.add_zero, List.getElem?_cons_zero] at this
            exact this
          have hdr : ls.drop (k + 1) = ls2 := by
            have := congrArg (List.drop 1) hls
            rw [List.drop_drop] at this
            exact this
          have hk31 : k < 2 ^ 31 := by omega
          rw [zkfo] at hk1
          cases hkj : zkin N (zkbl N) held j (some st1, a1, b1) with
          | inl y => rw [hkj] at hk1; cases hk1
          | inr y =>
            obtain ⟨o3, a3, b3⟩ := y
            rw [hkj] at hk1
            obtain ⟨ej, hej⟩ : ∃ e, N[j]? = some e := by
              cases q : N[j]? with
              | none => unfold zkin at hkj; rw [q] at hkj; cases hkj
              | some e => exact ⟨e, rfl⟩
            have hav : (ls.map Value.ref)[(nI k).toNatClampNeg]? = some (zo (some l)) := by
              rw [nI_clamp hk31, List.getElem?_map, hlk]; rfl
            refine ⟨r, 7, _, some l, rfl, hr1, by decide, nI_pos hk31, hav, ⟨fun z => (by cases z), fun _ => ⟨r, 7, _, some l, rfl, hr1, by decide, nI_pos hk31, hav, ?_⟩⟩⟩
            refine zMa_cv (d := d) m1 (H j st1 held a1 b1 l vs1 p1 lb h1 S1 _ _ _ (by omega) (zStp_fr (zSfr_ma hm c1) (Nat.le_refl _) f j st1 held a1 b1 l hP) ok1 hb1 s1 hkj m1 (zOut_ce hm c1 ho) (zRR_bind (zRR_mv (c1 := 0) (s1 := 0) hR c1 hp1 hpb1 (by omega) (by omega)) (fun e he => by rw [hz, zrfo, he]) (fun vs2 p2 hr2 hp2 h2 S2 c2 m2 => ?_)))
            obtain ⟨st', t1, t2, t3⟩ := zrst_s hg hb2.2 hbd hej (fun i _ => zrbl_s hg hb2.2 hbd N.length i (by omega)) ok1 hb1 s1 hkj hr2
            subst t1
            obtain ⟨u1, _, _, u4⟩ := zkin_ok hg hej (fun i h1 h2 => zkbl_ok hg N.length i (by omega) h2) ok1 hb1 hkj
            have mp2 := zph_mono hp2
            intro x3 hx
            refine ⟨ls.length - (k + 1), by omega, k + 1, js2, st', a3, b3, vs2, p2, h2, S2, ls2, rfl, rfl, rfl, by rw [hx, nI_1], by omega, rfl, by omega, zCe_le (zce_t c1 c2) (by omega) (by omega), m2, hdr, u4 _ rfl, u1, t2, hrest _ hkj, hk1, ?_⟩
            rw [hz, zrfo, hr2]
      · rw [List.length_map] at hge
        cases js1 with
        | nil =>
          rw [zrfo] at hz
          exact hR.1 vs1 p1 hz hp1 h1 S1 (zCe_le c1 (by omega) (by omega)) m1
        | cons j js2 =>
          exfalso
          obtain ⟨l, ls2, st2, a2, b2, e1, e2, hP, hrest⟩ := hL1
          rw [e1] at hls
          have hh := congrArg List.length hls
          rw [List.length_drop, List.length_cons] at hh
          exact hge (nI_lt (by omega) (by omega))
    · exact ⟨ls.length, 0, js, st, a, b0, vs, p, h, S, ls, rfl, rfl, rfl, rfl, Nat.zero_le _, rfl, Nat.le_refl _, ⟨fun _ _ _ q => q, Nat.le_refl _, by omega, by omega⟩, hm, rfl, hok, b12, hs, hL, hk, rfl⟩
  · cases hk
theorem zc99 (hg : zGd N) (hb2 : 1 ≤ bits ∧ bits ≤ 120) (hbd : bound ≤ 150) : ∀ f, zP99 xs N bits bound m sk f
  | 0 => zc99s hg hb2 hbd (fun j st held a b l vs p lb h S x Q D _ hst => hst.elim)
  | f + 1 => zc99s hg hb2 hbd (zc100 hg hb2 hbd (zc99 hg hb2 hbd f))
end MB8
