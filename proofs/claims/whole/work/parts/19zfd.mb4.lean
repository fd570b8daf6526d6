/-! MAP in the class -/
section MB4
variable {xs : List Value} {N : List zNt} {d D m sk bits bound p p1 a b i j l lb f held r r1 r2 c s c0 s0 k cl A n : Nat} {h h' h1 : zH} {S : List Value} {st vs W L : List Term} {v V : Term} {e : zNt} {Q : zO → zH → Prop} {x : zkcs} {x1 x2 x4 : Value} {is : List Nat} {e0 e1 : zE} {xx : Nat ⊕ List Nat}
theorem zvc_pad (hn : is.length < n) : zvc (.inl (8, zpad is n)) = false := by
  show (zpad is n).all zisr = false
  unfold zpad
  obtain ⟨k, e⟩ : ∃ k, n - is.length = k + 1 := ⟨n - is.length - 1, by omega⟩
  rw [e, List.replicate_succ, List.all_append, List.all_cons]
  show (_ && (false && _)) = false
  rw [Bool.false_and, Bool.and_false]
theorem zrh_own8 {vs : List Value} (hs : zown h sk = some zHid) (hk : zown h k = some (.inl (8, vs))) : k ≠ sk ∧ zown (zrh h sk S) k = some (.inl (8, vs)) := zown_l hs hk (fun z => absurd (show (8 : Nat) = 9999 from congrArg Prod.fst (Sum.inl.inj z)) (by decide))
theorem zVal_pa (hA : zown h A = some (.inl (8, zpad is n))) (hn : is.length < n) (hv : zVal h V xx) : zVal (zput h A e1) V xx := zVal_fr (fun k ek hk hz => by
  rw [zown_ne hA (fun z => by subst z; rw [hA] at hk; cases hk; rw [zvc_pad hn] at hz; cases hz)]; exact hk) V xx hv
theorem zMa_pa (hm : zMa h m sk bits bound W S p) (hA : zown h A = some (.inl (8, zpad is n))) (hn : is.length < n) : zMa (zput h A e1) m sk bits bound W S p := by
  obtain ⟨h1, ⟨no, h2⟩, h3, h4, h5⟩ := hm
  have kA := (zrh_own8 (S := S) h1 hA).1
  have kB : m ≠ A := fun z => by subst z; rw [h2] at hA; cases hA
  exact ⟨by rw [zown_ne hA (Ne.symm kA)]; exact h1, ⟨no, by rw [zown_ne hA kB]; exact h2⟩, h3, h4, fun i v hv => by
    obtain ⟨a, a1, a2⟩ := h5 i v hv
    exact ⟨a, a1, zVal_pa hA hn a2⟩⟩
theorem zCe_pa (hc : zCe [m] h h1 c s) (hA : zown h1 A = some e0) (hn : h.1.length + zK0 ≤ A) : zCe [m] h (zput h1 A e1) c s := ⟨fun k ek hk q => by
  have := zown_lt q
  rw [zown_ne hA (by omega)]; exact hc.1 k ek hk q, by rw [zput_ln]; exact hc.2.1, hc.2.2⟩
theorem zmk41 (hA : zown h A = some (.inl (8, is.map Value.ref))) (hv : zVs h L is) (hl : is.length < 1000) : zMkv xs (d + 1) 41 [zo (some A)] h (.old (zenc L)) 1 7 := fun R g => zc41 hA (g _ _ zEx_add (zRv_val.mpr ⟨is, zRv_row hv hl (Or.inr trivial) zEx_add.1 (by
  have t := zown_new (h := h) (e := .inr (3, [.int 2, .int (nI (is.map Value.ref).length), .long 0, .null, .null, .null, .ref A])) (n := 7)
  rw [zmap_ref_len] at t
  rw [zmap_ref_len]
  exact t) (zown_add hA)⟩))
theorem zmx0 (hn : n < 2 ^ 31) : (if (0 : Int32) < nI n then nI n else 0) = nI n := by
  split
  · rfl
  · rename_i q
    have : ¬ 0 < n := fun z => q (nI_lt (a := 0) z hn)
    rw [show n = 0 by omega]; rfl
theorem zc105 (hg : zGd N) (hb2 : bits ≤ 120) (hbd : bound ≤ 150) (IH : zP99 xs N bits bound m sk f) (hc : eC e = 50) (hD : 41 + 4 * f ≤ D) (hl : zown h l = some (.inr (9, [.int (nI (eC e)), x1, x2, .ref r1, x4]))) (hrow : zStR h N (zStp lb h N f) (j + 1) (zkbg (eC e) st) held a b r1) (hok : zkok held st) (hb : b ≤ 12) (hs : zSs bound st vs p) (hrd : zkrd (eC e) st held = true) (hE : zkE N (zkbl N) j e st held a b = .inr x) (hm : zMa h m sk bits bound (vs.map znm) S p) (ho : zOut h []) (hR : zRR h m sk bits bound p 12 (60 + p) (zract N bits bound (zrbl N bits bound) j e vs p) Q) : zG xs D (105, 0, lv_args 0 [zo (some m), zo (some l)], []) (zrh h sk S) Q := by
  obtain ⟨d, rfl⟩ : ∃ d, D = d + 20 := ⟨D - 20, by omega⟩
  obtain ⟨xo, xa, xb⟩ := x
  obtain ⟨o1, a1, b1, hk1, h2⟩ := zSi3 (Or.inr (Or.inl hc)) hE
  obtain ⟨k1, k2⟩ := zkbg_ok hok hrd (Or.inr (Or.inl hc))
  rw [hc] at hl hk1 h2 k1 hrd hrow
  have hln := zCfo_len hs.1
  have hok1 := hok.1
  obtain ⟨v, w, rfl⟩ := zvs1 hs.1 k2
  have hv : zVt (zkat st 0) v := zCfo_at 0 hs.1 k2
  have ht := zkat_g (zkok_g hok) 0 k2
  have hm0 : zmr v ≤ 40 + p := zmr_at hs.2.1 0
  have hr := zkhs_c (k := 0) (c := 8) hrd
  obtain ⟨L, rfl, hL⟩ := zVt_list ht.1 hr.2 hv
  have u1 : zkbg 50 st = zt1 (zkat st 0) :: st.drop 1 := by unfold zkbg; rw [if_neg (by decide), if_neg (by omega)]
  have hm1 : max (zels (zenc L)).length (zmr (zenc L)) ≤ 40 + p := hm0
  rw [zels_enc] at hm1
  have u2 : ∀ u ∈ L, zVt (zt1 (zkat st 0)) u ∧ zmr u ≤ 40 + p := fun u hu => ⟨hL u hu, by
    have := zmr_els (zenc L) u (by rw [zels_enc]; exact hu)
    omega⟩
  obtain ⟨l0, hl0, hl1, hl2⟩ : ∃ l0, o1 = some l0 ∧ l0.length = st.length ∧ l0.drop 1 = st.drop 1 := by
    cases o1 with
    | none => cases h2
    | some l =>
      unfold zkrp at h2
      dsimp only at h2
      rw [if_pos rfl] at h2
      split at h2
      · rename_i hl; exact ⟨l, rfl, hl⟩
      · cases h2
  subst hl0
  have el : l0 = zkat l0 0 :: st.drop 1 := by
    have : 0 < l0.length := by omega
    rw [← hl2]
    cases l0 with
    | nil => cases this
    | cons x l => rfl
  have hZ : zract N bits bound (zrbl N bits bound) j e (.old (zenc L) :: w) p = zmpl (zrbl N bits bound (j + 1)) bound L [] (w, p) := by
    unfold zract; rw [if_neg (by omega), if_neg (by omega), if_neg (by omega), if_neg (by omega), if_neg (by omega), if_neg (by omega), if_pos hc]
    show zmpl _ _ (zels (zenc L)) [] (w, p) = _
    rw [zels_enc]
  rw [hZ] at hR
  have hwl : w.length + 1 = st.length := by rw [hln]; rfl
  have hpb := hs.2.2
  have nv : ∀ {h1 : zH} {aa : Nat}, zVal h1 (znm (.old (zenc L))) (.inl aa) → zVal h1 (.old (zenc (L.map znm))) (.inl aa) := fun {h1 aa} t => by
    have t : zVal h1 (.old (znm (zenc L))) (.inl aa) := t
    rw [znm_enc] at t; exact t
  refine zm_105 (fun nn l0 l1 l2 l3 l4 h0 => ∃ k acc is w1 p1 h1 S1 aa A, nn = L.length - k ∧ l0 = some m ∧ l1 = some l ∧ l2 = some aa ∧ l3 = some A ∧ l4 = nI k ∧ k ≤ L.length ∧ h0 = zrh h1 sk S1 ∧ p ≤ p1 ∧ zCe [m] h h1 (12 * (p1 - p) + 1) (zph p1 - zph p + L.length) ∧ zMa h1 m sk bits bound (w1.map znm) S1 p1 ∧ zSs bound (st.drop 1) w1 p1 ∧ zVal h1 (.old (zenc (L.map znm))) (.inl aa) ∧ h.1.length + zK0 ≤ A ∧ zown h1 A = some (.inl (8, zpad is L.length)) ∧ is.length = k ∧ zVs h1 (acc.map znm) is ∧ zmpl (zrbl N bits bound (j + 1)) bound L [] (w, p) = zmpl (zrbl N bits bound (j + 1)) bound (L.drop k) acc (w1, p1)) ?_ ?_
  · rintro nn l0' l1 l2 l3 l4 h0 ⟨k, acc, is, w1, p1, h1, S1, aa, A, rfl, rfl, rfl, rfl, rfl, rfl, hk, rfl, hp1, c1, m1, s1, v1, hA0, hA, hik, hvs, hz⟩
    have hpb1 := s1.2.2
    have mp1 := zph_mono hp1
    have mpb := zph_mono hpb1
    have wl := zCfo_len s1.1
    have wl : w1.length + 1 = st.length := by rw [← wl, List.length_drop]; omega
    refine ⟨A, 8, _, rfl, zarr_own (zrh_own8 (S := S1) m1.1 hA).2, by decide, ⟨fun hlt => ?_, fun hge => ?_⟩⟩
    · rw [zpad_len (by omega)] at hlt
      have hkl : k < L.length := (nI_ltI (by omega) (by omega)).mp hlt
      obtain ⟨u, hu⟩ : ∃ u, L[k]? = some u := ⟨_, List.getElem?_eq_getElem hkl⟩
      have hdr : L.drop k = u :: L.drop (k + 1) := by
        rw [List.drop_eq_getElem_cons hkl]; congr 1; exact (List.getElem?_eq_some_iff.mp hu).2
      rw [hdr, zmpl] at hz
      refine zMa_cv (d := d + 19) m1 (zc102 (d := d + 19) (c := 1) (by omega) m1 ⟨by omega, by omega⟩ (fun hle h2 c2 m2 => zKV_v ?_) (fun hn => ?_))
      · rw [if_pos hle] at hz
        have v2 := zVal_ce m1 c2 v1
        obtain ⟨fs, own2⟩ := zVal_cls _ _ v2 aa rfl
        refine zQv (d := d + 19) m2 own2 (zmk15 (v := znm u) v2 (by rw [List.getElem?_map, hu]; rfl)) (fun b3 h3 e3 m3 v3 => zQpush (d := d + 19) m3 v3 (by rw [List.length_map]; omega) (fun h4 S4 c4 m4 => ?_))
        have c14 : zCe [m] h h4 (12 * (p1 - p) + 1) (zph p1 - zph p + L.length) := zCe_le (zce_t (zce_t (zce_t c1 c2) (zcex e3)) c4) (by omega) (by omega)
        have p12 := zph_lt (show p1 < p1 + 1 by omega)
        have v4 : zVal h4 (.old (zenc (L.map znm))) (.inl aa) := zVal_ce m3 c4 (zVal_ex e3.1 _ _ v2)
        have kAm : A ∉ [m] := fun z => by
          obtain ⟨no, q⟩ := m1.2.1
          rw [← List.mem_singleton.mp z, hA] at q; cases q
        have hA4 : zown h4 A = some (.inl (8, zpad is L.length)) := c4.1 _ _ kAm (e3.1 _ _ (c2.1 _ _ kAm hA))
        have vs4 : zVs h4 (acc.map znm) is := ⟨hvs.1, fun i v b q1 q2 => zVal_ce m3 c4 (zVal_ex e3.1 _ _ (zVal_ce m1 c2 (hvs.2 i v b q1 q2)))⟩
        have uu := u2 u (List.mem_of_getElem? hu)
        have s4 : zSs bound (zkbg 50 st) (u :: w1) (p1 + 1) := by rw [u1]; exact zSs_cons (zSs_up s1 (by omega) hle) uu.1 (by omega)
        refine zQgr m4 (zMa_k hm c14 hl (by decide)) rfl (zMa_cv (d := d + 19) m4 (IH (j + 1) _ held a b r1 (u :: w1) (p1 + 1) lb h4 S4 _ _ _ (by omega) (zStR_ma hm c14 hrow) k1 hb s4 hk1 m4 (zOut_ce hm c14 ho) (zRR_bind (zRR_mv hR c14 (by omega) hle (by omega) (by omega)) (fun e he => by rw [hz, he]) (fun w2 p2 hr2 hp2 h5 S5 c5 m5 => ?_))))
        obtain ⟨st', t1, t2, t3⟩ := zrbl_s hg hb2 hbd N.length (j + 1) (by omega) _ _ _ _ _ _ _ _ _ _ _ k1 hb s4 hk1 hr2
        cases t1
        rw [el] at t2
        obtain ⟨V2, w3, rfl⟩ := zvs1 t2.1 (by rw [List.length_cons]; omega)
        have mp2 := zph_mono hp2
        refine zQpop (d := d + 18) m5 (fun a6 h6 c6 m6 v6 => ?_)
        have hA6 : zown h6 A = some (.inl (8, zpad is L.length)) := c6.1 _ _ kAm (c5.1 _ _ kAm hA4)
        obtain ⟨fs6, own6⟩ := zVal_cls _ _ v6 a6 rfl
        refine ⟨A, 8, _, rfl, (zrh_own8 (S := S5) m6.1 hA6).2, by decide, nI_pos (by omega), by rw [nI_clamp (by omega), zpad_len (by omega)]; exact hkl, Or.inr ⟨a6, 3, fs6, rfl, zrh_own m6.1 own6, by decide⟩, ?_⟩
        intro x21 hx
        have eset : (zpad is L.length).set (nI k).toNatClampNeg (zo (some a6)) = zpad (is ++ [a6]) L.length := by
          rw [nI_clamp (by omega), ← hik]; exact zpad_set (by omega)
        rw [eset, show zput (zrh h6 sk S5) A (.inl (8, zpad (is ++ [a6]) L.length)) = zrh (zput h6 A (.inl (8, zpad (is ++ [a6]) L.length))) sk S5 from (zput_l m6.1 hA6 (zrh_own8 (S := S5) m6.1 hA6).1).1]
        refine ⟨L.length - (k + 1), by omega, k + 1, acc ++ [V2], is ++ [a6], w3, p2, _, S5, aa, A, rfl, rfl, rfl, rfl, rfl, by rw [hx, nI_1], by omega, rfl, by omega, zCe_pa (zCe_le (zce_t (zce_t c14 c5) c6) (by omega) (by omega)) hA6 hA0, zMa_pa m6 hA6 (by omega), zSs_drop 1 t2, zVal_pa hA6 (by omega) (zVal_ce m5 c6 (zVal_ce m4 c5 v4)), hA0, zown_put hA6, by rw [List.length_append, hik]; rfl, ?_, ?_⟩
        · rw [List.map_append]
          refine zVs_app ⟨hvs.1, fun i v b q1 q2 => zVal_pa hA6 (by omega) (zVal_ce m5 c6 (zVal_ce m4 c5 (vs4.2 i v b q1 q2)))⟩ (zVs_one (zVal_pa hA6 (by omega) v6))
        · rw [hz, hr2]
          rfl
      · rw [if_neg hn] at hz
        exact hR.2.1 _ hz (zth h1) S1 (zCe_le (zce_t c1 zth_ce) (by omega) (by omega)) m1.1
    · have hkl : k = L.length := by
        rw [zpad_len (by omega)] at hge
        have : ¬ k < L.length := fun q => hge (nI_lt q (by omega))
        omega
      rw [List.drop_eq_nil_of_le (by omega), zmpl] at hz
      rw [zpad_full (by omega)] at hA
      refine zQs (d := d + 19) m1 (zmk41 (d := d + 18) hA hvs (by omega)) (fun a2 h2 e2 m2 v2 => zQpush (d := d + 19) m2 v2 (by rw [List.length_map]; omega) (fun h3 S3 c3 m3 => ?_))
      refine hR.1 _ p1 hz hp1 h3 S3 (zCe_le (zce_t (zce_t c1 (zcex e2)) c3) (by omega) (by omega)) ?_
      show zMa h3 m sk bits bound (Term.old (znm (zenc acc)) :: w1.map znm) S3 p1
      rw [znm_enc]; exact m3
  · refine zQpop (d := d + 18) hm (fun aa h1 c1 m1 v1 => ?_)
    obtain ⟨fs, z0, z1, z2⟩ := zVal_sz v1 (Or.inl ⟨_, rfl⟩)
    have zs : zsize (znm (.old (zenc L))) = L.length := by
      show (zels (znm (zenc L))).length = _
      rw [znm_enc, zels_enc, List.length_map]
    rw [zs] at z1 z2
    refine zQgi m1 z0 z1 ?_
    unfold zNA
    rw [zmx0 (by omega), nI_clamp (by omega), show (zrh h1 sk S).1.length = h1.1.length from zput_ln, show zadd (zrh h1 sk S) (.inl (8, List.replicate L.length Value.null)) L.length = zrh (zadd h1 (.inl (8, List.replicate L.length Value.null)) L.length) sk S from (zadd_l m1.1).1]
    refine ⟨⟨nI_pos (by omega), by omega⟩, ⟨L.length, 0, [], [], w, p, _, S, aa, _, rfl, rfl, rfl, rfl, rfl, rfl, Nat.zero_le _, rfl, Nat.le_refl _, zCe_le (zce_t c1 (zcex zEx_add)) (by omega) (by omega), zMa_ex m1 zEx_add, zSs_drop 1 hs, zVal_ex zEx_add.1 _ _ (nv v1), by have := c1.2.1; omega, zown_new, rfl, ⟨rfl, fun i v b q => by cases q⟩, ?_⟩⟩
    rw [List.drop_zero]
end MB4
