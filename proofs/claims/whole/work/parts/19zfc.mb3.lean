/-! ITER, MAP, LOOP in the class -/
def zkd (V : Term) : Nat := match V with
  | .mul _ _ => 1
  | .arg c => c
  | .div (.arg c) _ => c
  | .add (.div (.arg c) _) _ => c
  | .old _ => 2
  | .length _ => 2
  | .sum _ => 2
  | _ => 0
theorem zVal_kd {h : zH} : ∀ (V : Term) (x : Nat ⊕ List Nat), zVal h V x → ∀ a, x = .inl a → ∃ fs, zown h a = some (.inr (3, .int (nI (zkd V)) :: fs)) ∧ zkd V < 256 := by
  intro V x
  fun_induction zVal h V x with
  | case1 s n a => rintro ⟨b, h1, _⟩ a' e; cases e; exact ⟨_, h1, by show (0 : Nat) < 256; decide⟩
  | case2 k w a => rintro ⟨h1, _⟩ a' e; cases e; exact ⟨_, h1, by show (1 : Nat) < 256; decide⟩
  | case3 c a => rintro ⟨h1, h2⟩ a' e; cases e; exact ⟨_, h1, h2⟩
  | case4 c v a ih => rintro ⟨b, h1, h2, _⟩ a' e; cases e; exact ⟨_, h1, h2⟩
  | case5 c v w a ih1 ih2 => rintro ⟨b, e, h1, h2, _⟩ a' e; cases e; exact ⟨_, h1, h2⟩
  | case6 l a ih => rintro ⟨r, is, h1, _⟩ a' e; cases e; exact ⟨_, h1, by show (2 : Nat) < 256; decide⟩
  | case7 l a ih => rintro ⟨r, is, h1, _⟩ a' e; cases e; exact ⟨_, h1, by show (2 : Nat) < 256; decide⟩
  | case8 l a ih => rintro ⟨r, is, h1, _⟩ a' e; cases e; exact ⟨_, h1, by show (2 : Nat) < 256; decide⟩
  | case9 is => intro _ a' e; cases e
  | case10 v l is ih1 ih2 => intro _ a' e; cases e
  | case11 => exact fun h => h.elim
theorem zkd_nm (V : Term) : zkd (znm V) = zkd V := by
  cases V with
  | div c v => cases c <;> rfl
  | add a b => cases a with
    | div c v => cases c <;> rfl
    | _ => rfl
  | _ => rfl
theorem zkd_t {U v : Term} (ht : zTok U) (hv : zVt U v) : zkd v ≠ 28 := by
  have h10 := zTok_c ht
  rcases (by omega : ztc U = 0 ∨ ztc U = 1 ∨ (ztc U = 2 ∨ ztc U = 3) ∨ ztc U = 4 ∨ ztc U = 5 ∨ ztc U = 6 ∨ ztc U = 7 ∨ ztc U = 8 ∨ ztc U = 9 ∨ ztc U = 10) with c | c | c | c | c | c | c | c | c | c
  · rw [zVt_unit ht c hv]; decide
  · rcases zVt_bool ht c hv with rfl | rfl <;> decide
  · obtain ⟨s, n, rfl, _⟩ := zVt_num ht c hv; exact (by decide : (0 : Nat) ≠ 28)
  · obtain ⟨k, w, rfl, _⟩ := zVt_text ht c hv; exact (by decide : (1 : Nat) ≠ 28)
  · obtain ⟨a, b, rfl, _⟩ := zVt_pair ht c hv; exact (by decide : (23 : Nat) ≠ 28)
  · rcases zVt_opt ht c hv with rfl | ⟨v, rfl, _⟩
    · decide
    · exact (by decide : (25 : Nat) ≠ 28)
  · rcases zVt_or ht c hv with ⟨v, rfl, _⟩ | ⟨v, rfl, _⟩
    · exact (by decide : (26 : Nat) ≠ 28)
    · exact (by decide : (27 : Nat) ≠ 28)
  · obtain ⟨L, rfl, _⟩ := zVt_list ht c hv; exact (by decide : (2 : Nat) ≠ 28)
  · obtain ⟨L, rfl, _⟩ := zVt_map ht c hv; exact (by decide : (2 : Nat) ≠ 28)
  · obtain ⟨L, rfl, _⟩ := zVt_big ht c hv; exact (by decide : (2 : Nat) ≠ 28)
/-- what ITER and MAP go over -/
def zIt (V : Term) : Prop := (∃ L, V = .old (zenc L) ∧ ∀ v ∈ L, zkd v ≠ 28) ∨ ∃ es : List (Term × Term), V = .length (zenc (es.map fun e => zent2 e.1 e.2))
section MB3
variable {xs : List Value} {N : List zNt} {d D m sk bits bound p p1 a b i j l lb f held r r1 r2 c s c0 s0 k cl A n : Nat} {h h' h1 : zH} {S : List Value} {st vs W L : List Term} {v : Term} {e : zNt} {Q : zO → zH → Prop} {x : zkcs} {x1 x2 x4 : Value} {is : List Nat}
theorem zIt_sz {V : Term} (hV : zIt V) : zsize (znm V) = (zitm V).length ∧ ((∃ l, znm V = .old l) ∨ (∃ l, znm V = .length l) ∨ (∃ k w, znm V = .mul (.arg k) (.arg w))) := by
  rcases hV with ⟨L, rfl, _⟩ | ⟨es, rfl⟩
  · refine ⟨?_, Or.inl ⟨_, rfl⟩⟩
    show (zels (znm (zenc L))).length = (zels (zenc L)).length
    rw [znm_enc, zels_enc, zels_enc, List.length_map]
  · refine ⟨?_, Or.inr (Or.inl ⟨_, rfl⟩)⟩
    show (zels (znm (zenc _))).length = ((zels (zenc _)).map _).length
    rw [znm_enc, zels_enc, zels_enc, List.length_map, List.length_map, List.length_map, List.length_map]
theorem zi104 {V v0 : Term} {P : zP → zH → Prop} {E : Nat → zH → Prop} (hm : zMa h m sk bits bound W S p) (hv : zVal h (znm V) (.inl a)) (hV : zIt V) (hk : (zitm V)[k]? = some v0) (g : ∀ b h', zEx h h' 1 7 → zMa h' m sk bits bound W S p → zVal h' (znm v0) (.inl b) → P (some b) (zrh h' sk S)) : zCV xs (d + 3) 15 3 (some a) [.int (nI k)] (zrh h sk S) (zKR (fun x5 h6 => zGI x5 3 0 h6 fun x9 => ((x9 = (28 : Int32) → zCV xs (d + 3) 12 3 x5 [] h6 (zKR (fun x11 h12 => zCV xs (d + 3) 81 3 x5 [] h12 (zKR (fun x13 h14 => zCall xs (d + 3) 43 [Value.int (23 : Int32), zo x11, zo x13] h14 (zKR (fun x15 h16 => P x15 h16) E)) E)) E)) ∧ (¬ x9 = (28 : Int32) → P x5 h6))) E) := by
  obtain ⟨fs, ho⟩ := zVal_cls _ _ hv a rfl
  rcases hV with ⟨L, rfl, hL⟩ | ⟨es, rfl⟩
  · have v1' : zVal h (.old (zenc (L.map znm))) (.inl a) := by
      have t : zVal h (.old (znm (zenc L))) (.inl a) := hv
      rw [znm_enc] at t; exact t
    have hk : L[k]? = some v0 := by
      have t : (zels (zenc L))[k]? = some v0 := hk
      rw [zels_enc] at t; exact t
    refine zQv (d := d + 2) hm ho (zmk15 (v := znm v0) v1' (by rw [List.getElem?_map, hk]; rfl)) (fun b h2 e2 m2 v2 => ?_)
    obtain ⟨fs2, ho2, hlt⟩ := zVal_kd _ _ v2 b rfl
    refine zQgi m2 ho2 rfl ⟨fun z => absurd ((nI_eq (a := zkd (znm v0)) (b := 28) (by omega) (by omega)).mp z) ?_, fun _ => g b h2 (zEx_le e2 (by omega) (by omega)) m2 v2⟩
    rw [zkd_nm]; exact hL v0 (List.mem_of_getElem? hk)
  · have v1' : zVal h (.old (zenc (es.map fun e => zent2 (znm e.1) (znm e.2)))) (.inl a) := by
      have t : zVal h (.length (znm (zenc (es.map fun e => zent2 e.1 e.2)))) (.inl a) := hv
      rw [znm_enc, List.map_map] at t; exact t
    have hk : ((zels (zenc (es.map fun e => zent2 e.1 e.2))).map fun e => Term.add (.div (.arg 23) (zv1 e)) (zv2 e))[k]? = some v0 := hk
    rw [zels_enc, List.map_map, List.getElem?_map] at hk
    obtain ⟨x, hx, e0⟩ := Option.map_eq_some_iff.mp hk
    have e0 : Term.add (.div (.arg 23) x.1) x.2 = v0 := e0
    subst e0
    refine zQv (d := d + 2) hm ho (zmk15 (v := zent2 (znm x.1) (znm x.2)) v1' (by rw [List.getElem?_map, hx]; rfl)) (fun b h2 e2 m2 v2 => ?_)
    obtain ⟨b1, b2, o1, o2, o3, o4⟩ := v2
    have v2 : zVal h2 (.add (.div (.arg 28) (znm x.1)) (znm x.2)) (.inl b) := ⟨b1, b2, o1, o2, o3, o4⟩
    refine zQgi m2 o1 rfl ⟨fun _ => ?_, fun z => absurd rfl z⟩
    refine zQv (d := d + 2) m2 o1 (zmk12p v2) (fun c1 h3 e3 m3 v3 => zQv (d := d + 2) m3 (e3.1 _ _ o1) (zmk81 (zVal_ex e3.1 _ _ v2)) (fun c2 h4 e4 m4 v4 => zQs (d := d + 2) m4 (zmk43_2 (d := d + 1) (k := 23) (by decide) (zVal_ex e4.1 _ _ v3) v4) (fun c3 h5 e5 m5 v5 => g c3 h5 (zEx_le (zEx_trans (zEx_trans (zEx_trans e2 e3) e4) e5) (by omega) (by omega)) m5 v5)))
theorem zc104 (hg : zGd N) (hb2 : bits ≤ 120) (hbd : bound ≤ 150) (IH : zP99 xs N bits bound m sk f) (hc : eC e = 49) (hD : 41 + 4 * f ≤ D) (hl : zown h l = some (.inr (9, [.int (nI (eC e)), x1, x2, .ref r1, x4]))) (hrow : zStR h N (zStp lb h N f) (j + 1) (zkbg (eC e) st) held a b r1) (hok : zkok held st) (hb : b ≤ 12) (hs : zSs bound st vs p) (hrd : zkrd (eC e) st held = true) (hE : zkE N (zkbl N) j e st held a b = .inr x) (hm : zMa h m sk bits bound (vs.map znm) S p) (ho : zOut h []) (hR : zRR h m sk bits bound p 12 (60 + p) (zract N bits bound (zrbl N bits bound) j e vs p) Q) : zG xs D (104, 0, lv_args 0 [zo (some m), zo (some l)], []) (zrh h sk S) Q := by
  obtain ⟨d, rfl⟩ : ∃ d, D = d + 20 := ⟨D - 20, by omega⟩
  obtain ⟨xo, xa, xb⟩ := x
  obtain ⟨o1, a1, b1, hk1, h2⟩ := zSi3 (Or.inl hc) hE
  obtain ⟨k1, k2⟩ := zkbg_ok hok hrd (Or.inl hc)
  rw [hc] at hl hk1 h2 k1 hrd hrow
  have hln := zCfo_len hs.1
  have hok1 := hok.1
  obtain ⟨v, w, rfl⟩ := zvs1 hs.1 k2
  have hv : zVt (zkat st 0) v := zCfo_at 0 hs.1 k2
  have ht := zkat_g (zkok_g hok) 0 k2
  have hm0 : zmr v ≤ 40 + p := zmr_at hs.2.1 0
  have hit : ∃ U, zkbg 49 st = U :: st.drop 1 ∧ (∀ u ∈ zitm v, zVt U u ∧ zmr u ≤ 40 + p) ∧ zIt v := by
    have hrd : (zkhs st 0 8 || zkhs st 0 9) = true := hrd
    rcases Bool.or_eq_true _ _ ▸ hrd with q | q
    · have hr := zkhs_c q
      obtain ⟨L, z, hL⟩ := zVt_list ht.1 hr.2 hv
      refine ⟨zt1 (zkat st 0), ?_, ?_, Or.inl ⟨L, z, fun u hu => zkd_t (zTok_1 ht.1) (hL u hu)⟩⟩
      · unfold zkbg; rw [if_neg (by decide), if_neg (by omega)]
      · rw [z] at hm0 ⊢
        show ∀ v ∈ zels (zenc L), _
        rw [zels_enc]
        have hm0 : max _ (zmr (zenc L)) ≤ 40 + p := hm0
        exact fun v hv => ⟨hL v hv, by have := zmr_els (zenc L) v (by rw [zels_enc]; exact hv); omega⟩
    · have hr := zkhs_c q
      obtain ⟨es, z, hL, _⟩ := zVt_map ht.1 hr.2 hv
      refine ⟨.add (.div (.arg 5) (zt1 (zkat st 0))) (zt2 (zkat st 0)), ?_, ?_, Or.inr ⟨es, z⟩⟩
      · unfold zkbg; rw [if_neg (by decide), if_pos hr.2]
      · rw [z] at hm0 ⊢
        show ∀ v ∈ (zels (zenc _)).map _, _
        rw [zels_enc, List.map_map]
        have hm0 : max _ (zmr (zenc (es.map fun e => zent2 e.1 e.2))) ≤ 40 + p := hm0
        intro v hv
        obtain ⟨x, hx, rfl⟩ := List.mem_map.mp hv
        have hx2 := zmr_els (zenc (es.map fun e => zent2 e.1 e.2)) (zent2 x.1 x.2) (by rw [zels_enc]; exact List.mem_map.mpr ⟨x, hx, rfl⟩)
        rw [zmr_ent] at hx2
        refine ⟨zVt_i5 (hL x hx).1 (hL x hx).2, ?_⟩
        show max (zmr x.1) (zmr x.2) ≤ 40 + p
        omega
  obtain ⟨U, u1, u2, u3⟩ := hit
  obtain ⟨u4, u5⟩ := zIt_sz u3
  have hl0 : o1 = some (st.drop 1) := by
    cases o1 with
    | none => cases h2
    | some l =>
      unfold zkrp at h2
      dsimp only at h2
      rw [if_neg (by decide), if_neg (show ¬ (49 : Nat) = 59 by decide)] at h2
      split at h2
      · rename_i hl; rw [hl]
      · cases h2
  subst hl0
  have hZ : zract N bits bound (zrbl N bits bound) j e (v :: w) p = zit (zrbl N bits bound (j + 1)) bound (zitm v) (w, p) := by
    unfold zract; rw [if_neg (by omega), if_neg (by omega), if_neg (by omega), if_neg (by omega), if_neg (by omega), if_pos hc]; rfl
  rw [hZ] at hR
  have hwl : w.length + 1 = st.length := by rw [hln]; rfl
  refine zm_104 (fun n l0 l1 l2 l3 h0 => ∃ k w1 p1 h1 S1 aa, n = (zitm v).length - k ∧ l0 = some m ∧ l1 = some l ∧ l2 = some aa ∧ l3 = nI k ∧ k ≤ (zitm v).length ∧ h0 = zrh h1 sk S1 ∧ p ≤ p1 ∧ zCe [m] h h1 (12 * (p1 - p)) (zph p1 - zph p) ∧ zMa h1 m sk bits bound (w1.map znm) S1 p1 ∧ zSs bound (st.drop 1) w1 p1 ∧ zVal h1 (znm v) (.inl aa) ∧ zit (zrbl N bits bound (j + 1)) bound (zitm v) (w, p) = zit (zrbl N bits bound (j + 1)) bound ((zitm v).drop k) (w1, p1)) ?_ ?_
  · rintro n l0 l1 l2 l3 h0 ⟨k, w1, p1, h1, S1, aa, rfl, rfl, rfl, rfl, rfl, hk, rfl, hp1, c1, m1, s1, v1, hz⟩
    obtain ⟨fs, z0, z1, z2⟩ := zVal_sz v1 u5
    rw [u4] at z1 z2
    have hpb := s1.2.2
    have mp1 := zph_mono hp1
    refine zQgi m1 z0 z1 ⟨fun hlt => ?_, fun hge => ?_⟩
    · have hkl : k < (zitm v).length := (nI_ltI (by omega) (by omega)).mp hlt
      obtain ⟨u, hu⟩ : ∃ u, (zitm v)[k]? = some u := ⟨_, List.getElem?_eq_getElem hkl⟩
      have hdr : (zitm v).drop k = u :: (zitm v).drop (k + 1) := by
        rw [List.drop_eq_getElem_cons hkl]; congr 1; exact (List.getElem?_eq_some_iff.mp hu).2
      rw [hdr, zit] at hz
      refine zMa_cv (d := d + 19) m1 (zc102 (d := d + 19) (c := 1) (by omega) m1 ⟨by omega, by omega⟩ (fun hle h2 c2 m2 => zKV_v ?_) (fun hn => ?_))
      · rw [if_pos hle] at hz
        refine zi104 (d := d + 17) m2 (zVal_ce m1 c2 v1) u3 hu (fun b3 h3 e3 m3 v3 => ?_)
        have wl := zCfo_len s1.1
        have wl : w1.length + 1 = st.length := by rw [← wl, List.length_drop]; omega
        refine zQpush (d := d + 19) m3 v3 (by rw [List.length_map]; omega) (fun h4 S4 c4 m4 => ?_)
        have c14 : zCe [m] h h4 (12 * (p1 - p) + 1) (zph p1 - zph p + 7) := zCe_le (zce_t (zce_t (zce_t c1 c2) (zcex e3)) c4) (by omega) (by omega)
        have p12 := zph_lt (show p1 < p1 + 1 by omega)
        have v4 : zVal h4 (znm v) (.inl aa) := zVal_ce m3 c4 (zVal_ex e3.1 _ _ (zVal_ce m1 c2 v1))
        have uu := u2 u (List.mem_of_getElem? hu)
        have s4 : zSs bound (zkbg 49 st) (u :: w1) (p1 + 1) := by rw [u1]; exact zSs_cons (zSs_up s1 (by omega) hle) uu.1 (by omega)
        refine zQgr m4 (zMa_k hm c14 hl (by decide)) rfl (zMa_cv (d := d + 19) m4 (IH (j + 1) _ held a b r1 (u :: w1) (p1 + 1) lb h4 S4 _ _ _ (by omega) (zStR_ma hm c14 hrow) k1 hb s4 hk1 m4 (zOut_ce hm c14 ho) (zRR_bind (zRR_mv hR c14 (by omega) hle (by omega) (by omega)) (fun e he => by rw [hz, he]) (fun w2 p2 hr2 hp2 h5 S5 c5 m5 => ?_))))
        intro x9 hx9
        obtain ⟨st', t1, t2, t3⟩ := zrbl_s hg hb2 hbd N.length (j + 1) (by omega) _ _ _ _ _ _ _ _ _ _ _ k1 hb s4 hk1 hr2
        cases t1
        have mp2 := zph_mono hp2
        refine ⟨(zitm v).length - (k + 1), by omega, k + 1, w2, p2, h5, S5, aa, rfl, rfl, rfl, rfl, by rw [hx9, nI_1], by omega, rfl, by omega, zCe_le (zce_t c14 c5) (by omega) (by omega), m5, t2, zVal_ce m4 c5 v4, ?_⟩
        rw [hz, hr2]
      · rw [if_neg hn] at hz
        have mb := zph_mono hpb
        exact hR.2.1 _ hz (zth h1) S1 (zCe_le (zce_t c1 zth_ce) (by omega) (by omega)) m1.1
    · have hkl : ¬ k < (zitm v).length := fun q => hge (nI_lt q (by omega))
      rw [List.drop_eq_nil_of_le (by omega), zit] at hz
      exact hR.1 w1 p1 hz hp1 h1 S1 (zCe_le c1 (by omega) (by omega)) m1
  · refine zQpop (d := d + 18) hm (fun aa h1 c1 m1 v1 => ⟨(zitm v).length, 0, w, p, h1, S, aa, rfl, rfl, rfl, rfl, rfl, Nat.zero_le _, rfl, Nat.le_refl _, zCe_le c1 (by omega) (by omega), m1, zSs_drop 1 hs, v1, ?_⟩)
    rw [List.drop_zero]
theorem zc106 (hg : zGd N) (hb2 : bits ≤ 120) (hbd : bound ≤ 150) (IH : zP99 xs N bits bound m sk f) (hc : eC e = 59) (hD : 41 + 4 * f ≤ D) (hl : zown h l = some (.inr (9, [.int (nI (eC e)), x1, x2, .ref r1, x4]))) (hrow : zStR h N (zStp lb h N f) (j + 1) (zkbg (eC e) st) held a b r1) (hok : zkok held st) (hb : b ≤ 12) (hs : zSs bound st vs p) (hrd : zkrd (eC e) st held = true) (hE : zkE N (zkbl N) j e st held a b = .inr x) (hm : zMa h m sk bits bound (vs.map znm) S p) (ho : zOut h []) (hR : zRR h m sk bits bound p 12 (60 + p) (zract N bits bound (zrbl N bits bound) j e vs p) Q) : zG xs D (106, 0, lv_args 0 [zo (some m), zo (some l)], []) (zrh h sk S) Q := by
  obtain ⟨d, rfl⟩ : ∃ d, D = d + 20 := ⟨D - 20, by omega⟩
  obtain ⟨xo, xa, xb⟩ := x
  obtain ⟨o1, a1, b1, hk1, h2⟩ := zSi3 (Or.inr (Or.inr hc)) hE
  obtain ⟨k1, k2⟩ := zkbg_ok hok hrd (Or.inr (Or.inr hc))
  rw [hc] at hl hk1 h2 k1 hrd hrow
  have hg1 := zkok_g hok
  have hr0 := zkhs_c (k := 0) (c := 1) hrd
  have ht := zkat_g hg1 0 k2
  have hl0 : o1 = some st := by
    cases o1 with
    | none => cases h2
    | some l =>
      unfold zkrp at h2
      dsimp only at h2
      rw [if_neg (by decide), if_pos rfl] at h2
      split at h2
      · rename_i hl; rw [hl]
      · cases h2
  subst hl0
  have bl : ∀ {V : Term} {w1 : List Term} {q : Nat}, zSs bound st (V :: w1) q → V = .arg 21 ∨ V = .arg 22 := fun hs' => zVt_bool ht.1 hr0.2 (zCfo_at 0 hs'.1 k2)
  obtain ⟨v, w, rfl⟩ := zvs1 hs.1 k2
  have hZ : zract N bits bound (zrbl N bits bound) j e (v :: w) p = zlpl (zrbl N bits bound (j + 1)) bound 151 (v :: w, p) := by
    unfold zract; rw [if_neg (by omega), if_neg (by omega), if_neg (by omega), if_neg (by omega), if_neg (by omega), if_neg (by omega), if_neg (by omega), if_pos hc]
  rw [hZ] at hR
  generalize hg0 : zlpl (zrbl N bits bound (j + 1)) bound 151 (v :: w, p) = R0 at hR
  have isT : ∀ {V : Term} {h1 : zH} {S1 : List Value} {w1 : List Term} {p1 aa : Nat} {K : Int32 → zH → Prop} {E : Nat → zH → Prop}, zMa h1 m sk bits bound w1 S1 p1 → zVal h1 (znm V) (.inl aa) → V = .arg 21 ∨ V = .arg 22 → K (zB (V == .arg 22)) (zrh h1 sk S1) → zCV xs (d + 20) 107 3 (some aa) [] (zrh h1 sk S1) (zKI K E) := by
    intro V h1 S1 w1 p1 aa K E m1 v1 hV g
    rcases hV with rfl | rfl
    · exact zQi (d := d + 19) m1 v1.1 (fun R g => zc107 (c := 21) (by decide) v1.1 g) g
    · exact zQi (d := d + 19) m1 v1.1 (fun R g => zc107 (c := 22) (by decide) v1.1 g) g
  refine zm_106 (fun n l0 l1 l2 l3 h0 => ∃ k V w1 p1 h1 S1, n = 151 - k ∧ l0 = some m ∧ l1 = some l ∧ l2 = zB (V == .arg 22) ∧ l3 = nI k ∧ k ≤ 151 ∧ h0 = zrh h1 sk S1 ∧ p ≤ p1 ∧ zCe [m] h h1 (12 * (p1 - p)) (zph p1 - zph p) ∧ zMa h1 m sk bits bound (w1.map znm) S1 p1 ∧ zSs bound st (V :: w1) p1 ∧ R0 = zlpl (zrbl N bits bound (j + 1)) bound (151 - k) (V :: w1, p1)) ?_ ?_
  · rintro n l0 l1 l2 l3 h0 ⟨k, V, w1, p1, h1, S1, rfl, rfl, rfl, rfl, rfl, hk, rfl, hp1, c1, m1, s1, hz⟩
    have hpb := s1.2.2
    have mp1 := zph_mono hp1
    have fin : R0 = .inr (w1, p1) → Q (.inl none) (zrh h1 sk S1) := fun hz => hR.1 w1 p1 hz hp1 h1 S1 (zCe_le c1 (by omega) (by omega)) m1
    refine ⟨fun hgt => ?_, fun hle => ⟨fun hf => ?_, fun htr => ?_⟩⟩
    · have : k = 151 := by
        have := (nI_ltI (a := 150) (b := k) (by omega) (by omega)).mp hgt
        omega
      subst this
      exact fin hz
    · have hk1 : ¬ 150 < k := fun q => hle (nI_lt q (by omega))
      have hV : ¬ V = .arg 22 := fun q => by subst q; exact absurd hf (by decide)
      rw [show 151 - k = (150 - k) + 1 by omega, zlpl] at hz
      rw [if_neg (by exact hV)] at hz
      exact fin hz
    · have hkk : ¬ 150 < k := fun q => hle (nI_lt q (by omega))
      have hV : V = .arg 22 := by
        rcases bl s1 with q | q
        · subst q; exact absurd rfl htr
        · exact q
      rw [show 151 - k = (150 - k) + 1 by omega, zlpl, if_pos (by exact hV)] at hz
      refine zMa_cv (d := d + 19) m1 (zc102 (d := d + 19) (c := 1) (by omega) m1 ⟨by omega, by omega⟩ (fun hle h2 c2 m2 => zKV_v ?_) (fun hn => ?_))
      · rw [if_pos hle] at hz
        have hz : R0 = (match zrbl N bits bound (j + 1) (w1, p1 + 1) with
          | .inl e => .inl e
          | .inr s' => zlpl (zrbl N bits bound (j + 1)) bound (150 - k) s') := hz
        have c12 : zCe [m] h h2 (12 * (p1 - p)) (zph p1 - zph p) := zCe_le (zce_t c1 c2) (by omega) (by omega)
        have p12 := zph_lt (show p1 < p1 + 1 by omega)
        have s4 : zSs bound (zkbg 59 st) w1 (p1 + 1) := zSs_up (zSs_drop 1 s1) (by omega) hle
        refine zQgr m2 (zMa_k hm c12 hl (by decide)) rfl (zMa_cv (d := d + 19) m2 (IH (j + 1) _ held a b r1 w1 (p1 + 1) lb h2 S1 _ _ _ (by omega) (zStR_ma hm c12 hrow) k1 hb s4 hk1 m2 (zOut_ce hm c12 ho) (zRR_bind (zRR_mv hR c12 (by omega) hle (by omega) (by omega)) (fun e he => by rw [hz, he]) (fun w2 p2 hr2 hp2 h5 S5 c5 m5 => ?_))))
        obtain ⟨st', t1, t2, t3⟩ := zrbl_s hg hb2 hbd N.length (j + 1) (by omega) _ _ _ _ _ _ _ _ _ _ _ k1 hb s4 hk1 hr2
        cases t1
        obtain ⟨V2, w3, rfl⟩ := zvs1 t2.1 k2
        have mp2 := zph_mono hp2
        refine zQpop (d := d + 18) m5 (fun a6 h6 c6 m6 v6 => isT m6 v6 (bl t2) (fun x15 hx15 => ?_))
        refine ⟨151 - (k + 1), by omega, k + 1, V2, w3, p2, h6, S5, rfl, rfl, rfl, rfl, by rw [hx15, nI_1], by omega, rfl, by omega, zCe_le (zce_t (zce_t c12 c5) c6) (by omega) (by omega), m6, t2, ?_⟩
        rw [hz, show 151 - (k + 1) = 150 - k by omega]
        rw [hr2]
      · rw [if_neg hn] at hz
        have mb := zph_mono hpb
        exact hR.2.1 _ hz (zth h1) S1 (zCe_le (zce_t c1 zth_ce) (by omega) (by omega)) m1.1
  · refine zQpop (d := d + 18) hm (fun aa h1 c1 m1 v1 => isT m1 v1 (bl hs) ?_)
    exact ⟨151, 0, v, w, p, h1, S, rfl, rfl, rfl, rfl, rfl, Nat.zero_le _, rfl, Nat.le_refl _, zCe_le c1 (by omega) (by omega), m1, hs, hg0.symm⟩
end MB3
