section MB2
variable {xs : List Value} {N : List zNt} {d D m sk bits bound p p1 a b i j l lb f held r r1 r2 c s c0 s0 k cl : Nat} {h h' h1 : zH} {S : List Value} {st vs W L : List Term} {v : Term} {e : zNt} {Q : zO → zH → Prop} {x : zkcs} {x1 x2 : Value}
/-- IF, IFNONE, IFLEFT, IFCONS -/
theorem zc108 (hg : zGd N) (IH : zP99 xs N bits bound m sk f) (hc : eC e = 58 ∨ eC e = 41 ∨ eC e = 44 ∨ eC e = 47) (hD : 41 + 4 * f ≤ D) (hl : zown h l = some (.inr (9, [.int (nI (eC e)), x1, x2, .ref r1, .ref r2]))) (hrow : zStR h N (zStp lb h N f) (j + 1) (zkf1 (eC e) st) held a b r1 ∧ ∀ o1 a1 b1, zkbl N (j + 1) (zkf1 (eC e) st) held a b = .inr (o1, a1, b1) → zStR h N (zStp lb h N f) (znx N (j + 1)) (zkf2 (eC e) st) held a1 b1 r2) (hok : zkok held st) (hb : b ≤ 12) (hs : zSs bound st vs p) (hrd : zkrd (eC e) st held = true) (hE : zkE N (zkbl N) j e st held a b = .inr x) (hm : zMa h m sk bits bound (vs.map znm) S p) (ho : zOut h []) (hR : zRR h m sk bits bound p 12 (60 + p) (zract N bits bound (zrbl N bits bound) j e vs p) Q) : zG xs D (108, 0, lv_args 0 [zo (some m), zo (some l)], []) (zrh h sk S) Q := by
  obtain ⟨d, rfl⟩ : ∃ d, D = d + 20 := ⟨D - 20, by omega⟩
  obtain ⟨k1, k2⟩ := zkf1_ok hok hrd hc
  have hEx : ∃ y1 y2 y3, zkbl N (j + 1) (zkf1 (eC e) st) held a b = .inr (y1, y2, y3) ∧ ∃ z, zkbl N (znx N (j + 1)) (zkf2 (eC e) st) held y2 y3 = .inr z := by
    unfold zkE at hE
    rw [if_neg (by omega), if_pos hc] at hE
    cases hk : zkbl N (j + 1) (zkf1 (eC e) st) held a b with
    | inl x => rw [hk] at hE; cases hE
    | inr y =>
      obtain ⟨o1, a1, b1⟩ := y
      rw [hk] at hE
      dsimp only at hE
      cases hk2 : zkbl N (znx N (j + 1)) (zkf2 (eC e) st) held a1 b1 with
      | inl x => rw [hk2] at hE; cases hE
      | inr y => exact ⟨o1, a1, b1, rfl, _, hk2⟩
  obtain ⟨y1, y2, y3, hk, z, hk2⟩ := hEx
  have hb1 := (zkbl_ok hg N.length (j + 1) (by omega) (zkbl_some hg hk) _ _ _ _ _ _ _ k1 hb hk).1
  have T1 : ∀ (l1 : List Term) (h1 : zH) (S1 : List Value) (c s : Nat), zCe [m] h h1 c s → c ≤ 12 → s ≤ 60 + p → zMa h1 m sk bits bound (l1.map znm) S1 p → zSs bound (zkf1 (eC e) st) l1 p → zract N bits bound (zrbl N bits bound) j e vs p = zrbl N bits bound (j + 1) (l1, p) → zw_108_164 xs (d + 20) Q (some m) (some l) 1 (zrh h1 sk S1) := by
    intro l1 h1 S1 c s c1 hc1 hs1 m1 s1 hz
    rw [hz] at hR
    exact ⟨fun z => absurd z (by decide), fun _ => zQgr m1 (zMa_k hm c1 hl (by decide)) rfl (zMa_cv (d := d + 19) m1 (IH (j + 1) _ held a b r1 l1 p lb h1 S1 _ _ _ (by omega) (zStR_ma hm c1 hrow.1) k1 hb s1 hk m1 (zOut_ce hm c1 ho) (zRR_kv (zRR_mv hR c1 (Nat.le_refl _) s1.2.2 (by omega) (by omega)))))⟩
  have T2 : ∀ (l1 : List Term) (h1 : zH) (S1 : List Value) (c s : Nat), zCe [m] h h1 c s → c ≤ 12 → s ≤ 60 + p → zMa h1 m sk bits bound (l1.map znm) S1 p → zSs bound (zkf2 (eC e) st) l1 p → zract N bits bound (zrbl N bits bound) j e vs p = zrbl N bits bound (znx N (j + 1)) (l1, p) → zw_108_164 xs (d + 20) Q (some m) (some l) 0 (zrh h1 sk S1) := by
    intro l1 h1 S1 c s c1 hc1 hs1 m1 s1 hz
    rw [hz] at hR
    exact ⟨fun _ => zQgr m1 (zMa_k hm c1 hl (by decide)) rfl (zMa_cv (d := d + 19) m1 (IH (znx N (j + 1)) _ held y2 y3 r2 l1 p lb h1 S1 _ _ _ (by omega) (zStR_ma hm c1 (hrow.2 _ _ _ hk)) k2 hb1 s1 hk2 m1 (zOut_ce hm c1 ho) (zRR_kv (zRR_mv hR c1 (Nat.le_refl _) s1.2.2 (by omega) (by omega))))), fun z => absurd rfl z⟩
  have hg1 := zkok_g hok
  apply zm_108
  rcases hc with hc | hc | hc | hc
  · rw [hc] at hl hrd
    have hr := zkhs_c (k := 0) (c := 1) hrd
    obtain ⟨v, w, rfl⟩ := zvs1 hs.1 hr.1
    have hv : zVt (zkat st 0) v := zCfo_at 0 hs.1 hr.1
    refine zQpop (d := d + 18) hm (fun a1 h1 c1 m1 v1 => ?_)
    have hl1 := zMa_k hm c1 hl (by decide)
    refine zQgi m1 hl1 rfl ⟨fun z => absurd z (by decide), fun z => absurd z (by decide), fun _ => ?_, fun z => absurd rfl z.2.2⟩
    have tl : ∀ y : Int32, zw_108_164 xs (d + 20) Q (some m) (some l) y (zrh h1 sk S) → zw_108_101 xs (d + 20) Q (some m) (some l) (some a1) y (zrh h1 sk S) := fun y hy => zQgi m1 hl1 rfl ⟨fun z => absurd z (by decide), fun _ => zQgi m1 hl1 rfl ⟨fun z => absurd z (by decide), fun _ => zQgi m1 hl1 rfl ⟨fun z => absurd z (by decide), fun _ => hy⟩⟩⟩
    rcases zVt_bool (zkat_g hg1 0 hr.1).1 hr.2 hv with rfl | rfl
    · refine zQi (d := d + 19) m1 v1.1 (fun R g => zc107 (c := 21) (by decide) v1.1 g) (tl _ ?_)
      exact T2 w h1 S _ _ c1 (by omega) (by omega) m1 (by rw [hc]; exact zSs_drop 1 hs) (by unfold zract; rw [if_neg (by omega), if_pos hc]; rfl)
    · refine zQi (d := d + 19) m1 v1.1 (fun R g => zc107 (c := 22) (by decide) v1.1 g) (tl _ ?_)
      exact T1 w h1 S _ _ c1 (by omega) (by omega) m1 (by rw [hc]; exact zSs_drop 1 hs) (by unfold zract; rw [if_neg (by omega), if_pos hc]; rfl)
  · rw [hc] at hl hrd
    have hr := zkhs_c (k := 0) (c := 6) hrd
    obtain ⟨v, w, rfl⟩ := zvs1 hs.1 hr.1
    have hv : zVt (zkat st 0) v := zCfo_at 0 hs.1 hr.1
    have hm0 := zmr_at hs.2.1 0
    refine zQpop (d := d + 18) hm (fun a1 h1 c1 m1 v1 => ?_)
    have hl1 := zMa_k hm c1 hl (by decide)
    refine zQgi m1 hl1 rfl ⟨fun _ => ?_, fun z => absurd z (by decide), fun z => absurd z (by decide), fun z => absurd rfl z.1⟩
    rcases zVt_opt (zkat_g hg1 0 hr.1).1 hr.2 hv with rfl | ⟨u, rfl, hu⟩
    · refine zQgi m1 v1.1 rfl ⟨fun _ => ?_, fun z => absurd rfl z⟩
      refine zQgi m1 hl1 rfl ⟨fun z => absurd z (by decide), fun _ => zQgi m1 hl1 rfl ⟨fun z => absurd z (by decide), fun _ => zQgi m1 hl1 rfl ⟨fun _ => ⟨fun z => absurd z (by decide), fun _ => ?_⟩, fun z => absurd rfl z⟩⟩⟩
      exact T1 w h1 S _ _ c1 (by omega) (by omega) m1 (by rw [hc]; exact zSs_drop 1 hs) (by unfold zract; rw [if_neg (by omega), if_neg (by omega), if_pos hc]; rfl)
    · obtain ⟨b1, w1, w2, w3⟩ := v1
      refine zQgi m1 w1 rfl ⟨fun z => absurd z (by decide), fun _ => ?_⟩
      refine zQgi m1 hl1 rfl ⟨fun z => absurd z (by decide), fun _ => zQgi m1 hl1 rfl ⟨fun z => absurd z (by decide), fun _ => zQgi m1 hl1 rfl ⟨fun _ => ⟨fun _ => ?_, fun z => absurd rfl z⟩, fun z => absurd rfl z⟩⟩⟩
      refine zQv (d := d + 19) m1 w1 (zmk12 ⟨b1, w1, w2, w3⟩) (fun b2 h2 e2 m2 v2 => zQpush (d := d + 19) m2 v2 (by have := hm.2.2.2.1; exact this) (fun h3 S3 c3 m3 => ?_))
      exact T2 (u :: w) h3 S3 _ _ (zce_t (zce_t c1 (zcex e2)) c3) (by omega) (by omega) m3 (by rw [hc]; exact zSs_cons (zSs_drop 1 hs) hu hm0) (by unfold zract; rw [if_neg (by omega), if_neg (by omega), if_pos hc]; rfl)
  · rw [hc] at hl hrd
    have hr := zkhs_c (k := 0) (c := 7) hrd
    obtain ⟨v, w, rfl⟩ := zvs1 hs.1 hr.1
    have hv : zVt (zkat st 0) v := zCfo_at 0 hs.1 hr.1
    have hm0 := zmr_at hs.2.1 0
    refine zQpop (d := d + 18) hm (fun a1 h1 c1 m1 v1 => ?_)
    have hl1 := zMa_k hm c1 hl (by decide)
    refine zQgi m1 hl1 rfl ⟨fun z => absurd z (by decide), fun _ => ?_, fun z => absurd z (by decide), fun z => absurd rfl z.2.1⟩
    rcases zVt_or (zkat_g hg1 0 hr.1).1 hr.2 hv with ⟨u, rfl, hu⟩ | ⟨u, rfl, hu⟩
    · obtain ⟨b1, w1, w2, w3⟩ := v1
      refine zQgi m1 w1 rfl ⟨fun _ => ?_, fun z => absurd rfl z⟩
      refine zQgi m1 hl1 rfl ⟨fun z => absurd z (by decide), fun _ => zQgi m1 hl1 rfl ⟨fun _ => ?_, fun z => absurd rfl z⟩⟩
      refine zQv (d := d + 19) m1 w1 (zmk12 ⟨b1, w1, w2, w3⟩) (fun b2 h2 e2 m2 v2 => zQpush (d := d + 19) m2 v2 (by have := hm.2.2.2.1; exact this) (fun h3 S3 c3 m3 => ?_))
      exact T1 (u :: w) h3 S3 _ _ (zce_t (zce_t c1 (zcex e2)) c3) (by omega) (by omega) m3 (by rw [hc]; exact zSs_cons (zSs_drop 1 hs) hu hm0) (by unfold zract; rw [if_neg (by omega), if_neg (by omega), if_neg (by omega), if_pos hc]; rfl)
    · obtain ⟨b1, w1, w2, w3⟩ := v1
      refine zQgi m1 w1 rfl ⟨fun z => absurd z (by decide), fun _ => ?_⟩
      refine zQgi m1 hl1 rfl ⟨fun z => absurd z (by decide), fun _ => zQgi m1 hl1 rfl ⟨fun _ => ?_, fun z => absurd rfl z⟩⟩
      refine zQv (d := d + 19) m1 w1 (zmk12 ⟨b1, w1, w2, w3⟩) (fun b2 h2 e2 m2 v2 => zQpush (d := d + 19) m2 v2 (by have := hm.2.2.2.1; exact this) (fun h3 S3 c3 m3 => ?_))
      exact T2 (u :: w) h3 S3 _ _ (zce_t (zce_t c1 (zcex e2)) c3) (by omega) (by omega) m3 (by rw [hc]; exact zSs_cons (zSs_drop 1 hs) hu hm0) (by unfold zract; rw [if_neg (by omega), if_neg (by omega), if_neg (by omega), if_pos hc]; rfl)
  · rw [hc] at hl hrd
    have hrd2 : (zkhs st 0 8 && decide (st.length + held < 12)) = true := hrd
    simp only [Bool.and_eq_true, decide_eq_true_eq] at hrd2
    have hr := zkhs_c (k := 0) (c := 8) hrd2.1
    have hln := zCfo_len hs.1
    obtain ⟨v, w, rfl⟩ := zvs1 hs.1 hr.1
    have hv : zVt (zkat st 0) v := zCfo_at 0 hs.1 hr.1
    have hm0 := zmr_at hs.2.1 0
    have hT := zsh1 (zkat_g hg1 0 hr.1).1 (Or.inr hr.2)
    rw [hr.2] at hT
    refine zQpop (d := d + 18) hm (fun a1 h1 c1 m1 v1 => ?_)
    have hl1 := zMa_k hm c1 hl (by decide)
    refine zQgi m1 hl1 rfl ⟨fun z => absurd z (by decide), fun z => absurd z (by decide), fun z => absurd z (by decide), fun _ => ?_⟩
    obtain ⟨L, rfl, hL⟩ := zVt_list (zkat_g hg1 0 hr.1).1 hr.2 hv
    have v1' : zVal h1 (.old (zenc (L.map znm))) (.inl a1) := by
      have t : zVal h1 (.old (znm (zenc L))) (.inl a1) := v1
      rw [znm_enc] at t; exact t
    obtain ⟨is, ⟨rr, q1, q2, q3, q4⟩, q5⟩ := zRv_val.mp v1'
    have hil : is.length = L.length := by rw [q5.1, List.length_map]
    cases L with
    | nil =>
      have hi0 : is = [] := List.eq_nil_of_length_eq_zero hil
      subst hi0
      refine zQgi m1 q1 rfl ⟨fun z => absurd z (by decide), fun _ => ?_⟩
      refine zQgi m1 hl1 rfl ⟨fun _ => ⟨fun _ => zQgi m1 hl1 rfl ⟨fun z => absurd z (by decide), fun _ => zQgi m1 hl1 rfl ⟨fun z => absurd z (by decide), fun _ => ?_⟩⟩, fun z => absurd rfl z⟩, fun z => absurd rfl z⟩
      exact T2 w h1 S _ _ c1 (by omega) (by omega) m1 (by rw [hc]; exact zSs_drop 1 hs) (by unfold zract; rw [if_neg (by omega), if_neg (by omega), if_neg (by omega), if_neg (by omega), if_pos hc]; rfl)
    | cons u L =>
      have hm0 : max (zels (.rem u (zenc L))).length (max (zmr u) (zmr (zenc L))) ≤ 40 + p := hm0
      have hm2 : max ((zels (zenc L)).length + 1) (max (zmr u) (zmr (zenc L))) ≤ 40 + p := hm0
      rw [zels_enc] at hm2
      refine zQgi m1 q1 rfl ⟨fun _ => ?_, fun z => absurd (nI_lt (a := 0) (b := is.length) (by rw [hil]; exact Nat.succ_pos _) (by omega)) z⟩
      refine zQgi m1 hl1 rfl ⟨fun _ => ⟨fun z => absurd z (by decide), fun _ => ?_⟩, fun z => absurd rfl z⟩
      have hlen : (w.map znm).length + 1 < 12 := by
        rw [List.length_map]
        rw [List.length_cons] at hln
        omega
      refine zQv (d := d + 19) m1 q1 (zmk109 (d := d + 17) v1') (fun b2 h2 e2 m2 v2 => zQpush (d := d + 19) m2 v2 (by omega) (fun h3 S3 c3 m3 => ?_))
      have v3 : zVal h3 (.old (zenc (znm u :: L.map znm))) (.inl a1) := zVal_ce m2 c3 (zVal_ex e2.1 _ _ v1')
      have q3' : zown h3 a1 = _ := zMa_k m2 c3 (e2.1 _ _ q1) (by decide)
      refine zQv (d := d + 19) m3 q3' (zmk15 (i := 0) v3 rfl) (fun b4 h4 e4 m4 v4 => zQpush (d := d + 19) m4 v4 (by rw [List.length_cons]; omega) (fun h5 S5 c5 m5 => ?_))
      refine T1 (u :: .old (zenc L) :: w) h5 S5 _ _ (zce_t (zce_t (zce_t (zce_t c1 (zcex e2)) c3) (zcex e4)) c5) (by omega) (by rw [List.length_map]; omega) (by
        have e6 : (u :: Term.old (zenc L) :: w).map znm = znm u :: .old (zenc (L.map znm)) :: w.map znm := by
          show znm u :: Term.old (znm (zenc L)) :: w.map znm = _; rw [znm_enc]
        rw [e6]; exact m5) ?_ (by unfold zract; rw [if_neg (by omega), if_neg (by omega), if_neg (by omega), if_neg (by omega), if_pos hc]; rfl)
      rw [hc]
      have e0 := (zCfo_split 0 hs.1 hr.1).1
      rw [List.drop_zero] at e0
      show zSs bound (zt1 (zkat st 0) :: st) _ _
      have hV : zVt (zkat st 0) (.old (zenc L)) := by
        generalize zt1 (zkat st 0) = U at hT hL
        rw [hT]
        exact zVt_i8 (fun v hv' => hL v (List.mem_cons_of_mem _ hv'))
      have h2 : zSs bound (zkat st 0 :: st.drop 1) (.old (zenc L) :: w) p := zSs_cons (zSs_drop 1 hs) hV (by show max _ _ ≤ _; rw [zels_enc]; omega)
      rw [← e0] at h2
      exact zSs_cons h2 (hL u List.mem_cons_self) (by omega)
end MB2
