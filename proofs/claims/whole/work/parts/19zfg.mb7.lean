/-! one step of the class's machine, and rows of them -/
section MB7
variable {xs : List Value} {N : List zNt} {d D m sk bits bound p p1 a b i j l lb f held r r1 r2 c s c0 s0 k cl v0 : Nat} {h h' h1 : zH} {S : List Value} {st vs W L : List Term} {v C : Term} {e : zNt} {Q : zO → zH → Prop} {x : zkcs} {x1 x2 x3 x4 : Value}
theorem zpl143 (hc : 30 ≤ c ∧ c < 52 ∧ c ≠ 33 ∧ c ≠ 41 ∧ c ≠ 44 ∧ c ≠ 47 ∧ c ≠ 49 ∧ c ≠ 50) (hp : zPr bits bound m sk p c held C h S st vs) (hl : zown h l = some (.inr (9, [.int (nI c), x1, .ref a, x3, x4]))) (hC : c = 34 → zVal h (znm C) (.inl a)) (g1 : zG1 bits bound m sk p c C h vs Q) : zG xs (d + 6) (143, 0, lv_args 0 [zo (some m), zo (some l)], []) (zrh h sk S) Q := by
  rcases (by omega : c = 30 ∨ c = 31 ∨ c = 32 ∨ c = 34 ∨ c = 35 ∨ c = 36 ∨ c = 37 ∨ c = 38 ∨ c = 39 ∨ c = 40 ∨ c = 42 ∨ c = 43 ∨ c = 45 ∨ c = 46 ∨ c = 48 ∨ c = 51) with rfl | rfl | rfl | rfl | rfl | rfl | rfl | rfl | rfl | rfl | rfl | rfl | rfl | rfl | rfl | rfl
  · exact zp30 hp hl g1
  · exact zp31 hp hl g1
  · exact zp32 hp hl g1
  · exact zp34 hp hl (hC rfl) g1
  · exact zp35 hp hl g1
  · exact zp36 hp hl g1
  · exact zp37 hp hl g1
  · exact zp38 hp hl g1
  · exact zp39 hp hl g1
  · exact zp40 hp hl g1
  · exact zp42 hp hl g1
  · exact zp43 hp hl g1
  · exact zp45 hp hl g1
  · exact zp46 hp hl g1
  · exact zp48 hp hl g1
  · exact zp51 hp hl g1
theorem zpl137 (hc : 52 ≤ c ∧ c < 58) (hp : zPr bits bound m sk p c held C h S st vs) (g1 : zG1 bits bound m sk p c C h vs Q) (hd : 11 ≤ d) : zG xs d (137, 0, lv_args 0 [zo (some m), .int (nI c)], []) (zrh h sk S) Q := by
  rcases (by omega : c = 52 ∨ c = 53 ∨ c = 54 ∨ c = 55 ∨ c = 56 ∨ c = 57) with rfl | rfl | rfl | rfl | rfl | rfl
  · exact zG_dep (zp52 hp g1) hd
  · exact zG_dep (zp53 hp g1) hd
  · exact zG_dep (zp54 hp g1) hd
  · exact zG_dep (zp55 (d := 0) hp g1) (by omega)
  · exact zG_dep (zp56 (d := 0) hp g1) (by omega)
  · exact zG_dep (zp57 (d := 0) hp g1) (by omega)
theorem zpl124 (hc : 60 ≤ c ∧ c < 68) (hp : zPr bits bound m sk p c held C h S st vs) (g1 : zG1 bits bound m sk p c C h vs Q) (g2 : zG2 bits m sk p c C h vs Q) (hd : 8 ≤ d) : zG xs (d + 4) (124, 0, lv_args 0 [zo (some m), .int (nI c)], []) (zrh h sk S) Q := by
  rcases (by omega : c = 60 ∨ c = 61 ∨ c = 62 ∨ c = 63 ∨ c = 64 ∨ c = 65 ∨ c = 66 ∨ c = 67) with rfl | rfl | rfl | rfl | rfl | rfl | rfl | rfl
  · exact zp60 hd hp g1 g2
  · exact zp61 hd hp g1 g2
  · exact zp62 hd hp g1 g2
  · exact zp63 hd hp g1 g2
  · exact zp64 hd hp g1 g2
  · exact zp65 hd hp g1 g2
  · exact zp66 hd hp g1 g2
  · exact zp67 hd hp g1 g2
theorem zpl110 (hc : 68 ≤ c ∧ c < 76) (hp : zPr bits bound m sk p c held C h S st vs) (g1 : zG1 bits bound m sk p c C h vs Q) (g2 : zG2 bits m sk p c C h vs Q) (hd : 8 ≤ d) : zG xs (d + 4) (110, 0, lv_args 0 [zo (some m), .int (nI c)], []) (zrh h sk S) Q := by
  by_cases c68 : c = 68
  · subst c68; exact zp68 hd hp g1 g2
  · by_cases c75 : c = 75
    · subst c75; exact zp75 hd hp g1 g2
    · exact zp69 (by omega) hp g1
theorem zOf_ce (ho : zOf h h') : zCe [m, 7, 8] h h' 0 0 := ⟨fun k e hk q => by
  rw [ho.1 k (fun z => hk (by rw [z]; simp)) (fun z => hk (by rw [z]; simp))]; exact q, by rw [ho.2.1]; exact Nat.le_refl _, by rw [ho.2.2]; exact Nat.le_refl _, by rw [ho.2.2]; exact Nat.le_refl _⟩
theorem zcst_ok (hok : zkok held st) (hs : zSs bound st vs p) (hrd : zkrd c st held = true) : zcst c vs ≤ 41 + p := by
  unfold zcst
  split
  · rename_i h53
    have := zmr_at hs.2.1 2
    split
    · omega
    · rename_i V hV
      rw [h53] at hrd
      have hr : (zkm (zkat st 2) && zt1 (zkat st 2) == zkat st 0 && zkhs st 1 6 && zt2 (zkat st 2) == zt1 (zkat st 1)) = true := hrd
      simp only [Bool.and_eq_true] at hr
      have h2 := zkm_at hr.1.1.1
      have hT := zkat_g (zkok_g hok) 2 h2
      have hv := zCfo_at 2 hs.1 h2
      have hc : ztc (zkat st 2) = 9 ∨ ztc (zkat st 2) = 10 := by have := hr.1.1.1; unfold zkm at this; simpa using this
      rcases hc with hc | hc
      · obtain ⟨es, z, _⟩ := zVt_map hT.1 hc hv
        rw [z] at this ⊢
        have this : max (zels (zenc (es.map fun e => zent2 e.1 e.2))).length _ ≤ 40 + p := this
        show 1 + (zels (zenc (es.map fun e => zent2 e.1 e.2))).length ≤ 41 + p
        omega
      · obtain ⟨es, z, _⟩ := zVt_big hT.1 hc hv
        exact absurd z (hV _)
  · omega
theorem zb33 (hg : zGd N) (hb2 : bits ≤ 120) (hbd : bound ≤ 150) (IH : zP99 xs N bits bound m sk f) (hc : eC e = 33) (hD : 41 + 4 * f ≤ d) (hl : zown h l = some (.inr (9, [.int (nI (eC e)), x1, x2, .ref r1, x4]))) (hrow : zStR h N (zStp lb h N f) (j + 1) (st.drop 1) (held + 1) a b r1) (hok : zkok held st) (hb : b ≤ 12) (hs : zSs bound st vs p) (hrd : zkrd (eC e) st held = true) (hE : zkE N (zkbl N) j e st held a b = .inr x) (hm : zMa h m sk bits bound (vs.map znm) S p) (ho : zOut h []) (hR : zRR h m sk bits bound p 12 (60 + p) (zract N bits bound (zrbl N bits bound) j e vs p) Q) : zCV xs (d + 1) 103 11 (some m) [] (zrh h sk S) (zKR (fun x17 h18 => zGR (some l) 9 3 h18 fun x21 => zCV xs (d + 1) 99 11 (some m) [zo x21] h18 (zKV (fun h24 => zCV xs (d + 1) 98 11 (some m) [zo x17] h24 (zKV (fun h26 => Q (.inl none) h26) (fun e h => Q (.inr e) h))) (fun e h => Q (.inr e) h))) (fun e h => Q (.inr e) h)) := by
  obtain ⟨d, rfl⟩ : ∃ d', d = d' + 10 := ⟨d - 10, by omega⟩
  rw [hc] at hrd
  have h1 : 1 ≤ st.length := of_decide_eq_true hrd
  have hok1 := hok.1
  have hln := zCfo_len hs.1
  obtain ⟨v, w, rfl⟩ := zvs1 hs.1 h1
  unfold zkE at hE
  rw [if_pos hc] at hE
  cases hk : zkbl N (j + 1) (st.drop 1) (held + 1) a b with
  | inl y => rw [hk] at hE; cases hE
  | inr y =>
    obtain ⟨o1, a1, b1⟩ := y
    have hZ : zract N bits bound (zrbl N bits bound) j e (v :: w) p = (match zrbl N bits bound (j + 1) (w, p) with
      | .inl x => .inl x
      | .inr (l, q) => .inr (v :: l, q)) := by unfold zract; rw [if_pos hc]; rfl
    rw [hZ] at hR
    have dl : (st.drop 1).length = st.length - 1 := List.length_drop
    have k1 : zkok (held + 1) (st.drop 1) := ⟨by omega, fun T hT => hok.2 T (List.mem_of_mem_drop hT)⟩
    have s1 : zSs bound (st.drop 1) w p := zSs_drop 1 hs
    refine zQpop (d := d + 9) hm (fun a1 h1 c1 m1 v1 => zQgr m1 (zMa_k hm c1 hl (by decide)) rfl (zMa_cv (d := d + 10) m1 (IH (j + 1) _ (held + 1) a b r1 w p lb h1 S _ _ _ (by omega) (zStR_ma hm c1 hrow) k1 hb s1 hk m1 (zOut_ce hm c1 ho) (zRR_bind (zRR_mv (c1 := 0) (s1 := 0) hR c1 (Nat.le_refl _) s1.2.2 (by omega) (by omega)) (fun e he => by rw [he]) (fun w2 p2 hr2 hp2 h5 S5 c5 m5 => ?_)))))
    obtain ⟨st', t1, t2, t3⟩ := zrbl_s hg hb2 hbd N.length (j + 1) (by omega) _ _ _ _ _ _ _ _ _ _ _ k1 hb s1 hk hr2
    have hkl := (zkbl_ok hg N.length (j + 1) (by omega) (zkbl_some hg hk) _ _ _ _ _ _ _ k1 hb hk).2.2.2 st' t1
    have wl := zCfo_len t2.1
    have kl := hkl.1
    have mp2 := zph_mono hp2
    refine zQpush (d := d + 10) m5 (zVal_ce m1 c5 v1) (by rw [List.length_map]; omega) (fun h6 S6 c6 m6 => ?_)
    rw [hr2] at hR
    exact hR.1 _ p2 rfl hp2 h6 S6 (zCe_le (zce_t (zce_t c1 c5) c6) (by omega) (by omega)) m6
theorem zc100 (hg : zGd N) (hb2 : 1 ≤ bits ∧ bits ≤ 120) (hbd : bound ≤ 150) (IH : zP99 xs N bits bound m sk f) : zP100 xs N bits bound m sk (f + 1) := by
  intro j st held a b l vs p lb h S x Q D hD hst hok hb hs hk hm ho hR
  obtain ⟨e, v, r1, r2, he, hl, _, _, h34, h33, hei, hrp⟩ := hst
  obtain ⟨d, rfl⟩ : ∃ d, D = d + 31 := ⟨D - 31, by omega⟩
  rw [zkin_s he] at hk
  split at hk
  · rename_i q
    simp only [Bool.and_eq_true] at q
    obtain ⟨hI, hrd⟩ := q
    obtain ⟨i1, i2, i3, i4⟩ := zkI_ok hI
    cases hE : zkE N (zkbl N) j e st held (a + 1) b with
    | inl y => rw [hE] at hk; cases hk
    | inr y =>
      rw [hE] at hk
      dsimp only at hk
      have hzr : zrst N bits bound (zrbl N bits bound) j (vs, p) = if p + zcst (eC e) vs ≤ bound then zract N bits bound (zrbl N bits bound) j e vs (p + zcst (eC e) vs) else .inl (2, .null) := by
        unfold zrst; rw [he]
      rw [hzr] at hR
      have hpb := hs.2.2
      have hC := zcst_ok hok hs hrd
      have hC1 := zcst_1 (eC e) vs
      have pay : ∀ C, C = zcst (eC e) vs → zw_100_33 xs (d + 31) Q (some m) (some l) (nI (eC e)) (nI C) (some m) (zrh h sk S) := by
        intro C hCe
        subst hCe
        generalize zcst (eC e) vs = C at hR hC hC1 ⊢
        refine zMa_cv (d := d + 30) hm (zc102 (d := d + 30) (by omega) hm ⟨by omega, by omega⟩ (fun hle h1 c1 m1 => zKV_v ?_) (fun hn => ?_))
        · rw [if_pos hle] at hR
          have plt := zph_lt (show p < p + C by omega)
          have R1 : zRR h1 m sk bits bound (p + C) 12 (60 + (p + C)) (zract N bits bound (zrbl N bits bound) j e vs (p + C)) Q := zRR_mv hR c1 (by omega) hle (by omega) (by omega)
          have R2 := zRR_kv R1
          have hl1 := zMa_k hm c1 hl (by decide)
          have s1 : zSs bound st vs (p + C) := zSs_up hs (by omega) hle
          have hmr : ∀ v ∈ vs, zmr v + 1 ≤ 40 + (p + C) := fun v hv => by have := hs.2.1 v hv; omega
          have o1 := zOut_ce hm c1 ho
          have row : ∀ {i st held a b r}, zStR h N (zStp lb h N f) i st held a b r → zStR h1 N (zStp lb h1 N f) i st held a b r := fun q => zStR_ma hm c1 q
          have eq : ∀ {q : Nat}, q < 100 → nI (eC e) = nI q → eC e = q := fun hq z => (nI_eq (by omega) (by omega)).mp z
          have eith : (eC e = 58 ∨ eC e = 41 ∨ eC e = 44 ∨ eC e = 47) → zw_100_129 xs (d + 31) Q (some m) (some l) (zrh h1 sk S) := fun hc =>
            zMa_cv (d := d + 30) m1 (zc108 hg IH hc (by omega) hl1 ⟨row (hei hc).1, fun o1 a1 b1 q => row ((hei hc).2 o1 a1 b1 q)⟩ hok hb s1 hrd hE m1 o1 R2)
          have lt : ∀ {q : Nat}, q < 100 → (nI (eC e) < nI q ↔ eC e < q) := fun hq => nI_ltI (by omega) (by omega)
          refine ⟨fun z => zb33 hg hb2.2 hbd IH (eq (q := 33) (by omega) z) (by omega) hl1 (row (h33 (eq (q := 33) (by omega) z))) hok hb s1 hrd hE m1 o1 R1, fun n33 => ⟨fun z => ?_, fun n49 => ⟨fun z => ?_, fun n50 => ⟨fun z => ?_, fun n59 => ⟨fun z => eith (Or.inl (eq (q := 58) (by omega) z)), fun n58 => ⟨fun z => eith (Or.inr (Or.inl (eq (q := 41) (by omega) z))), fun n41 => ⟨fun z => eith (Or.inr (Or.inr (Or.inl (eq (q := 44) (by omega) z)))), fun n44 => ⟨fun z => eith (Or.inr (Or.inr (Or.inr (eq (q := 47) (by omega) z)))), fun n47 => ?_⟩⟩⟩⟩⟩⟩⟩⟩
          · have hc := eq (q := 49) (by omega) z
            exact zMa_cv (d := d + 30) m1 (zc104 hg hb2.2 hbd IH hc (by omega) hl1 (row (hrp (Or.inl hc))) hok hb s1 hrd hE m1 o1 R2)
          · have hc := eq (q := 50) (by omega) z
            exact zMa_cv (d := d + 30) m1 (zc105 hg hb2.2 hbd IH hc (by omega) hl1 (row (hrp (Or.inr (Or.inl hc)))) hok hb s1 hrd hE m1 o1 R2)
          · have hc := eq (q := 59) (by omega) z
            exact zMa_cv (d := d + 30) m1 (zc106 hg hb2.2 hbd IH hc (by omega) hl1 (row (hrp (Or.inr (Or.inr hc)))) hok hb s1 hrd hE m1 o1 R2)
          · have ne : ∀ {q : Nat}, ¬ nI (eC e) = nI q → eC e ≠ q := fun hn z => hn (by rw [z])
            have k33 := ne (q := 33) n33
            have k49 := ne (q := 49) n49
            have k50 := ne (q := 50) n50
            have k59 := ne (q := 59) n59
            have k58 := ne (q := 58) n58
            have k41 := ne (q := 41) n41
            have k44 := ne (q := 44) n44
            have k47 := ne (q := 47) n47
            by_cases k76 : eC e = 76
            · refine ⟨fun z => absurd ((lt (q := 68) (by omega)).mp z) (by omega), fun _ => ?_⟩
              rw [k76] at hrd ⊢
              have hr : (ztsim (zkat st 0) || zkhs st 0 0) = true := hrd
              have h0 : 0 < st.length := by
                by_cases q : 0 < st.length
                · exact q
                · exfalso
                  have z0 : st = [] := List.eq_nil_of_length_eq_zero (by omega)
                  subst z0
                  exact absurd hr (by decide)
              obtain ⟨u, w, rfl⟩ := zvs1 hs.1 h0
              have hv : zVt (zkat st 0) u := zCfo_at 0 hs.1 h0
              have hT := zkat_g (zkok_g hok) 0 h0
              have hd8 : ztdep (zkat st 0) ≤ 8 := by rw [zkat_lt h0]; exact (hok.2 _ (List.getElem_mem _)).2
              have hsim : ztsim (zkat st 0) = true ∨ ztc (zkat st 0) = 0 := by
                rcases Bool.or_eq_true _ _ ▸ hr with z | z
                · exact Or.inl z
                · exact Or.inr (zkhs_c z).2
              obtain ⟨f1, f2, f3, f4⟩ := zfail_w hT hsim hd8 hv
              have m1' : zMa h1 m sk bits bound (u :: w.map znm) S (p + C) := by
                have t : zMa h1 m sk bits bound (znm u :: w.map znm) S (p + C) := m1
                rw [f1] at t; exact t
              have hz : zract N bits bound (zrbl N bits bound) j e (u :: w) (p + C) = .inl (4, u) := by
                unfold zract; rw [if_neg (by omega), if_neg (by omega), if_neg (by omega), if_neg (by omega), if_neg (by omega), if_neg (by omega), if_neg (by omega), if_neg (by omega), if_pos k76]; rfl
              refine zMa_cv (d := d + 30) m1 (zc110_76 (d := d + 27) (by omega) m1' o1 f2 (by rw [List.length_nil]; omega) (by omega) (fun h2 h3 c2 c3 o3 hs3 => ?_))
              rw [List.nil_append] at o3
              have mb := zph_mono hle
              exact R2.2.2.2 u hz (zth h3) S (zCe_le (zCe_trans (U := [m, 7, 8]) (zCe_trans (U := [m, 7, 8]) c2 (zOf_ce c3) (fun k hk => by simp at hk; simp [hk]) (fun k hk => Or.inl hk)) zth_ce (fun k hk => hk) (fun k hk => Or.inl hk)) (by omega) (by omega)) hs3 o3
            · have hnn : eC e ≠ 33 ∧ eC e ≠ 58 ∧ eC e ≠ 41 ∧ eC e ≠ 44 ∧ eC e ≠ 47 ∧ eC e ≠ 49 ∧ eC e ≠ 50 ∧ eC e ≠ 59 ∧ eC e ≠ 76 := by omega
              have hz := zract_p (N := N) (bits := bits) (bound := bound) (j := j) (vs := vs) (p := p + C) hnn (zrbl N bits bound)
              have hln : ∀ l, zop bits (eC e) vs (zpcn N j) = some l → l.length ≤ 12 := fun l hl => by
                rw [hl] at hz
                obtain ⟨o2, a2, b2⟩ := y
                obtain ⟨st', t1, t2, t3⟩ := zSi_p hg hb2.2 hbd hI hnn st vs held (a + 1) b o2 a2 b2 _ _ hok hb s1 ⟨by omega, hmr⟩ hrd hE hz
                subst t1
                unfold zkpo at hk
                dsimp only at hk
                split at hk
                · rename_i q
                  have : st'.length = l.length := zCfo_len t2.1
                  have q1 := q.1
                  omega
                · cases hk
              have hpr : zPr bits bound m sk (p + C) (eC e) held (zpcn N j) h1 S st vs := ⟨hok.2, s1.1, hrd, hb2, hmr, by omega, m1, hln⟩
              have g1 : zG1 bits bound m sk (p + C) (eC e) (zpcn N j) h1 vs (zKV (fun h => Q (.inl none) h) (fun e h => Q (.inr e) h)) := fun l hl h' S' c' m' => R2.1 l (p + C) (by rw [hz, hl]) (Nat.le_refl _) h' S' (zCe_le c' (by omega) (by omega)) m'
              have g2 : zG2 bits m sk (p + C) (eC e) (zpcn N j) h1 vs (zKV (fun h => Q (.inl none) h) (fun e h => Q (.inr e) h)) := fun hn h' S' c' hs' => R2.2.2.1 .null (by rw [hz, hn]) h' S' (zCe_le c' (by omega) (by omega)) hs'
              refine ⟨fun z68 => ⟨fun z60 => ⟨fun z52 => ?_, fun z52 => ?_⟩, fun z60 => ?_⟩, fun z68 => ?_⟩
              · have := (lt (q := 52) (by omega)).mp z52
                refine zMa_cv (d := d + 30) m1 (zpl143 (d := d + 24) ⟨i2, this, k33, k41, k44, k47, k49, k50⟩ hpr hl1 (fun c34 => ?_) g1)
                have v1 := zVal_ce hm c1 (h34 c34)
                have hkty : ∃ T, zTy N (j + 1) 0 = .inr T ∧ zMi N (znx N (j + 1)) false T = none := by
                  unfold zkE at hE
                  rw [if_neg (by omega), if_neg (by omega), if_neg (by omega), if_pos (Or.inl c34)] at hE
                  unfold zkty at hE
                  cases hT : zTy N (j + 1) 0 with
                  | inl y => rw [hT] at hE; cases hE
                  | inr T =>
                    rw [hT] at hE
                    dsimp only at hE
                    rw [if_pos c34] at hE
                    cases hM : zMi N (znx N (j + 1)) false T with
                    | some y => rw [hM] at hE; cases hE
                    | none => exact ⟨T, rfl, hM⟩
                obtain ⟨T, t1, t2⟩ := hkty
                have e1 : zpcn N j = ztv N (znx N (j + 1)) false T := by unfold zpcn; rw [t1]
                have tg : zTg1 T := ⟨(zTy_ok hg.1.1 N.length (j + 1) 0 T (by omega) t1).1, zTy_ts hg.1.1 N.length (j + 1) 0 T (by omega) t1⟩
                obtain ⟨n1, n2⟩ := ztv_raw hg N.length (znx N (j + 1)) T (by omega) tg t2
                rw [e1, n1]
                exact n2 h1 v v1
              · have a1 := (lt (q := 60) (by omega)).mp z60
                have a2 : ¬ eC e < 52 := fun q => z52 ((lt (q := 52) (by omega)).mpr q)
                exact zMa_cv (d := d + 30) m1 (zpl137 (by omega) hpr g1 (by omega))
              · have a1 := (lt (q := 68) (by omega)).mp z68
                have a2 : ¬ eC e < 60 := fun q => z60 ((lt (q := 60) (by omega)).mpr q)
                exact zMa_cv (d := d + 30) m1 (zpl124 (d := d + 26) (by omega) hpr g1 g2 (by omega))
              · have a2 : ¬ eC e < 68 := fun q => z68 ((lt (q := 68) (by omega)).mpr q)
                exact zMa_cv (d := d + 30) m1 (zpl110 (d := d + 26) (by omega) hpr g1 g2 (by omega))
        · rw [if_neg hn] at hR
          exact hR.2.1 _ rfl (zth h) S (zCe_le zth_ce (by omega) (by omega)) hm.1
      apply zm_100
      refine zQgi hm hl rfl ⟨fun z => ?_, fun z => pay 1 ?_⟩
      · have hc : eC e = 53 := (nI_eq (by omega) (by omega)).mp z
        have hrd' := hrd
        rw [hc] at hrd'
        have hr : (zkm (zkat st 2) && zt1 (zkat st 2) == zkat st 0 && zkhs st 1 6 && zt2 (zkat st 2) == zt1 (zkat st 1)) = true := hrd'
        simp only [Bool.and_eq_true] at hr
        have h2 := zkm_at hr.1.1.1
        have hT := zkat_g (zkok_g hok) 2 h2
        have hv := zCfo_at 2 hs.1 h2
        have hcc : ztc (zkat st 2) = 9 ∨ ztc (zkat st 2) = 10 := by have := hr.1.1.1; unfold zkm at this; simpa using this
        refine zQgi hm hl rfl ⟨fun zb => ?_, fun zb => pay 1 ?_⟩
        · have hb0 : zkhs st 2 10 = false := zB_f zb
          have c9 : ztc (zkat st 2) = 9 := by
            rcases hcc with q | q
            · exact q
            · exfalso
              unfold zkhs at hb0
              rw [q] at hb0
              simp at hb0
              omega
          obtain ⟨es, z1, _⟩ := zVt_map hT.1 c9 hv
          have hvl : 2 < vs.length := by rw [← zCfo_len hs.1]; exact h2
          have hi : (vs.map znm)[2]? = some (znm (zkat vs 2)) := by
            rw [List.getElem?_map, List.getElem?_eq_getElem hvl, zkat_lt hvl]; rfl
          refine zMa_cv (d := d + 30) hm (zc101 (i := 2) hm hi (fun a1 v1 => zKR_v ?_))
          rw [z1] at v1
          obtain ⟨fs, y0, y1, y2⟩ := zVal_sz v1 (Or.inr (Or.inl ⟨_, rfl⟩))
          refine zQgi hm y0 y1 ?_
          rw [show (1 : Int32) + nI (zsize (znm (.length (zenc (es.map fun e => zent2 e.1 e.2))))) = nI (1 + zsize (znm (.length (zenc (es.map fun e => zent2 e.1 e.2))))) from nI_add 1 _]
          refine pay _ ?_
          unfold zcst
          rw [if_pos hc, z1]
          show 1 + (zels (znm (zenc _))).length = 1 + (zels (zenc _)).length
          rw [znm_enc, zels_enc, zels_enc, List.length_map]
        · have hb1 : zkhs st 2 10 = true := zB_t zb
          obtain ⟨es, z1, _⟩ := zVt_big hT.1 (zkhs_c hb1).2 hv
          unfold zcst
          rw [if_pos hc, z1]
      · have hc : eC e ≠ 53 := fun q => z (by rw [q]; rfl)
        unfold zcst
        rw [if_neg hc]
  · cases hk
end MB7
