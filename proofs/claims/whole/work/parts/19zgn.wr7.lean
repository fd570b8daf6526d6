section WR7
variable {xs : List Value} {d : Nat} {h : zH} {M M1 M' M2 : Nat → zE} {F F1 F' F2 : Nat → Value} {Q : zO → zH → Prop} {ce cX X : List (Nat × Nat × Nat)} {lo : List (Nat × Nat)} {O O1 O2 B : List Nat} {b n c cn limit t k0 : Nat} {td : List Int32} {J : zP → Int32 → Int32 → Int32 → Int32 → zH → Prop} {sI : Int32} {st : Bool} {its : List zIm} {K U T V : Term}
/-- what comes of a value -/
def zKv (st : Bool) (M : Nat → zE) (F : Nat → Value) (h : zH) (cX : List (Nat × Nat × Nat)) (lo : List (Nat × Nat)) (O : List Nat) (cn : Nat) (td : List Int32) (V : Term) (G : Int32 → zH → Prop) : Prop := ∀ (M2 : Nat → zE) (F2 : Nat → Value) (X2 : List (Nat × Nat × Nat)) (O2 : List Nat) (cn2 : Nat) (pt : List Int32) (pi : List zIm), zY2 M F M2 F2 (cX ++ X2) lo O2 cn2 (pt ++ td) → (∀ its, zIts cX lo st td its → zIts (cX ++ X2) lo st (pt ++ td) (pi ++ its)) → O2 ++ pi.flatMap (zib st) = O ++ zser (zsw st V) → cn2 + (pi.map (zic st)).sum = cn + znd (zsw st V) → X2.length + (pi.map ziw).sum ≤ zbw V → O2.length + 19 * cn ≤ O.length + 19 * cn2 → pt.length + 2 * cn + 2 ≤ 2 * cn2 + 2 * (pi.map ziv).sum → cn2 ≤ cn + 1001 → G (nI (pt ++ td).length) (zov h M2)
theorem zKv_0 {G : Int32 → zH → Prop} {pt : List Int32} {pi : List zIm} (kv : zKv st M F h cX lo O cn td V G) (hs : zY2 M F M2 F2 cX lo (O ++ B) (cn + 1) (pt ++ td)) (hi : ∀ its, zIts cX lo st td its → zIts cX lo st (pt ++ td) (pi ++ its)) (hB : B ++ pi.flatMap (zib st) = zser (zsw st V)) (hC : 1 + (pi.map (zic st)).sum = znd (zsw st V)) (hW : (pi.map ziw).sum ≤ zbw V) (hl : B.length ≤ 19) (hv : pt.length ≤ 2 * (pi.map ziv).sum) : G (nI (pt.length + td.length)) (zov h M2) := by
  have := kv M2 F2 [] (O ++ B) (cn + 1) pt pi (by rw [List.append_nil]; exact hs) (fun its h' => by rw [List.append_nil]; exact hi its h') (by rw [List.append_assoc, hB]) (by omega) (by show 0 + _ ≤ _; omega) (by rw [List.length_append]; omega) (by omega) (by omega)
  rw [List.length_append] at this
  exact this
/-- a turn: a value -/
theorem zturnv (hl : 50 ≤ h.1.length) (hs : zY2 M F M1 F1 cX lo O cn td) (hT : zTy3 T) (hV : zVt T V) (hm : zmr V ≤ 190) (hc : zRc cX lo V (.inl c)) (hn : td.length + (1 + 2 * ztdep T) ≤ 58) (hO : O.length ≤ 2750) (hw : cX.length + zbw V ≤ 1400) (kv : zKv st M F h cX lo O cn td V (fun x h' => J (some 10) (nI limit) (zB st) x (nI (t + 1)) h')) : zw_208_88 xs (d + 3) Q J (some 10) (nI limit) (zB st) (nI td.length) (nI t) 0 (nI c) (zov h M1) := by
  have hn2 : td.length + 1 < 60 := by omega
  have hO2 : O.length + 2 ≤ 2800 := by omega
  -- words without parts
  have word : ∀ {w a b tg cd : Nat}, cX[c]? = some (w, a, b) → (w = 0 ∧ tg = 4 ∧ cd = 20 ∨ w = 1 ∧ tg = 4 ∧ cd = 21 ∨ w = 2 ∧ tg = 4 ∧ cd = 22 ∨ w = 6 ∧ tg = 4 ∧ cd = 24) → V = .arg cd → zw_208_88 xs (d + 3) Q J (some 10) (nI limit) (zB st) (nI td.length) (nI t) 0 (nI c) (zov h M1) := by
    intro w a b tg cd hc' hw' e
    have tg4 : tg = 4 := by rcases hw' with z | z | z | z <;> exact z.2.1
    have w6 : w ≠ 5 ∧ w ≤ 6 := by rcases hw' with z | z | z | z <;> (have := z.1; omega)
    have h8 : w = 0 ∧ tg = 4 ∧ cd = 20 ∨ w = 1 ∧ tg = 4 ∧ cd = 21 ∨ w = 2 ∧ tg = 4 ∧ cd = 22 ∨ w = 6 ∧ tg = 4 ∧ cd = 24 ∨ w = 5 ∧ tg = 6 ∧ cd = 23 ∨ w = 7 ∧ tg = 5 ∧ cd = 25 ∨ w = 8 ∧ tg = 5 ∧ cd = 26 ∨ w = 9 ∧ tg = 5 ∧ cd = 27 := by
      rcases hw' with z | z | z | z
      · exact Or.inl z
      · exact Or.inr (Or.inl z)
      · exact Or.inr (Or.inr (Or.inl z))
      · exact Or.inr (Or.inr (Or.inr (Or.inl z)))
    clear hw'
    have e0 : zprt w a b = [] := by unfold zprt; rw [if_neg w6.1, if_neg (by have := w6.2; omega)]
    have w10 : w < 10 := by have := w6.2; omega
    refine zt88v (d := d + 1) (B := [tg, cd]) hl hs hn2 hc' w10 (fun M2 F2 R s2 g => zc212w hl s2.1 s2.2.2.2.2.1 hc' h8 hO2 g) (fun M2 F2 s2 => ?_)
    rw [e0] at s2 ⊢
    refine zKv_0 (pi := []) kv s2 (fun _ z => z) ?_ ?_ (Nat.zero_le _) (show 2 ≤ 19 by decide) (Nat.le_refl _)
    · rw [e, zsw_arg, tg4]; rfl
    · rw [e, zsw_arg]; rfl
  -- words with one part
  have one : ∀ {w a b cd : Nat} {W : Term} {v : Term}, cX[c]? = some (w, a, b) → (w = 7 ∧ cd = 25 ∨ w = 8 ∧ cd = 26 ∨ w = 9 ∧ cd = 27) → V = .div (.arg cd) v → zTy3 W → ztdep W + 1 ≤ ztdep T → zVt W v → zRc cX lo v (.inl a) → zw_208_88 xs (d + 3) Q J (some 10) (nI limit) (zB st) (nI td.length) (nI t) 0 (nI c) (zov h M1) := by
    intro w a b cd W v hc' hw' e hW hd hv hr
    have w7 : w ≠ 5 ∧ 7 ≤ w ∧ w < 10 := by rcases hw' with z | z | z <;> (have := z.1; omega)
    have h8 : w = 0 ∧ 5 = 4 ∧ cd = 20 ∨ w = 1 ∧ 5 = 4 ∧ cd = 21 ∨ w = 2 ∧ 5 = 4 ∧ cd = 22 ∨ w = 6 ∧ 5 = 4 ∧ cd = 24 ∨ w = 5 ∧ 5 = 6 ∧ cd = 23 ∨ w = 7 ∧ 5 = 5 ∧ cd = 25 ∨ w = 8 ∧ 5 = 5 ∧ cd = 26 ∨ w = 9 ∧ 5 = 5 ∧ cd = 27 := by
      rcases hw' with z | z | z
      · exact Or.inr (Or.inr (Or.inr (Or.inr (Or.inr (Or.inl ⟨z.1, rfl, z.2⟩)))))
      · exact Or.inr (Or.inr (Or.inr (Or.inr (Or.inr (Or.inr (Or.inl ⟨z.1, rfl, z.2⟩))))))
      · exact Or.inr (Or.inr (Or.inr (Or.inr (Or.inr (Or.inr (Or.inr ⟨z.1, rfl, z.2⟩))))))
    clear hw'
    have e0 : zprt w a b = [nI a] := by unfold zprt; rw [if_neg w7.1, if_pos w7.2.1]
    refine zt88v (d := d + 1) (B := [5, cd]) hl hs hn2 hc' w7.2.2 (fun M2 F2 R s2 g => zc212w (tg := 5) hl s2.1 s2.2.2.2.2.1 hc' h8 hO2 g) (fun M2 F2 s2 => ?_)
    rw [e0] at s2 ⊢
    refine zKv_0 (pi := [.inl (W, v)]) kv s2 (fun its hi => ⟨⟨a, rfl, hW, hv, by rw [e] at hm; exact hm, hr⟩, ?_, hi⟩) ?_ ?_ ?_ (show 2 ≤ 19 by decide) (show 1 ≤ 2 * (1 + 0) by decide)
    · have := zIts_len hi
      show its.length + (1 + 2 * ztdep W) ≤ 58; omega
    · rw [e, zsw_div]
      show [5, cd] ++ (zser (zsw st v) ++ []) = 5 :: cd :: zser (zsw st v)
      rw [List.append_nil]; rfl
    · rw [e, zsw_div]; rfl
    · rw [e]; exact Nat.le_refl _
  have h10 := zTok_c hT.1.1
  rcases (by omega : ztc T = 0 ∨ ztc T = 1 ∨ (ztc T = 2 ∨ ztc T = 3) ∨ ztc T = 4 ∨ ztc T = 5 ∨ ztc T = 6 ∨ ztc T = 7 ∨ ztc T = 8 ∨ ztc T = 9 ∨ ztc T = 10) with q | q | q | q | q | q | q | q | q | q
  · have e := zVt_unit hT.1.1 q hV
    subst e
    obtain ⟨a, b, h1⟩ := hc
    exact word (tg := 4) h1 (Or.inl ⟨rfl, rfl, rfl⟩) rfl
  · rcases zVt_bool hT.1.1 q hV with e | e
    · subst e
      obtain ⟨a, b, h1⟩ := hc
      exact word (tg := 4) h1 (Or.inr (Or.inl ⟨rfl, rfl, rfl⟩)) rfl
    · subst e
      obtain ⟨a, b, h1⟩ := hc
      exact word (tg := 4) h1 (Or.inr (Or.inr (Or.inl ⟨rfl, rfl, rfl⟩))) rfl
  · obtain ⟨s, n, e, hn', _⟩ := zVt_num hT.1.1 q hV
    subst e
    obtain ⟨hN, _⟩ := hc
    have hN' := hN
    obtain ⟨j, h1, h2⟩ := hN'
    have hle : (znum (s.toNat == 1) n).length ≤ 18 := znum_le hn'
    refine zt88v (d := d + 1) (B := 0 :: znum (s.toNat == 1) n) hl hs (by omega) h1 (by decide) (fun M2 F2 R s2 g => zc212n hl s2.1 s2.2.2.2.2.1 hN hn' (by omega) g) (fun M2 F2 s2 => ?_)
    refine zKv_0 (pt := []) (pi := []) kv s2 (fun _ z => z) ?_ ?_ (Nat.zero_le _) (by rw [List.length_cons]; omega) (Nat.le_refl _)
    · rw [zsw_num]; exact List.append_nil _
    · rw [zsw_num]; rfl
  · obtain ⟨kk, w, e, _⟩ := zVt_text hT.1.1 q hV
    subst e
    obtain ⟨⟨j, h1, h2⟩, hx⟩ := hc
    have hl2 : (zser (.mul (.arg kk) (.arg w))).length = kk + 2 := by unfold zser; rw [List.length_cons, List.length_cons, List.length_map, List.length_range]
    have hk8 := hx.1
    refine zt88v (d := d + 1) (B := zser (.mul (.arg kk) (.arg w))) hl hs (by omega) h1 (by decide) (fun M2 F2 R s2 g => zc212t hl s2.1 s2.2.2.2.2.1 h1 h2 hk8 hx.2.1 (by omega) g) (fun M2 F2 s2 => ?_)
    refine zKv_0 (pt := []) (pi := []) kv s2 (fun _ z => z) ?_ ?_ (Nat.zero_le _) (by omega) (Nat.le_refl _)
    · rw [zsw_txt]; exact List.append_nil _
    · rw [zsw_txt]; rfl
  · obtain ⟨x, y, e, v1, v2⟩ := zVt_pair hT.1.1 q hV
    subst e
    obtain ⟨j, k2, h1, h2, h3⟩ := hc
    obtain ⟨a1, a2⟩ := zTy3_1 hT (by omega)
    obtain ⟨b1, b2⟩ := zTy3_2 hT (Or.inl q)
    have hm' : max (zmr x) (zmr y) ≤ 190 := hm
    refine zt88v (d := d + 1) (B := [6, 23]) hl hs (by omega) h1 (by decide) (fun M2 F2 R s2 g => zc212w (tg := 6) (cd := 23) hl s2.1 s2.2.2.2.2.1 h1 (Or.inr (Or.inr (Or.inr (Or.inr (Or.inl ⟨rfl, rfl, rfl⟩))))) hO2 g) (fun M2 F2 s2 => ?_)
    refine zKv_0 (pt := [nI j, nI k2]) (pi := [.inl (zt1 T, x), .inl (zt2 T, y)]) kv s2 (fun its hi => ⟨⟨j, rfl, a1, v1, by omega, h2⟩, ?_, ⟨k2, rfl, b1, v2, by omega, h3⟩, ?_, hi⟩) ?_ ?_ (Nat.le_refl _) (show 2 ≤ 19 by decide) (show 2 ≤ 2 * (1 + (1 + 0)) by decide)
    · have := zIts_len hi
      show its.length + 1 + (1 + 2 * ztdep (zt1 T)) ≤ 58; omega
    · have := zIts_len hi
      show its.length + (1 + 2 * ztdep (zt2 T)) ≤ 58; omega
    · rw [zsw_add]
      show [6, 23] ++ (zser (zsw st x) ++ (zser (zsw st y) ++ [])) = 6 :: 23 :: (zser (zsw st x) ++ zser (zsw st y))
      rw [List.append_nil]; rfl
    · rw [zsw_add]; rfl
  · obtain ⟨a1, a2⟩ := zTy3_1 hT (by omega)
    rcases zVt_opt hT.1.1 q hV with e | ⟨v, e, v1⟩
    · subst e
      obtain ⟨a, b, h1⟩ := hc
      exact word (tg := 4) h1 (Or.inr (Or.inr (Or.inr ⟨rfl, rfl, rfl⟩))) rfl
    · subst e
      obtain ⟨j, b, h1, h2⟩ := hc
      exact one h1 (Or.inl ⟨rfl, rfl⟩) rfl a1 a2 v1 h2
  · rcases zVt_or hT.1.1 q hV with ⟨v, e, v1⟩ | ⟨v, e, v1⟩
    · obtain ⟨a1, a2⟩ := zTy3_1 hT (by omega)
      subst e
      obtain ⟨j, b, h1, h2⟩ := hc
      exact one h1 (Or.inr (Or.inl ⟨rfl, rfl⟩)) rfl a1 a2 v1 h2
    · obtain ⟨a1, a2⟩ := zTy3_2 hT (Or.inr (Or.inl q))
      subst e
      obtain ⟨j, b, h1, h2⟩ := hc
      exact one h1 (Or.inr (Or.inr ⟨rfl, rfl⟩)) rfl a1 a2 v1 h2
  · obtain ⟨a1, a2⟩ := zTy3_1 hT (by omega)
    obtain ⟨L, e, hL⟩ := zVt_list hT.1.1 q hV
    subst e
    have hm' : max (zels (zenc L)).length (zmr (zenc L)) ≤ 190 := hm
    rw [zels_enc] at hm'
    have hc : zRc cX lo (zenc L) (.inr (c, 10)) := hc
    have hty : ∀ v ∈ L, zVt (zt1 T) v ∧ zmr v ≤ 190 := fun v hv => ⟨hL v hv, by have := zmr_els (zenc L) v (by rw [zels_enc]; exact hv); omega⟩
    have hrk : zRk 10 L := ⟨Or.inl rfl, fun _ v hv => zgo_t a1.1.1 (hL v hv)⟩
    obtain ⟨w, a, b, hcell, hw1⟩ : ∃ w a b, cX[c]? = some (w, a, b) ∧ (w = 10 ∨ w = 11) := by
      cases L with
      | nil => obtain ⟨a, b, h1⟩ := hc; exact ⟨10, a, b, h1, Or.inl rfl⟩
      | cons v L =>
        obtain ⟨a, b, h1, _⟩ := hc
        rw [hrk.2 (by decide) v List.mem_cons_self] at h1
        exact ⟨11, a, b, h1, Or.inr rfl⟩
    refine zt88r (d := d + 1) hl hs hcell (by omega) hc hrk (by omega) (by omega) (fun M2 F2 s2 => ?_)
    refine zlks10 (d := d + 2) (st := st) (U := zt1 T) hl s2 hc a1 hty (by omega) (by omega) ?_
    intro M3 F3 O3 cn3 pt pi s3 hi eB eC eW eL eV eN
    refine kv M3 F3 [] O3 cn3 pt pi (by rw [List.append_nil]; exact s3) (fun its h' => by rw [List.append_nil]; exact hi its h') ?_ ?_ ?_ ?_ ?_ ?_
    · rw [eB, zsw_old, List.append_assoc]
      show O ++ (2 :: L.length :: _) = O ++ (2 :: zlen2 (zenc (L.map (zsw st))) :: zser (zenc (L.map (zsw st))))
      rw [zlen2_enc, List.length_map, zser_els, List.flatMap_map]
      rfl
    · rw [eC, zsw_old]
      show _ = cn + ((if 40 < zlen2 (zenc (L.map (zsw st))) then 1000 else 1) + znd (zenc (L.map (zsw st))))
      rw [zlen2_enc, List.length_map, znd_enc, List.map_map, Nat.add_assoc]
      rfl
    · show 0 + _ ≤ zbw (zenc L)
      rw [zbw_enc]; omega
    · rw [List.length_append] at eL
      have : ([2, L.length] : List Nat).length = 2 := rfl
      split at eL <;> omega
    · split at eV <;> omega
    · split at eN <;> omega
  · obtain ⟨a1, a2⟩ := zTy3_1 hT (by omega)
    obtain ⟨b1, b2⟩ := zTy3_2 hT (Or.inr (Or.inr (Or.inl q)))
    obtain ⟨es, e, hL, _⟩ := zVt_map hT.1.1 q hV
    subst e
    have hm' : max (zels (zenc (es.map fun e => zent2 e.1 e.2))).length (zmr (zenc (es.map fun e => zent2 e.1 e.2))) ≤ 190 := hm
    rw [zels_enc, List.length_map] at hm'
    have hc : zRc cX lo (zenc (es.map fun e => zent2 e.1 e.2)) (.inr (c, 12)) := hc
    have hty : ∀ e ∈ es, (zVt (zt1 T) e.1 ∧ zmr e.1 ≤ 190) ∧ zVt (zt2 T) e.2 ∧ zmr e.2 ≤ 190 := fun e he => by
      have := zmr_els (zenc (es.map fun e => zent2 e.1 e.2)) (zent2 e.1 e.2) (by rw [zels_enc]; exact List.mem_map.mpr ⟨e, he, rfl⟩)
      rw [zmr_ent] at this
      exact ⟨⟨(hL e he).1, by omega⟩, (hL e he).2, by omega⟩
    have hrk : zRk 12 (es.map fun e => zent2 e.1 e.2) := ⟨Or.inr (Or.inl rfl), fun _ v hv => by obtain ⟨e, _, rfl⟩ := List.mem_map.mp hv; rfl⟩
    obtain ⟨w, a, b, hcell, hw1⟩ : ∃ w a b, cX[c]? = some (w, a, b) ∧ (w = 12 ∨ w = 13) := by
      cases es with
      | nil => obtain ⟨a, b, h1⟩ := hc; exact ⟨12, a, b, h1, Or.inl rfl⟩
      | cons v L => obtain ⟨a, b, h1, _⟩ := hc; exact ⟨13, a, b, h1, Or.inr rfl⟩
    refine zt88r (d := d + 1) hl hs hcell (by omega) hc hrk (by rw [List.length_map]; omega) (by omega) (fun M2 F2 s2 => ?_)
    rw [List.length_map] at s2
    refine zlks12 (d := d + 2) (st := st) (K := zt1 T) (U := zt2 T) hl s2 (Or.inl rfl) hc a1 b1 hty (by omega) (by omega) (by rw [List.length_append]; show O.length + 2 + 2 ≤ _; omega) ?_
    intro M3 F3 O3 cn3 pt pi s3 hi eB eC eW eL eV eN
    refine kv M3 F3 [] O3 cn3 pt pi (by rw [List.append_nil]; exact s3) (fun its h' => by rw [List.append_nil]; exact hi its h') ?_ ?_ ?_ ?_ ?_ ?_
    · rw [eB, zsw_len, List.append_assoc]
      show O ++ (2 :: es.length :: _) = O ++ (2 :: zlen2 (zenc (es.map fun e => zent2 (zsw st e.1) (zsw st e.2))) :: zser (zenc (es.map fun e => zent2 (zsw st e.1) (zsw st e.2))))
      rw [zlen2_enc, List.length_map, zser_els, List.flatMap_map]
      rfl
    · rw [eC, zsw_len]
      show _ = cn + ((if 40 < zlen2 (zenc (es.map fun e => zent2 (zsw st e.1) (zsw st e.2))) then 1000 else 1) + znd (zenc (es.map fun e => zent2 (zsw st e.1) (zsw st e.2))))
      rw [zlen2_enc, List.length_map, znd_enc, List.map_map, Nat.add_assoc]
      rfl
    · show 0 + _ ≤ zbw (zenc _)
      rw [zbw_enc, List.map_map]
      have : (es.map (zbw ∘ fun e => zent2 e.1 e.2)) = es.map fun e => zbw e.1 + zbw e.2 := rfl
      rw [this]; omega
    · rw [List.length_append] at eL
      have : ([2, es.length] : List Nat).length = 2 := rfl
      split at eL <;> omega
    · split at eV <;> omega
    · split at eN <;> omega
  · obtain ⟨a1, a2⟩ := zTy3_1 hT (by omega)
    obtain ⟨b1, b2⟩ := zTy3_2 hT (Or.inr (Or.inr (Or.inr q)))
    obtain ⟨n1, n2⟩ := zTy3_b hT q
    obtain ⟨L, e, hL⟩ := zVt_big hT.1.1 q hV
    subst e
    have hsim := zsim_of hT.1 (Or.inr q)
    have hbt : ∀ x ∈ L, zbt (zt1 T) x := fun x hx => by
      obtain ⟨k, v, q1, q2⟩ := hL x hx
      rcases q2 with ⟨q2, _⟩ | q2
      · exact ⟨k, v, q1, Or.inl q2⟩
      · exact ⟨k, v, q1, Or.inr q2⟩
    have hm' : max (zels (zenc L)).length (zmr (zenc L)) ≤ 190 := hm
    rw [zels_enc] at hm'
    have hw' : cX.length + (1 + (zbm (zels (zenc L))).length) ≤ 1400 := hw
    rw [zels_enc] at hw'
    have ebw : zbw (.sum (zenc L)) = 1 + (zbm L).length := by
      show 1 + (zbm (zels (zenc L))).length = _
      rw [zels_enc]
    have hc : zRc cX lo (zenc L) (.inr (c, 14)) := hc
    have hty : ∀ e ∈ zbm L, (zVt (zt1 T) e.1 ∧ zmr e.1 ≤ 190) ∧ zVt (zt2 T) e.2 ∧ zmr e.2 ≤ 190 := zbm_ent (R := fun e => (zVt (zt1 T) e.1 ∧ zmr e.1 ≤ 190) ∧ zVt (zt2 T) e.2 ∧ zmr e.2 ≤ 190) L (fun x hx hg => by
      have hmx := zmr_els (zenc L) x (by rw [zels_enc]; exact hx)
      obtain ⟨k, v, q1, q2⟩ := hL x hx
      rcases q2 with ⟨rfl, q3⟩ | rfl
      · rw [zmr_ent] at hmx
        exact ⟨⟨q1, by show zmr k ≤ 190; omega⟩, q3, by show zmr v ≤ 190; omega⟩
      · exact absurd rfl hg)
    obtain ⟨w, a, b, hcell, hw1⟩ : ∃ w a b, cX[c]? = some (w, a, b) ∧ (14 ≤ w ∧ w < 100) := by
      cases L with
      | nil => obtain ⟨a, b, h1⟩ := hc; exact ⟨14, a, b, h1, by decide⟩
      | cons v L =>
        obtain ⟨a, b, h1, _⟩ := hc
        have := zgo_le v
        exact ⟨_, a, b, h1, by omega⟩
    have hbl : (zbm L).length ≤ L.length := (zbm_ok a1.1.1 hsim L hbt).2.2
    have hz : (znum false (zbm L).length).length ≤ 18 := znum_le (by omega)
    refine zt88b hl hs hcell hw1 hc a1.1.1 hsim a1.2.2 hbt (by omega) (by omega) (by omega) (fun h0 M2 F2 X lx s2 => ?_) (fun h0 M2 F2 X c' lx hr2 s2 => ?_)
    · cases st with
      | true => exact absurd h0 (by decide)
      | false =>
        refine kv M2 F2 X _ (cn + 1) [] [] s2 (fun its h' => zIts_up h') ?_ ?_ ?_ ?_ ?_ ?_
        · rw [zsw_sum0 a1.1.1 hsim hbt]; exact List.append_nil _
        · rw [zsw_sum0 a1.1.1 hsim hbt]; rfl
        · rw [ebw, lx]; exact Nat.le_refl _
        · rw [List.length_append, List.length_cons]; omega
        · show 0 + 2 * cn + 2 ≤ 2 * (cn + 1) + 2 * 0; omega
        · omega
    · cases st with
      | false => exact absurd rfl h0
      | true =>
        refine zlks12 (d := d + 2) (st := true) (K := zt1 T) (U := zt2 T) hl s2 (Or.inr ⟨rfl, rfl⟩) hr2 a1 b1 hty (by omega) (by omega) (by rw [List.length_append]; show O.length + 2 + 2 ≤ _; omega) ?_
        intro M3 F3 O3 cn3 pt pi s3 hi eB eC eW eL eV eN
        have hz0 : ((zbm L).map fun e => zbw e.1 + zbw e.2).sum = 0 := zsum0 _ (fun e he => by
          rw [zbw_0 _ n1 _ (hty e he).1.1, zbw_0 _ n2 _ (hty e he).2.1])
        refine kv M3 F3 X O3 cn3 pt pi s3 (fun its h' => hi its (zIts_up h')) ?_ ?_ ?_ ?_ ?_ ?_
        · rw [eB, zsw_sum1 a1.1.1 hsim hbt, List.append_assoc]
          show O ++ (2 :: (zbm L).length :: _) = O ++ (2 :: zlen2 (zenc ((zbm L).map fun e => zent2 (zsw true e.1) (zsw true e.2))) :: zser (zenc ((zbm L).map fun e => zent2 (zsw true e.1) (zsw true e.2))))
          rw [zlen2_enc, List.length_map, zser_els, List.flatMap_map]
          rfl
        · rw [eC, zsw_sum1 a1.1.1 hsim hbt]
          show _ = cn + ((if 40 < zlen2 (zenc ((zbm L).map fun e => zent2 (zsw true e.1) (zsw true e.2))) then 1000 else 1) + znd (zenc ((zbm L).map fun e => zent2 (zsw true e.1) (zsw true e.2))))
          rw [zlen2_enc, List.length_map, znd_enc, List.map_map, Nat.add_assoc]
          rfl
        · rw [ebw, lx]; omega
        · rw [List.length_append] at eL
          have : ([2, (zbm L).length] : List Nat).length = 2 := rfl
          split at eL <;> omega
        · split at eV <;> omega
        · split at eN <;> omega
end WR7
