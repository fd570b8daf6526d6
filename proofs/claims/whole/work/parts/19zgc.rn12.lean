section RN12
variable {xs : List Value} {d : Nat} {h : zH} {N : List zNt} {M0 M M1 : Nat → zE} {F0 F F1 : Nat → Value} {Q Q0 : zO → zH → Prop} {ce X : List (Nat × Nat × Nat)} {lo Y : List (Nat × Nat)} {Ts vs st l0 : List Term} {pd : List Int32} {most p p1 bits bound j fr D t stop held a b g at_ k : Nat} {e : zNt} {A : List Nat} {x1 : zkcs} {R : zro} {a41 a42 a43 : Int32} {U T : Term} {f : Term → Term}
/-- ITER, MAP, LOOP -/
theorem zwrp (hl : 50 ≤ h.1.length) (hw : zWC N fr bits bound M0 F0) (hb2 : bits ≤ 120) (hbd : bound ≤ 150) (IH : ∀ i, zWb xs d h N bits bound M0 F0 Q A g i) (hD : D + (g + 1) ≤ 12) (he : N[j]? = some e) (hI : zkI e = true) (hc : eC e = 49 ∨ eC e = 50 ∨ eC e = 59) (hrin : ∀ r, r ∈ zchn N (eM e) (j + 1) → zRin N A g r) (hok : zkok held st) (hb : b ≤ 12) (hs1 : zSs bound st vs p1) (hrd : zkrd (eC e) st held = true) (hE : zkE N (zkbl N) j e st held (a + 1) b = .inr x1) (ws : zWS N M0 M1 F0 F1 Ts vs most pd p1 ce lo) (hrs : zRs N A Ts ce lo pd p) (fq : zFq D M M1) (h38 : zAt M1 38 D = some (nI j)) (h39 : zAt M1 39 D = some (nI stop)) (hp : p + 1 ≤ p1) (ht : t + 1 + (D + 1) ≤ 2 * p1) (kE : zErw xs d h N M0 F0 Q (zract N bits bound (zrbl N bits bound) j e vs p1)) (kC : zCow xs (d + 9) h N M0 F0 Q A (zract N bits bound (zrbl N bits bound) j e vs p1) D (znx N j) stop M Ts ce lo pd p) : zCV xs (d + 9) 206 12 (some 10) [Value.int (nI D)] (zov h M1) (zKI (fun x14 h15 => zw_201_185 xs (d + 9) Q (zC22 xs (d + 9) Q) (some 10) (nI D) (nI (znx N j)) (nI stop) (nI t) x14 (nI j) (nI (eC e)) h15) (fun e h => Q (.inr e) h)) := by
  have hg := hw.2.2.1
  obtain ⟨i1, i2, i3, i4⟩ := zkI_ok hI
  have hjl := (List.getElem?_eq_some_iff.mp he).1
  have hM1 : eM e = 1 := by rw [i4]; rcases hc with z | z | z <;> rw [z] <;> rfl
  have hk2 := zGd_k hg he
  rw [hM1] at hk2 hrin
  have f1 := zful_lt hk2.1
  have hr1 := hrin (j + 1) List.mem_cons_self
  obtain ⟨xo, xa, xb⟩ := x1
  obtain ⟨o1, a1, b1, hk1, h2⟩ := zSi3 hc hE
  obtain ⟨k1, k2⟩ := zkbg_ok hok hrd hc
  have hok1 := hok.1
  have hln := zCfo_len hs1.1
  have hpb := hs1.2.2
  obtain ⟨v, w, rfl⟩ := zvs1 hs1.1 k2
  have hv : zVt (zkat st 0) v := zCfo_at 0 hs1.1 k2
  have htg := zkat_g (zkok_g hok) 0 k2
  have hm0 : zmr v ≤ 40 + p1 := zmr_at hs1.2.1 0
  have hwl : w.length + 1 = st.length := by rw [hln]; rfl
  obtain ⟨a42, q42⟩ := zFw_at ws (q := 42) (by decide) (show D < 12 by omega)
  have hbk : zkbk (eC e) = true := by rcases hc with c | c | c <;> rw [c] <;> rfl
  have hQ0 : zQx xs d h N M0 F0 Q j D stop t (zKI (fun x14 h15 => zw_201_185 xs (d + 9) Q (zC22 xs (d + 9) Q) (some 10) (nI D) (nI (znx N j)) (nI stop) (nI t) x14 (nI j) (nI (eC e)) h15) (fun e h => Q (.inr e) h)) := fun row M' F' Ts' vs' most' pd' p' ce' lo' _ _ _ q => zKI_v (zw185b hbk (by omega) q)
  obtain ⟨r1, r2, r3⟩ := hrs
  have hgw : zGw N A Ts ce lo pd p Ts ce lo pd p1 := zGw_p (by omega)
  -- the rules of the row are the same at p1
  have kC1 : zCow xs (d + 9) h N M0 F0 Q A (zract N bits bound (zrbl N bits bound) j e (v :: w) p1) D (znx N j) stop M Ts (ce ++ []) (lo ++ []) pd p := by rw [List.append_nil, List.append_nil]; exact kC
  refine zM_cv hl ws.1.1 (zc206r (d := d + 5) hl hw ws (by omega) he hc (by omega) h38 h39 q42 (fun c ca M2 F2 hca ws2 fq2 fr2 => ?_) (fun c ca M2 F2 hca ws2 fq2 fr2 => ?_) (fun c ca M2 F2 ws2 fq2 fr2 => ?_))
  · -- ITER
    rw [c] at hk1 h2 k1 hrd
    have hx : o1 = some (st.drop 1) := by
      cases o1 with
      | none => cases h2
      | some l =>
        unfold zkrp at h2
        dsimp only at h2
        rw [if_neg (by decide), if_neg (show ¬ (49 : Nat) = 59 by decide)] at h2
        split at h2
        · rename_i hl; rw [hl]
        · cases h2
    have hZ : zract N bits bound (zrbl N bits bound) j e (v :: w) p1 = zit (zrbl N bits bound (j + 1)) bound (zitm v) (w, p1) := by
      unfold zract; rw [if_neg (by omega), if_neg (by omega), if_neg (by omega), if_neg (by omega), if_neg (by omega), if_pos c]; rfl
    have hit : ∃ U k L f, zkbg 49 st = U :: st.drop 1 ∧ zitm v = L.map f ∧ zRk k L ∧ zRc ce lo (zenc L) (.inr (ca, k)) ∧ (∀ v ∈ L, (zVt U (f v) ∧ zmr (f v) ≤ 40 + p1) ∧ ∀ ce lo x, zRc ce lo v (.inl x) → zRc ce lo (f v) (.inl x)) := by
      have hrd : (zkhs st 0 8 || zkhs st 0 9) = true := hrd
      rcases Bool.or_eq_true _ _ ▸ hrd with q | q
      · have hr := zkhs_c q
        obtain ⟨L, z, hL⟩ := zVt_list htg.1 hr.2 hv
        subst z
        refine ⟨zt1 (zkat st 0), 10, L, id, ?_, ?_, ⟨Or.inl rfl, fun _ v hv => zgo_t (zTok_1 htg.1) (hL v hv)⟩, hca, ?_⟩
        · unfold zkbg; rw [if_neg (by decide), if_neg (by omega)]
        · show zels (zenc L) = _
          rw [zels_enc, List.map_id]
        · have hm0 : max _ (zmr (zenc L)) ≤ 40 + p1 := hm0
          exact fun v hv => ⟨⟨hL v hv, by have := zmr_els (zenc L) v (by rw [zels_enc]; exact hv); show zmr v ≤ _; omega⟩, fun _ _ _ q => q⟩
      · have hr := zkhs_c q
        obtain ⟨es, z, hL, _⟩ := zVt_map htg.1 hr.2 hv
        subst z
        refine ⟨.add (.div (.arg 5) (zt1 (zkat st 0))) (zt2 (zkat st 0)), 12, es.map (fun e : Term × Term => zent2 e.1 e.2), fun e => .add (.div (.arg 23) (zv1 e)) (zv2 e), ?_, ?_, ⟨Or.inr (Or.inl rfl), fun _ v hv => ?_⟩, hca, ?_⟩
        · unfold zkbg; rw [if_neg (by decide), if_pos hr.2]
        · show (zels (zenc _)).map _ = _
          rw [zels_enc]
        · obtain ⟨x, hx, rfl⟩ := List.mem_map.mp hv
          rfl
        · have hm0 : max _ (zmr (zenc (es.map fun e => zent2 e.1 e.2))) ≤ 40 + p1 := hm0
          intro v hv
          obtain ⟨x, hx, rfl⟩ := List.mem_map.mp hv
          have hx2 := zmr_els (zenc (es.map fun e => zent2 e.1 e.2)) (zent2 x.1 x.2) (by rw [zels_enc]; exact List.mem_map.mpr ⟨x, hx, rfl⟩)
          rw [zmr_ent] at hx2
          refine ⟨⟨zVt_i5 (hL x hx).1 (hL x hx).2, ?_⟩, fun _ _ _ q => q⟩
          show max (zmr x.1) (zmr x.2) ≤ 40 + p1
          omega
    obtain ⟨U, k, L, f, u1, u2, u3, u4, u5⟩ := hit
    rw [hZ, u2] at kE kC
    rw [u1] at hk1 k1
    refine zwit (pz := p1) hl hw hb2 hbd IH hD he c hr1 f1.1 k1 hb hk1 hx ⟨r1, r2, r3⟩ kE kC L ca w p1 M2 F2 Ts most pd [] [] t _ _ _ rfl u3 u4 u5 (by omega) (Nat.le_refl _) ?_ ?_ (zFq_t fq fq2) fr2 (by omega) (zSs_drop 1 hs1) hQ0
    · rw [List.append_nil, List.append_nil]; exact ws2
    · rw [List.append_nil, List.append_nil]; exact hgw
  · -- MAP
    rw [c] at hk1 h2 k1 hrd
    have hr := zkhs_c (k := 0) (c := 8) hrd
    obtain ⟨L, z, hL⟩ := zVt_list htg.1 hr.2 hv
    subst z
    have u1 : zkbg 50 st = zt1 (zkat st 0) :: st.drop 1 := by unfold zkbg; rw [if_neg (by decide), if_neg (by omega)]
    have hm1 : max (zels (zenc L)).length (zmr (zenc L)) ≤ 40 + p1 := hm0
    have u2 : ∀ u ∈ L, zVt (zt1 (zkat st 0)) u ∧ zmr u ≤ 40 + p1 := fun u hu => ⟨hL u hu, by
      have := zmr_els (zenc L) u (by rw [zels_enc]; exact hu)
      omega⟩
    obtain ⟨l0, hl0, hl1, hl2⟩ : ∃ l0, o1 = some l0 ∧ l0.length = st.length ∧ l0.drop 1 = st.drop 1 := by
      cases o1 with
      | none => cases h2
      | some l =>
        unfold zkrp at h2
        dsimp only at h2
        rw [if_pos rfl] at h2
        split at h2
        · rename_i hl; exact ⟨l, rfl, hl⟩
        · cases h2
    subst hl0
    have kk := (zkbl_ok hg N.length (j + 1) (by omega) (zkbl_some hg hk1) _ _ _ _ _ _ _ k1 hb hk1).2.2.2 l0 rfl
    have hTk : zTok (zkat l0 0) := (zkat_g (zkok_g kk) 0 (by omega)).1
    have el : l0 = zkat l0 0 :: st.drop 1 := by
      have : 0 < l0.length := by omega
      rw [← hl2]
      cases l0 with
      | nil => cases this
      | cons x l => rfl
    have hZ : zract N bits bound (zrbl N bits bound) j e (.old (zenc L) :: w) p1 = zmpl (zrbl N bits bound (j + 1)) bound L [] (w, p1) := by
      unfold zract; rw [if_neg (by omega), if_neg (by omega), if_neg (by omega), if_neg (by omega), if_neg (by omega), if_neg (by omega), if_pos c]
      show zmpl _ _ (zels (zenc L)) [] (w, p1) = _
      rw [zels_enc]
    rw [hZ] at kE kC
    rw [u1] at hk1 k1
    have hrk : zRk 10 L := ⟨Or.inl rfl, fun _ v hv => zgo_t (zTok_1 htg.1) (hL v hv)⟩
    have ws2' : zWS N M0 M2 F0 F2 Ts w most pd p1 (ce ++ [(10, 0, 0)]) (lo ++ []) := by rw [List.append_nil]; exact ws2
    refine zwmp (pz := p1) (T := zkat l0 0) hl hw hb2 hbd IH hD he c hr1 f1.1 k1 hb hk1 (by rw [← el]) hTk ⟨r1, r2, r3⟩ kE kC L ca [] [] w p1 M2 F2 Ts most pd [(10, 0, 0)] [] t _ rfl hrk hca u2 ?_ (fun v hv => by cases hv) (by omega) (Nat.le_refl _) ws2' ?_ (zFq_t fq fq2) fr2 (by omega) (zSs_drop 1 hs1) hQ0
    · refine ⟨rfl, List.Pairwise.nil, (fun t ht => by cases ht), Nat.le_refl _, ⟨0, 0, zget_new⟩, (fun i v t hi => by cases hi)⟩
    · exact ⟨by rw [List.length_append]; show ce.length + 1 + _ + _ ≤ _; omega, by rw [List.append_nil]; omega, Nat.le_refl _⟩
  · -- LOOP
    rw [c] at hk1 h2 k1 hrd
    have hr0 := zkhs_c (k := 0) (c := 1) hrd
    have hx : o1 = some st := by
      cases o1 with
      | none => cases h2
      | some l =>
        unfold zkrp at h2
        dsimp only at h2
        rw [if_neg (by decide), if_pos rfl] at h2
        split at h2
        · rename_i hl; rw [hl]
        · cases h2
    have hZ : zract N bits bound (zrbl N bits bound) j e (v :: w) p1 = zlpl (zrbl N bits bound (j + 1)) bound 151 (v :: w, p1) := by
      unfold zract; rw [if_neg (by omega), if_neg (by omega), if_neg (by omega), if_neg (by omega), if_neg (by omega), if_neg (by omega), if_neg (by omega), if_pos c]
    rw [hZ] at kE kC
    refine zwlp hl hw hb2 hbd IH hD he c hr1 f1.1 hok k1 k2 hr0.2 hb hk1 hx ⟨r1, r2, r3⟩ kE kC 151 v w p1 M2 F2 Ts most pd [] [] t _ _ _ _ rfl (by omega) (by omega) ?_ ?_ (zFq_t fq fq2) fr2 (by omega) hs1 hQ0
    · rw [List.append_nil, List.append_nil]; exact ws2
    · rw [List.append_nil, List.append_nil]; exact hgw
end RN12
