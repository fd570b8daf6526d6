/-! a node's value with its type: as the class holds it -/
def zNr1 (N : List zNt) (i : Nat) (T : Term) : Prop := znm (ztv N i false T) = ztv N i false T ∧ ∀ (h : zH) (a : Nat), zVal h (zrw N i) (.inl a) → zVal h (ztv N i false T) (.inl a)
section MB6
variable {N : List zNt} {i c : Nat} {T K : Term} {e : zNt}
theorem zbm_srt (hk : zTok K) (hs : ztsim K = true) : ∀ (es : List (Term × Term)), (∀ e ∈ es, zVt K e.1) → zSrt es → zbm (es.map fun e => zent2 e.1 e.2) = es
  | [], _, _ => rfl
  | e :: es, h1, h2 => by
    have ih := zbm_srt hk hs es (fun x hx => h1 x (List.mem_cons_of_mem _ hx)) (List.pairwise_cons.mp h2).2
    rw [List.map_cons, zbm, ih]
    show zupl e.1 (.div (.arg 25) e.2) es = e :: es
    cases es with
    | nil => rw [zupl_nil]; rfl
    | cons y es =>
      have hlt : zcmp e.1 y.1 < 0 := (List.pairwise_cons.mp h2).1 y List.mem_cons_self
      have ha := h1 e List.mem_cons_self
      have hy := h1 y (List.mem_cons_of_mem _ List.mem_cons_self)
      have o := zOr_t K e.1 y.1 y.1 hk hs ha hy hy
      have e1 : zcmp e.1 y.1 = -1 := (zlt_t hk hs ha hy).mp hlt
      have e2 : zcmp y.1 e.1 = 1 := o.2.2.1.mp e1
      rw [zupl_ge (by rw [e2]; decide), if_neg (by rw [e2]; decide)]
      rfl
theorem zrw_0 (hg : zGd N) (he : N[i]? = some e) (hw : zisw e c 0 = true) : zrw N i = .arg c := by
  obtain ⟨w1, w2, w3⟩ := zisw_ok hw
  rw [zrw_eq hg.1.1 he, if_neg (by omega), if_neg (by omega), if_neg (by omega), w3, w2]
  rfl
theorem zrw_1 (hg : zGd N) (he : N[i]? = some e) (hw : zisw e c 1 = true) : zrw N i = .div (.arg c) (zrw N (i + 1)) := by
  obtain ⟨w1, w2, w3⟩ := zisw_ok hw
  rw [zrw_eq hg.1.1 he, if_neg (by omega), if_neg (by omega), if_neg (by omega), zkid_1 hg he hw, w2]
  rfl
theorem zNr_b (hg : zGd N) (ht : zTg1 T) (hc : ztc T = 5 ∨ ztc T = 6 ∨ ztc T = 7) (he : N[i]? = some e) (hf : zfit false T e = true) (hch : ∀ j ∈ zchn N (eM e) (i + 1), zMi N j (zpt false T e (j == i + 1)).1 (zpt false T e (j == i + 1)).2 = none) (IH : ∀ j, i < j → ∀ T, zTg1 T → zMi N j false T = none → zNr1 N j T) : zNr1 N i T := by
  unfold zNr1
  rw [ztv_at hg.1.1 he, if_neg (by omega), if_neg (by omega), if_neg (by omega)]
  have hz := znx_ge (N := N) (i := i + 1)
  have hp : ∀ b, zpt false T e b = (false, if (ztc T = 5 ∧ b = false) ∨ (ztc T = 7 ∧ eC e = 27) then zt2 T else zt1 T) := fun b => zpt_0 T e b (by omega)
  simp only [hp] at hch ⊢
  have one : ∀ c, zisw e c 1 = true → ¬ ztc T = 5 → zwd (eC e) ((zchn N (eM e) (i + 1)).map fun j => ztv N j false (if ztc T = 5 ∧ (j == i + 1) = false ∨ ztc T = 7 ∧ eC e = 27 then zt2 T else zt1 T)) = .div (.arg (eC e)) (ztv N (i + 1) false (if ztc T = 7 ∧ eC e = 27 then zt2 T else zt1 T)) := by
    intro c hw h
    rw [zkid_1 hg he hw, List.map_cons, List.map_nil]
    show Term.div _ _ = _
    congr 2
    by_cases q : ztc T = 7 ∧ eC e = 27
    · rw [if_pos q, if_pos (Or.inr q)]
    · rw [if_neg q, if_neg (by rintro (z | z); exact h z.1; exact q z)]
  have one2 : ∀ (c : Nat) (U : Term), zisw e c 1 = true → zNr1 N (i + 1) U → znm (.div (.arg c) (ztv N (i + 1) false U)) = .div (.arg c) (ztv N (i + 1) false U) ∧ ∀ (h : zH) (a : Nat), zVal h (zrw N i) (.inl a) → zVal h (.div (.arg c) (ztv N (i + 1) false U)) (.inl a) := by
    intro c U hw hU
    refine ⟨?_, fun h a hv => ?_⟩
    · show Term.div (.arg c) (znm _) = _
      rw [hU.1]
    · rw [zrw_1 hg he hw] at hv
      obtain ⟨b, h1, h2, h3⟩ := hv
      exact ⟨b, h1, h2, hU.2 h b h3⟩
  unfold zfit at hf
  rw [if_neg (by decide), if_neg (by omega), if_neg (by omega), if_neg (by omega), if_neg (by omega), if_neg (by omega)] at hf
  by_cases c5 : ztc T = 5
  · rw [if_pos c5] at hf
    obtain ⟨w1, w2, w3⟩ := zisw_ok hf
    obtain ⟨k1, k2, k3, k4, k5⟩ := zkid_w hg he hf
    rw [k1] at hch
    have m1 := hch (i + 1) List.mem_cons_self
    have m2 := hch (znx N (i + 1)) (List.mem_cons_of_mem _ List.mem_cons_self)
    rw [if_neg (by rintro (z | z); simp at z; omega)] at m1
    rw [if_pos (Or.inl ⟨c5, k2⟩)] at m2
    rw [if_neg (by omega), if_neg (by omega), k1, List.map_cons, List.map_cons, if_neg (by rintro (z | z); simp at z; omega), if_pos (Or.inl ⟨c5, k2⟩), w2]
    have v1 := IH (i + 1) (by omega) _ (zTg1_1 ht) m1
    have v2 := IH (znx N (i + 1)) (by omega) _ (zTg1_2 ht) m2
    refine ⟨?_, fun h a hv => ?_⟩
    · show Term.add (.div (.arg 23) (znm _)) (znm _) = _
      rw [v1.1, v2.1]; rfl
    · rw [k3] at hv
      obtain ⟨b, f, h1, h2, h3, h4⟩ := hv
      exact ⟨b, f, h1, h2, v1.2 h b h3, v2.2 h f h4⟩
  · rw [if_neg c5] at hf
    by_cases c6 : ztc T = 6
    · rw [if_pos c6] at hf
      cases hq : zisw e 24 0 with
      | true =>
        obtain ⟨w1, w2, w3⟩ := zisw_ok hq
        rw [if_neg (by omega), if_neg (by omega), w3, w2]
        refine ⟨rfl, fun h a hv => ?_⟩
        rw [zrw_0 hg he hq] at hv
        exact hv
      | false =>
        rw [hq] at hf
        have hw : zisw e 25 1 = true := by simpa using hf
        obtain ⟨w1, w2, w3⟩ := zisw_ok hw
        have m1 := hch (i + 1) (by rw [zkid_1 hg he hw]; exact List.mem_cons_self)
        rw [if_neg (by rintro (z | z) <;> omega)] at m1
        have v1 := IH (i + 1) (by omega) _ (zTg1_1 ht) m1
        have q7 : ¬ (ztc T = 7 ∧ eC e = 27) := by omega
        rw [if_neg (by omega), if_neg (by omega), one 25 hw c5, if_neg q7, w2]
        exact one2 25 _ hw v1
    · have c7 : ztc T = 7 := by omega
      rw [if_neg c6, if_pos c7] at hf
      cases hq : zisw e 26 1 with
      | true =>
        obtain ⟨w1, w2, w3⟩ := zisw_ok hq
        have q7 : ¬ (ztc T = 7 ∧ eC e = 27) := by omega
        have m1 := hch (i + 1) (by rw [zkid_1 hg he hq]; exact List.mem_cons_self)
        rw [if_neg (by rintro (z | z) <;> omega)] at m1
        have v1 := IH (i + 1) (by omega) _ (zTg1_1 ht) m1
        rw [if_neg (by omega), if_neg (by omega), one 26 hq c5, if_neg q7, w2]
        exact one2 26 _ hq v1
      | false =>
        rw [hq] at hf
        have hw : zisw e 27 1 = true := by simpa using hf
        obtain ⟨w1, w2, w3⟩ := zisw_ok hw
        have q7 : ztc T = 7 ∧ eC e = 27 := ⟨c7, w2⟩
        have m1 := hch (i + 1) (by rw [zkid_1 hg he hw]; exact List.mem_cons_self)
        rw [if_pos (Or.inr q7)] at m1
        have v1 := IH (i + 1) (by omega) _ (zTg1_2 ht) m1
        rw [if_neg (by omega), if_neg (by omega), one 27 hw c5, if_pos q7, w2]
        exact one2 27 _ hw v1
theorem zVs_map {h : zH} {f g : Nat → Term} {is : List Nat} {l : List Nat} (H : ∀ j ∈ l, ∀ a, zVal h (f j) (.inl a) → zVal h (g j) (.inl a)) (hv : zVs h (l.map f) is) : zVs h (l.map g) is := by
  refine ⟨by rw [hv.1, List.length_map, List.length_map], fun k v b h1 h2 => ?_⟩
  rw [List.getElem?_map] at h1
  obtain ⟨j, hj, rfl⟩ := Option.map_eq_some_iff.mp h1
  exact H j (List.mem_of_getElem? hj) b (hv.2 k (f j) b (by rw [List.getElem?_map, hj]; rfl) h2)
theorem ztv_raw (hg : zGd N) : ∀ (n i : Nat) (T : Term), N.length ≤ n + i → zTg1 T → zMi N i false T = none → zNr1 N i T
  | 0, i, T, hn, ht, hm => by
    obtain ⟨e, he, _⟩ := zMi_un hg hm
    have := (List.getElem?_eq_some_iff.mp he).1
    omega
  | n + 1, i, T, hn, ht, hm => by
    have hvt := ztv_t hg (n + 1) i T hn ht hm
    obtain ⟨e, he, hf, hch⟩ := zMi_un hg hm
    have IH : ∀ j, i < j → ∀ T, zTg1 T → zMi N j false T = none → zNr1 N j T := fun j hj T ht hm => ztv_raw hg n j T (by omega) ht hm
    have hle := zTok_c ht.1
    by_cases hsim : ztsim T = true
    · exact ⟨znm_s T _ ht.1 hsim hvt, fun h a hva => by rw [ztv_rw hg T i ht.1 hsim hm]; exact hva⟩
    · by_cases c4 : ztc T ≤ 4
      · have hT := zarg_c ht.1 c4
        have c0 : ztc T = 0 := by
          by_cases q : ztc T = 0
          · exact q
          · exfalso
            apply hsim
            rw [hT]
            exact decide_eq_true (by omega)
        have hw : zisw e 20 0 = true := by unfold zfit at hf; rw [if_neg (by decide), if_pos c0] at hf; exact hf
        have hu := zVt_unit ht.1 c0 hvt
        unfold zNr1
        rw [hu, zrw_0 hg he hw]
        exact ⟨rfl, fun h a q => q⟩
      · by_cases c7 : ztc T ≤ 7
        · exact zNr_b hg ht (by omega) he hf hch IH
        · have hS : eS e = 2 := by
            unfold zfit at hf
            rw [if_neg (by decide), if_neg (by omega), if_neg (by omega), if_neg (by omega), if_neg (by omega), if_neg (by omega), if_neg (by omega), if_neg (by omega), if_neg (by omega)] at hf
            exact eq_of_beq hf
          have hrw : zrw N i = .old (zenc ((zchn N (eM e) (i + 1)).map (zrw N))) := by
            rw [zrw_eq hg.1.1 he, if_neg (by omega), if_neg (by omega), if_pos hS]
          by_cases c8 : ztc T = 8
          · have IH8 : ∀ j ∈ zchn N (eM e) (i + 1), zNr1 N j (zt1 T) := fun j hj => by
              have hjl := zchn_ge _ _ _ hj
              have m := hch j hj
              rw [zpt_0 T e _ (by omega)] at m
              dsimp only at m
              rw [if_neg (by omega)] at m
              exact IH j (by omega) _ (zTg1_1 ht) m
            unfold zNr1
            rw [ztv_at hg.1.1 he, if_pos c8, hrw]
            refine ⟨?_, fun h a hv => ?_⟩
            · show Term.old (znm (zenc _)) = _
              rw [znm_enc, List.map_map]
              congr 2
              exact List.map_congr_left (fun j hj => (IH8 j hj).1)
            · obtain ⟨is, q1, q2⟩ := zRv_val.mp hv
              exact zRv_val.mpr ⟨is, q1, zVs_map (fun j hj a => (IH8 j hj).2 h a) q2⟩
          · have h9 : ztc T = 9 ∨ ztc T = 10 := by omega
            have hch' : ∀ j ∈ zchn N (eM e) (i + 1), zMi N j true T = none := fun j hj => by
              have := hch j hj
              rw [zpt_9 T e _ h9] at this
              exact this
            have IHv : ∀ j, i < j → ∀ T, zTg1 T → zMi N j false T = none → zVt T (ztv N j false T) := fun j hj T ht hm => ztv_t hg n j T (by omega) ht hm
            obtain ⟨r1, r2, r3⟩ := zrows_t hg ht h9 he hch' IHv
            have ent : ∀ j ∈ zchn N (eM e) (i + 1), znm (ztv N j true T) = ztv N j true T ∧ ∀ (h : zH) (a : Nat), zVal h (zrw N j) (.inl a) → zVal h (ztv N j true T) (.inl a) := fun j hj => by
              have hjl := zchn_ge _ _ _ hj
              obtain ⟨ej, hej, hwj, n1, n2, n3⟩ := zMi_ue hg (hch' j hj)
              obtain ⟨k1, k2, k3, k4, k5⟩ := zkid_w hg hej hwj
              have hz := znx_ge (N := N) (i := j + 1)
              have v1 := IH (j + 1) (by omega) _ (zTg1_1 ht) n1
              have v2 := IH (znx N (j + 1)) (by omega) _ (zTg1_2 ht) n2
              rw [ztv_e hg.1.1 hej, k3]
              refine ⟨?_, fun h a hv => ?_⟩
              · show Term.add (.div (.arg 28) (znm _)) (znm _) = _
                rw [v1.1, v2.1]; rfl
              · obtain ⟨b, f, h1, h2, h3, h4⟩ := hv
                exact ⟨b, f, h1, h2, v1.2 h b h3, v2.2 h f h4⟩
            have em : ((zchn N (eM e) (i + 1)).map fun j => ztv N j true T).map znm = (zchn N (eM e) (i + 1)).map fun j => ztv N j true T := by
              rw [List.map_map]
              exact List.map_congr_left (fun j hj => (ent j hj).1)
            unfold zNr1
            rw [ztv_at hg.1.1 he, if_neg c8, hrw]
            by_cases c9 : ztc T = 9
            · rw [if_pos c9]
              refine ⟨?_, fun h a hv => ?_⟩
              · show Term.length (znm (zenc _)) = _
                rw [znm_enc, em]
              · obtain ⟨is, q1, q2⟩ := zRv_val.mp hv
                exact zRv_len.mpr ⟨is, q1, zVs_map (fun j hj a => (ent j hj).2 h a) q2⟩
            · rw [if_neg c9, if_pos (by omega)]
              refine ⟨?_, fun h a hv => ?_⟩
              · rw [znm_sum, em, r1, zbm_srt (zTg1_1 ht).1 (zsim_of ht h9) _ (fun e he => (r2 e he).1) r3]
              · obtain ⟨is, q1, q2⟩ := zRv_val.mp hv
                exact zRv_sum.mpr ⟨is, q1, zVs_map (fun j hj a => (ent j hj).2 h a) q2⟩
end MB6
