/-! plain instructions: the class's machine does what the spec says -/
def zG1 (bits bound m sk p c : Nat) (C : Term) (h : zH) (vs : List Term) (Q : zO → zH → Prop) : Prop := ∀ l, zop bits c vs C = some l → zPs h m sk bits bound p (l.map znm) 12 (60 + p) Q
def zG2 (bits m sk p c : Nat) (C : Term) (h : zH) (vs : List Term) (Q : zO → zH → Prop) : Prop := zop bits c vs C = none → zPx h m sk 3 12 (60 + p) Q
section PL
variable {xs : List Value} {d m sk bits bound p a b c l held : Nat} {h h' : zH} {S : List Value} {st vs : List Term} {C : Term} {Q : zO → zH → Prop} {x1 x2 x3 x4 : Value}
theorem zvs1 (hv : zCfo st vs) (h : 0 < st.length) : ∃ v r, vs = v :: r := by
  have := zCfo_len hv
  match vs, this with
  | v :: r, _ => exact ⟨v, r, rfl⟩
  | [], e => rw [e] at h; cases h
theorem zvs2 (hv : zCfo st vs) (h : 1 < st.length) : ∃ v w r, vs = v :: w :: r := by
  have := zCfo_len hv
  match vs, this with
  | v :: w :: r, _ => exact ⟨v, w, r, rfl⟩
  | [v], e => rw [e] at h; exact absurd h (show ¬ 1 < 1 by decide)
  | [], e => rw [e] at h; cases h
theorem zvs3 (hv : zCfo st vs) (h : 2 < st.length) : ∃ v w u r, vs = v :: w :: u :: r := by
  have := zCfo_len hv
  match vs, this with
  | v :: w :: u :: r, _ => exact ⟨v, w, u, r, rfl⟩
  | [v, w], e => rw [e] at h; exact absurd h (show ¬ 2 < 2 by decide)
  | [v], e => rw [e] at h; exact absurd h (show ¬ 2 < 1 by decide)
  | [], e => rw [e] at h; cases h
theorem zMa_len {t : Term} {W : List Term} (hm : zMa h m sk bits bound (.old t :: W) S p) : zMa h m sk bits bound (.length t :: W) S p := ⟨hm.1, hm.2.1, hm.2.2.1, hm.2.2.2.1, fun i v hv => by
  cases i with
  | zero =>
    cases hv
    obtain ⟨a, a1, a2⟩ := hm.2.2.2.2 0 _ rfl
    exact ⟨a, a1, a2⟩
  | succ i => exact hm.2.2.2.2 (i + 1) v hv⟩
/-- what is known ahead of a plain instruction -/
def zPr (bits bound m sk p c held : Nat) (C : Term) (h : zH) (S : List Value) (st vs : List Term) : Prop := (∀ T, T ∈ st → zTg1 T ∧ ztdep T ≤ 8) ∧ zCfo st vs ∧ zkrd c st held = true ∧ (1 ≤ bits ∧ bits ≤ 120) ∧ (∀ v ∈ vs, zmr v + 1 ≤ 40 + p) ∧ p ≤ 150 ∧ zMa h m sk bits bound (vs.map znm) S p ∧ ∀ l, zop bits c vs C = some l → l.length ≤ 12
theorem zPr_g (hp : zPr bits bound m sk p c held C h S st vs) : ∀ T, T ∈ st → zTg1 T := fun T hT => (hp.1 T hT).1
theorem zp30 (hp : zPr bits bound m sk p 30 held C h S st vs) (hl : zown h l = some (.inr (9, [.int (nI 30), x1, x2, x3, x4]))) (g1 : zG1 bits bound m sk p 30 C h vs Q) : zG xs (d + 6) (143, 0, lv_args 0 [zo (some m), zo (some l)], []) (zrh h sk S) Q := by
  obtain ⟨a1, a2, a3, a4, a5, a6, a7, a8⟩ := hp
  obtain ⟨v, r, rfl⟩ := zvs1 a2 (of_decide_eq_true a3)
  exact zc143_30 a7 hl (fun h' S' e1 m1 => g1 _ rfl h' S' (zCe_le e1 (by omega) (by omega)) m1)
theorem zp31 (hp : zPr bits bound m sk p 31 held C h S st vs) (hl : zown h l = some (.inr (9, [.int (nI 31), x1, x2, x3, x4]))) (g1 : zG1 bits bound m sk p 31 C h vs Q) : zG xs (d + 6) (143, 0, lv_args 0 [zo (some m), zo (some l)], []) (zrh h sk S) Q := by
  obtain ⟨a1, a2, a3, a4, a5, a6, a7, a8⟩ := hp
  obtain ⟨v, r, rfl⟩ := zvs1 a2 (of_decide_eq_true a3)
  have hn : (v :: v :: r).length ≤ 12 := a8 _ rfl
  exact zc143_31 a7 hl (by show (r.map znm).length + 1 < 12; rw [List.length_map]; rw [List.length_cons, List.length_cons] at hn; omega) (fun h' S' e1 m1 => g1 _ rfl h' S' (zCe_le e1 (by omega) (by omega)) m1)
theorem zp34 (hp : zPr bits bound m sk p 34 held C h S st vs) (hl : zown h l = some (.inr (9, [.int (nI 34), x1, .ref a, x3, x4]))) (hc : zVal h (znm C) (.inl a)) (g1 : zG1 bits bound m sk p 34 C h vs Q) : zG xs (d + 6) (143, 0, lv_args 0 [zo (some m), zo (some l)], []) (zrh h sk S) Q := by
  obtain ⟨a1, a2, a3, a4, a5, a6, a7, a8⟩ := hp
  have hn : (C :: vs).length ≤ 12 := a8 _ rfl
  exact zc143_34 a7 hl hc (by rw [List.length_map]; rw [List.length_cons] at hn; omega) (fun h' S' e1 m1 => g1 _ rfl h' S' (zCe_le e1 (by omega) (by omega)) m1)
theorem zp35 (hp : zPr bits bound m sk p 35 held C h S st vs) (hl : zown h l = some (.inr (9, [.int (nI 35), x1, x2, x3, x4]))) (g1 : zG1 bits bound m sk p 35 C h vs Q) : zG xs (d + 6) (143, 0, lv_args 0 [zo (some m), zo (some l)], []) (zrh h sk S) Q := by
  obtain ⟨a1, a2, a3, a4, a5, a6, a7, a8⟩ := hp
  have hn := a8 _ rfl
  exact zc143_35 a7 hl (by rw [List.length_map]; have hn : vs.length + 1 ≤ 12 := hn; omega) (fun h' S' e1 m1 => g1 _ rfl h' S' (zCe_le e1 (by omega) (by omega)) m1)
theorem zp40 (hp : zPr bits bound m sk p 40 held C h S st vs) (hl : zown h l = some (.inr (9, [.int (nI 40), x1, x2, x3, x4]))) (g1 : zG1 bits bound m sk p 40 C h vs Q) : zG xs (d + 6) (143, 0, lv_args 0 [zo (some m), zo (some l)], []) (zrh h sk S) Q := by
  obtain ⟨a1, a2, a3, a4, a5, a6, a7, a8⟩ := hp
  have hn := a8 _ rfl
  exact zc143_40 a7 hl (by rw [List.length_map]; have hn : vs.length + 1 ≤ 12 := hn; omega) (fun h' S' e1 m1 => g1 _ rfl h' S' (zCe_le e1 (by omega) (by omega)) m1)
theorem zp45 (hp : zPr bits bound m sk p 45 held C h S st vs) (hl : zown h l = some (.inr (9, [.int (nI 45), x1, x2, x3, x4]))) (g1 : zG1 bits bound m sk p 45 C h vs Q) : zG xs (d + 6) (143, 0, lv_args 0 [zo (some m), zo (some l)], []) (zrh h sk S) Q := by
  obtain ⟨a1, a2, a3, a4, a5, a6, a7, a8⟩ := hp
  have hn := a8 _ rfl
  exact zc143_45 a7 hl (by rw [List.length_map]; have hn : vs.length + 1 ≤ 12 := hn; omega) (fun h' S' e1 m1 => g1 _ rfl h' S' (zCe_le e1 (by omega) (by omega)) m1)
theorem zp51 (hp : zPr bits bound m sk p 51 held C h S st vs) (hl : zown h l = some (.inr (9, [.int (nI 51), x1, x2, x3, x4]))) (g1 : zG1 bits bound m sk p 51 C h vs Q) : zG xs (d + 6) (143, 0, lv_args 0 [zo (some m), zo (some l)], []) (zrh h sk S) Q := by
  obtain ⟨a1, a2, a3, a4, a5, a6, a7, a8⟩ := hp
  have hn := a8 _ rfl
  exact zc143_51 a7 hl (by rw [List.length_map]; have hn : vs.length + 1 ≤ 12 := hn; omega) (fun h' S' e1 m1 => g1 _ rfl h' S' (zCe_le e1 (by omega) (by omega)) (zMa_len m1))
theorem zp37 (hp : zPr bits bound m sk p 37 held C h S st vs) (hl : zown h l = some (.inr (9, [.int (nI 37), x1, x2, x3, x4]))) (g1 : zG1 bits bound m sk p 37 C h vs Q) : zG xs (d + 6) (143, 0, lv_args 0 [zo (some m), zo (some l)], []) (zrh h sk S) Q := by
  have hg := zPr_g hp
  obtain ⟨a1, a2, a3, a4, a5, a6, a7, a8⟩ := hp
  have hr := zkhs_c (k := 0) (c := 5) a3
  obtain ⟨v, r, rfl⟩ := zvs1 a2 hr.1
  have hv0 : zVt (zkat st 0) v := zCfo_at 0 a2 hr.1
  obtain ⟨x, y, rfl, _, _⟩ := zVt_pair (zkat_g hg 0 hr.1).1 hr.2 hv0
  exact zc143_37 a7 hl (fun h' S' e1 m1 => g1 _ rfl h' S' (zCe_le e1 (by omega) (by omega)) m1)
theorem zp38 (hp : zPr bits bound m sk p 38 held C h S st vs) (hl : zown h l = some (.inr (9, [.int (nI 38), x1, x2, x3, x4]))) (g1 : zG1 bits bound m sk p 38 C h vs Q) : zG xs (d + 6) (143, 0, lv_args 0 [zo (some m), zo (some l)], []) (zrh h sk S) Q := by
  have hg := zPr_g hp
  obtain ⟨a1, a2, a3, a4, a5, a6, a7, a8⟩ := hp
  have hr := zkhs_c (k := 0) (c := 5) a3
  obtain ⟨v, r, rfl⟩ := zvs1 a2 hr.1
  have hv0 : zVt (zkat st 0) v := zCfo_at 0 a2 hr.1
  obtain ⟨x, y, rfl, _, _⟩ := zVt_pair (zkat_g hg 0 hr.1).1 hr.2 hv0
  exact zc143_38 a7 hl (fun h' S' e1 m1 => g1 _ rfl h' S' (zCe_le e1 (by omega) (by omega)) m1)
theorem zp39 (hp : zPr bits bound m sk p 39 held C h S st vs) (hl : zown h l = some (.inr (9, [.int (nI 39), x1, x2, x3, x4]))) (g1 : zG1 bits bound m sk p 39 C h vs Q) : zG xs (d + 6) (143, 0, lv_args 0 [zo (some m), zo (some l)], []) (zrh h sk S) Q := by
  obtain ⟨a1, a2, a3, a4, a5, a6, a7, a8⟩ := hp
  obtain ⟨v, r, rfl⟩ := zvs1 a2 (of_decide_eq_true a3)
  exact zc143_39 a7 hl (fun h' S' e1 m1 => g1 _ rfl h' S' (zCe_le e1 (by omega) (by omega)) m1)
theorem zp42 (hp : zPr bits bound m sk p 42 held C h S st vs) (hl : zown h l = some (.inr (9, [.int (nI 42), x1, x2, x3, x4]))) (g1 : zG1 bits bound m sk p 42 C h vs Q) : zG xs (d + 6) (143, 0, lv_args 0 [zo (some m), zo (some l)], []) (zrh h sk S) Q := by
  obtain ⟨a1, a2, a3, a4, a5, a6, a7, a8⟩ := hp
  obtain ⟨v, r, rfl⟩ := zvs1 a2 (of_decide_eq_true a3)
  exact zc143_42 a7 hl (fun h' S' e1 m1 => g1 _ rfl h' S' (zCe_le e1 (by omega) (by omega)) m1)
theorem zp43 (hp : zPr bits bound m sk p 43 held C h S st vs) (hl : zown h l = some (.inr (9, [.int (nI 43), x1, x2, x3, x4]))) (g1 : zG1 bits bound m sk p 43 C h vs Q) : zG xs (d + 6) (143, 0, lv_args 0 [zo (some m), zo (some l)], []) (zrh h sk S) Q := by
  obtain ⟨a1, a2, a3, a4, a5, a6, a7, a8⟩ := hp
  obtain ⟨v, r, rfl⟩ := zvs1 a2 (of_decide_eq_true a3)
  exact zc143_43 a7 hl (fun h' S' e1 m1 => g1 _ rfl h' S' (zCe_le e1 (by omega) (by omega)) m1)
theorem zp32 (hp : zPr bits bound m sk p 32 held C h S st vs) (hl : zown h l = some (.inr (9, [.int (nI 32), x1, x2, x3, x4]))) (g1 : zG1 bits bound m sk p 32 C h vs Q) : zG xs (d + 6) (143, 0, lv_args 0 [zo (some m), zo (some l)], []) (zrh h sk S) Q := by
  obtain ⟨a1, a2, a3, a4, a5, a6, a7, a8⟩ := hp
  obtain ⟨v, w, r, rfl⟩ := zvs2 a2 (of_decide_eq_true a3)
  exact zc143_32 a7 hl (fun h' S' e1 m1 => g1 _ rfl h' S' (zCe_le e1 (by omega) (by omega)) m1)
theorem zp36 (hp : zPr bits bound m sk p 36 held C h S st vs) (hl : zown h l = some (.inr (9, [.int (nI 36), x1, x2, x3, x4]))) (g1 : zG1 bits bound m sk p 36 C h vs Q) : zG xs (d + 6) (143, 0, lv_args 0 [zo (some m), zo (some l)], []) (zrh h sk S) Q := by
  obtain ⟨a1, a2, a3, a4, a5, a6, a7, a8⟩ := hp
  obtain ⟨v, w, r, rfl⟩ := zvs2 a2 (of_decide_eq_true a3)
  exact zc143_36 a7 hl (fun h' S' e1 m1 => g1 _ rfl h' S' (zCe_le e1 (by omega) (by omega)) m1)
theorem zp46 (hp : zPr bits bound m sk p 46 held C h S st vs) (hl : zown h l = some (.inr (9, [.int (nI 46), x1, x2, x3, x4]))) (g1 : zG1 bits bound m sk p 46 C h vs Q) : zG xs (d + 6) (143, 0, lv_args 0 [zo (some m), zo (some l)], []) (zrh h sk S) Q := by
  have hg := zPr_g hp
  obtain ⟨a1, a2, a3, a4, a5, a6, a7, a8⟩ := hp
  have hr : (zkhs st 1 8 && zt1 (zkat st 1) == zkat st 0) = true := a3
  simp only [Bool.and_eq_true, beq_iff_eq] at hr
  have h1 := zkhs_c hr.1
  obtain ⟨v, w, r, rfl⟩ := zvs2 a2 h1.1
  have hv1 : zVt (zkat st 1) w := zCfo_at 1 a2 h1.1
  obtain ⟨L, rfl, hL⟩ := zVt_list (zkat_g hg 1 h1.1).1 h1.2 hv1
  have hm := a5 (.old (zenc L)) (List.mem_cons_of_mem _ List.mem_cons_self)
  rw [zmr, zels_enc] at hm
  have e : (v :: .old (zenc L) :: r).map znm = znm v :: .old (zenc (L.map znm)) :: r.map znm := by
    show znm v :: .old (znm (zenc L)) :: r.map znm = _; rw [znm_enc]
  rw [e] at a7
  refine zc143_46 a7 hl (by rw [List.length_map]; omega) (fun h' S' e1 m1 => g1 _ rfl h' S' (zCe_le e1 (by omega) (by rw [List.length_map]; omega)) ?_)
  have e2 : (Term.old (.rem v (zenc L)) :: r).map znm = .old (zenc (znm v :: L.map znm)) :: r.map znm := by
    show Term.old (.rem (znm v) (znm (zenc L))) :: r.map znm = _; rw [znm_enc]; rfl
  show zMa h' m sk bits bound ((Term.old (.rem v (zenc L)) :: r).map znm) S' p
  rw [e2]; exact m1
theorem zp48 (hp : zPr bits bound m sk p 48 held C h S st vs) (hl : zown h l = some (.inr (9, [.int (nI 48), x1, x2, x3, x4]))) (g1 : zG1 bits bound m sk p 48 C h vs Q) : zG xs (d + 6) (143, 0, lv_args 0 [zo (some m), zo (some l)], []) (zrh h sk S) Q := by
  have hg := zPr_g hp
  obtain ⟨a1, a2, a3, a4, a5, a6, a7, a8⟩ := hp
  have hr : (zkhs st 0 8 || zkhs st 0 9 || zkhs st 0 4) = true := a3
  simp only [Bool.or_eq_true] at hr
  have h0 : 0 < st.length := by
    rcases hr with (z | z) | z <;> exact (zkhs_c z).1
  obtain ⟨v, r, rfl⟩ := zvs1 a2 h0
  have hv0 : zVt (zkat st 0) v := zCfo_at 0 a2 h0
  have key : ((∃ l, znm v = .old l) ∨ (∃ l, znm v = .length l) ∨ (∃ k w, znm v = .mul (.arg k) (.arg w))) ∧ zsize (znm v) = zsize v := by
    rcases hr with (z | z) | z
    · obtain ⟨L, rfl, _⟩ := zVt_list (zkat_g hg 0 h0).1 (zkhs_c z).2 hv0
      refine ⟨Or.inl ⟨_, rfl⟩, ?_⟩
      show (zels (znm (zenc L))).length = (zels (zenc L)).length
      rw [znm_enc, zels_enc, zels_enc, List.length_map]
    · obtain ⟨es, rfl, _⟩ := zVt_map (zkat_g hg 0 h0).1 (zkhs_c z).2 hv0
      refine ⟨Or.inr (Or.inl ⟨_, rfl⟩), ?_⟩
      show (zels (znm (zenc _))).length = (zels (zenc _)).length
      rw [znm_enc, zels_enc, zels_enc, List.length_map]
    · obtain ⟨k, w, rfl, _⟩ := zVt_text (zkat_g hg 0 h0).1 (zkhs_c z).2 hv0
      exact ⟨Or.inr (Or.inr ⟨k, w, rfl⟩), rfl⟩
  have key2 := key.2
  refine zc143_48 a7 hl key.1 (fun h' S' e1 m1 => g1 _ rfl h' S' (zCe_le e1 (by omega) (by omega)) ?_)
  rw [key2] at m1
  exact m1
end PL
section PL2
variable {xs : List Value} {d m sk bits bound p a b c l held : Nat} {h h' : zH} {S : List Value} {st vs : List Term} {C : Term} {Q : zO → zH → Prop}
/-- the keys of a row can be held against a key -/
theorem zKo_t {K key : Term} {es : List (Term × Term)} (hk : zTok K) (hs : ztsim K = true) (hd : ztdep K ≤ 8) (hy : zVt K key) (h : ∀ e ∈ es, zVt K e.1) : zKo es key 7 := fun e he => ⟨zSimp_t K e.1 key hk hs (h e he) hy, by have := (zdep_t K e.1 hk hs (h e he)).1; omega⟩
theorem zp52 (hp : zPr bits bound m sk p 52 held C h S st vs) (g1 : zG1 bits bound m sk p 52 C h vs Q) : zG xs 11 (137, 0, lv_args 0 [zo (some m), .int (nI 52)], []) (zrh h sk S) Q := by
  have hg := zPr_g hp
  obtain ⟨a1, a2, a3, a4, a5, a6, a7, a8⟩ := hp
  have hr : (zkm (zkat st 1) && zt1 (zkat st 1) == zkat st 0) = true := a3
  simp only [Bool.and_eq_true, beq_iff_eq] at hr
  have h1 := zkm_at hr.1
  obtain ⟨v, w, r, rfl⟩ := zvs2 a2 h1
  have hw : zVt (zkat st 1) w := zCfo_at 1 a2 h1
  have hv : zVt (zt1 (zkat st 1)) v := by rw [hr.2]; exact zCfo_at 0 a2 (by omega)
  have hT := zkat_g hg 1 h1
  have hc : ztc (zkat st 1) = 9 ∨ ztc (zkat st 1) = 10 := by have := hr.1; unfold zkm at this; simpa using this
  have hs := zsim_of hT hc
  obtain ⟨es, e1, e2, e3, e4, e5, e6⟩ := znm_row hT hr.1 hw
  have hd8 : ztdep (zt1 (zkat st 1)) ≤ 8 := by
    rw [hr.2, zkat_lt (by omega)]; exact (a1 _ (List.getElem_mem _)).2
  have ek := znm_s _ v (zTg1_1 hT).1 hs hv
  have a7' : zMa h m sk bits bound (v :: znm w :: r.map znm) S p := by
    have := a7
    rw [List.map_cons, List.map_cons, ek] at this
    exact this
  refine zc137_52 (d := 7) a7' e1 (zKo_t (zTg1_1 hT).1 hs hd8 hv e2) (fun h' S' c1 m1 => g1 _ rfl h' S' (zCe_le c1 (by omega) (by omega)) ?_)
  rw [← (e5 v hv).1] at m1
  exact m1
theorem zp54 (hp : zPr bits bound m sk p 54 held C h S st vs) (g1 : zG1 bits bound m sk p 54 C h vs Q) : zG xs 11 (137, 0, lv_args 0 [zo (some m), .int (nI 54)], []) (zrh h sk S) Q := by
  have hg := zPr_g hp
  obtain ⟨a1, a2, a3, a4, a5, a6, a7, a8⟩ := hp
  have hr : (zkm (zkat st 1) && zt1 (zkat st 1) == zkat st 0) = true := a3
  simp only [Bool.and_eq_true, beq_iff_eq] at hr
  have h1 := zkm_at hr.1
  obtain ⟨v, w, r, rfl⟩ := zvs2 a2 h1
  have hw : zVt (zkat st 1) w := zCfo_at 1 a2 h1
  have hv : zVt (zt1 (zkat st 1)) v := by rw [hr.2]; exact zCfo_at 0 a2 (by omega)
  have hT := zkat_g hg 1 h1
  have hc : ztc (zkat st 1) = 9 ∨ ztc (zkat st 1) = 10 := by have := hr.1; unfold zkm at this; simpa using this
  have hs := zsim_of hT hc
  obtain ⟨es, e1, e2, e3, e4, e5, e6⟩ := znm_row hT hr.1 hw
  have hd8 : ztdep (zt1 (zkat st 1)) ≤ 8 := by
    rw [hr.2, zkat_lt (by omega)]; exact (a1 _ (List.getElem_mem _)).2
  have ek := znm_s _ v (zTg1_1 hT).1 hs hv
  have a7' : zMa h m sk bits bound (v :: znm w :: r.map znm) S p := by
    have := a7
    rw [List.map_cons, List.map_cons, ek] at this
    exact this
  refine zc137_54 (d := 7) a7' e1 (zKo_t (zTg1_1 hT).1 hs hd8 hv e2) (fun h' S' c1 m1 => g1 _ rfl h' S' (zCe_le c1 (by omega) (by omega)) ?_)
  rw [← (e5 v hv).2] at m1
  exact m1
theorem zp53 (hp : zPr bits bound m sk p 53 held C h S st vs) (g1 : zG1 bits bound m sk p 53 C h vs Q) : zG xs 11 (137, 0, lv_args 0 [zo (some m), .int (nI 53)], []) (zrh h sk S) Q := by
  have hg := zPr_g hp
  obtain ⟨a1, a2, a3, a4, a5, a6, a7, a8⟩ := hp
  have hr : (zkm (zkat st 2) && zt1 (zkat st 2) == zkat st 0 && zkhs st 1 6 && zt2 (zkat st 2) == zt1 (zkat st 1)) = true := a3
  simp only [Bool.and_eq_true, beq_iff_eq] at hr
  have h1 := zkm_at hr.1.1.1
  have h6 := zkhs_c hr.1.2
  obtain ⟨v, o, w, r, rfl⟩ := zvs3 a2 h1
  have hw : zVt (zkat st 2) w := zCfo_at 2 a2 h1
  have hv : zVt (zt1 (zkat st 2)) v := by rw [hr.1.1.2]; exact zCfo_at 0 a2 (by omega)
  have hT := zkat_g hg 2 h1
  have ho : o = .arg 24 ∨ ∃ x, o = .div (.arg 25) x := (zVt_opt (zkat_g hg 1 h6.1).1 h6.2 (zCfo_at 1 a2 h6.1)).imp id (fun ⟨x, e, _⟩ => ⟨x, e⟩)
  have ho2 : znm o = .arg 24 ∨ ∃ x, znm o = .div (.arg 25) x := by
    rcases ho with rfl | ⟨x, rfl⟩
    · exact Or.inl rfl
    · exact Or.inr ⟨znm x, rfl⟩
  have hc : ztc (zkat st 2) = 9 ∨ ztc (zkat st 2) = 10 := by have := hr.1.1.1; unfold zkm at this; simpa using this
  have hs := zsim_of hT hc
  obtain ⟨es, e1, e2, e3, e4, e5, e6⟩ := znm_row hT hr.1.1.1 hw
  have hd8 : ztdep (zt1 (zkat st 2)) ≤ 8 := by
    rw [hr.1.1.2, zkat_lt (by omega)]; exact (a1 _ (List.getElem_mem _)).2
  have ek := znm_s _ v (zTg1_1 hT).1 hs hv
  have a7' : zMa h m sk bits bound (v :: znm o :: znm w :: r.map znm) S p := by
    have := a7
    rw [List.map_cons, List.map_cons, List.map_cons, ek] at this
    exact this
  have hm := a5 w (List.mem_cons_of_mem _ (List.mem_cons_of_mem _ List.mem_cons_self))
  exact zc137_53 (d := 7) (u2 := znm (zud v o w)) a7' e1 (zKo_t (zTg1_1 hT).1 hs hd8 hv e2) ho2 (by omega) (e6 v o hv ho) (fun h' S' c1 m1 => g1 _ rfl h' S' (zCe_le c1 (by omega) (by omega)) m1)
theorem zbo (hg : ∀ T, T ∈ st → zTg1 T) {i : Nat} (hr : zkhs st i 1 = true) (hv : zCfo st vs) : ∃ x, zkat vs i = .arg x ∧ (x = 21 ∨ x = 22) := by
  have h1 := zkhs_c hr
  rcases zVt_bool (zkat_g hg i h1.1).1 h1.2 (zCfo_at i hv h1.1) with z | z
  · exact ⟨21, z, Or.inl rfl⟩
  · exact ⟨22, z, Or.inr rfl⟩
theorem zb22 {x : Nat} (h : x = 21 ∨ x = 22) : (Term.arg x == .arg 22) = (x == 22) ∧ (Term.arg x == .arg 21) = (!(x == 22)) := by
  rcases h with rfl | rfl <;> exact ⟨by decide, by decide⟩
theorem zp55 (hp : zPr bits bound m sk p 55 held C h S st vs) (g1 : zG1 bits bound m sk p 55 C h vs Q) : zG xs (d + 4) (137, 0, lv_args 0 [zo (some m), .int (nI 55)], []) (zrh h sk S) Q := by
  have hg := zPr_g hp
  obtain ⟨a1, a2, a3, a4, a5, a6, a7, a8⟩ := hp
  have hr : (zkhs st 0 1 && zkhs st 1 1) = true := a3
  simp only [Bool.and_eq_true] at hr
  obtain ⟨v, w, r, rfl⟩ := zvs2 a2 (zkhs_c hr.2).1
  obtain ⟨x, ex, hx⟩ := zbo hg hr.1 a2
  obtain ⟨y, ey, hy⟩ := zbo hg hr.2 a2
  have ex : v = .arg x := ex
  have ey : w = .arg y := ey
  subst ex ey
  refine zc137_55 (x := x) (y := y) a7 (fun h' S' c1 m1 => g1 _ rfl h' S' (zCe_le c1 (by omega) (by omega)) ?_)
  rw [← (zb22 hx).1, ← (zb22 hy).1] at m1
  exact m1
theorem zp56 (hp : zPr bits bound m sk p 56 held C h S st vs) (g1 : zG1 bits bound m sk p 56 C h vs Q) : zG xs (d + 4) (137, 0, lv_args 0 [zo (some m), .int (nI 56)], []) (zrh h sk S) Q := by
  have hg := zPr_g hp
  obtain ⟨a1, a2, a3, a4, a5, a6, a7, a8⟩ := hp
  have hr : (zkhs st 0 1 && zkhs st 1 1) = true := a3
  simp only [Bool.and_eq_true] at hr
  obtain ⟨v, w, r, rfl⟩ := zvs2 a2 (zkhs_c hr.2).1
  obtain ⟨x, ex, hx⟩ := zbo hg hr.1 a2
  obtain ⟨y, ey, hy⟩ := zbo hg hr.2 a2
  have ex : v = .arg x := ex
  have ey : w = .arg y := ey
  subst ex ey
  refine zc137_56 (x := x) (y := y) a7 (fun h' S' c1 m1 => g1 _ rfl h' S' (zCe_le c1 (by omega) (by omega)) ?_)
  rw [← (zb22 hx).1, ← (zb22 hy).1] at m1
  exact m1
theorem zp57 (hp : zPr bits bound m sk p 57 held C h S st vs) (g1 : zG1 bits bound m sk p 57 C h vs Q) : zG xs (d + 4) (137, 0, lv_args 0 [zo (some m), .int (nI 57)], []) (zrh h sk S) Q := by
  have hg := zPr_g hp
  obtain ⟨a1, a2, a3, a4, a5, a6, a7, a8⟩ := hp
  have hr : zkhs st 0 1 = true := a3
  obtain ⟨v, r, rfl⟩ := zvs1 a2 (zkhs_c hr).1
  obtain ⟨x, ex, hx⟩ := zbo hg hr a2
  have ex : v = .arg x := ex
  subst ex
  refine zc137_57 (x := x) a7 (fun h' S' c1 m1 => g1 _ rfl h' S' (zCe_le c1 (by omega) (by omega)) ?_)
  rw [← (zb22 hx).2] at m1
  exact m1
end PL2
section PL3
variable {xs : List Value} {d m sk bits bound p a b c l held : Nat} {h h' : zH} {S : List Value} {st vs : List Term} {C : Term} {Q : zO → zH → Prop}
theorem znu (hg : ∀ T, T ∈ st → zTg1 T) {i : Nat} (hi : i < st.length) (hk : zkn (zkat st i) = true) (hv : zCfo st vs) : ∃ s n, zkat vs i = zmn s n := by
  have := (zVt_n (zkat_g hg i hi).1 hk (zCfo_at i hv hi)).2.2.2
  exact ⟨_, _, this⟩
theorem zPx_le {e c s c' s' : Nat} (g : zPx h m sk e c' s' Q) (h1 : c ≤ c') (h2 : s ≤ s') : zPx h m sk e c s Q := fun h' S' e1 k => g h' S' (zCe_le e1 h1 h2) k
theorem zPs_le {W : List Term} {c s c' s' : Nat} (g : zPs h m sk bits bound p W c' s' Q) (h1 : c ≤ c') (h2 : s ≤ s') : zPs h m sk bits bound p W c s Q := fun h' S' e1 k => g h' S' (zCe_le e1 h1 h2) k
theorem zG1_at {l W : List Term} {c' s' : Nat} (g1 : zG1 bits bound m sk p c C h vs Q) (ez : zop bits c vs C = some l) (hW : l.map znm = W) (h1 : c' ≤ 12) (h2 : s' ≤ 60 + p) : zPs h m sk bits bound p W c' s' Q := by
  subst hW; exact zPs_le (g1 l ez) h1 h2
theorem zszd_1 {r : Bool × Nat} (h : r.2 < 2 ^ bits) : zszd bits r = some (zmn r.1 r.2) := by unfold zszd; rw [if_pos h]
theorem zszd_0 {r : Bool × Nat} (h : ¬ r.2 < 2 ^ bits) : zszd bits r = none := by unfold zszd; rw [if_neg h]
theorem zp60 (hd : 8 ≤ d) (hp : zPr bits bound m sk p 60 held C h S st vs) (g1 : zG1 bits bound m sk p 60 C h vs Q) (g2 : zG2 bits m sk p 60 C h vs Q) : zG xs (d + 4) (124, 0, lv_args 0 [zo (some m), .int (nI 60)], []) (zrh h sk S) Q := by
  have hg := zPr_g hp
  obtain ⟨a1, a2, a3, a4, a5, a6, a7, a8⟩ := hp
  have hr : (zkn (zkat st 0) && zkn (zkat st 1)) = true := a3
  simp only [Bool.and_eq_true] at hr
  have b1 := zkn_at hr.2
  obtain ⟨v, w, r, rfl⟩ := zvs2 a2 b1
  obtain ⟨s, n, e0⟩ := znu hg (zkn_at hr.1) hr.1 a2
  obtain ⟨t, k, e1⟩ := znu hg b1 hr.2 a2
  have e0 : v = zmn s n := e0
  have e1 : w = zmn t k := e1
  subst e0 e1
  have ez : zop bits 60 (zmn s n :: zmn t k :: r) C = (zszd bits (zsum (zsg (zmn s n)) n (zsg (zmn t k)) k)).map (fun v => v :: r) := rfl
  rw [zsg_mn, zsg_mn] at ez
  refine zc124_60 (d := d + 1) (by omega) a4 a7 (fun q => zG1_at (l := zmn (zsum s n t k).1 (zsum s n t k).2 :: r) g1 (by rw [ez, zszd_1 q]; rfl) rfl (by omega) (by omega)) (fun q => zPx_le (g2 (by rw [ez, zszd_0 q]; rfl)) (by omega) (by omega))
theorem zp61 (hd : 8 ≤ d) (hp : zPr bits bound m sk p 61 held C h S st vs) (g1 : zG1 bits bound m sk p 61 C h vs Q) (g2 : zG2 bits m sk p 61 C h vs Q) : zG xs (d + 4) (124, 0, lv_args 0 [zo (some m), .int (nI 61)], []) (zrh h sk S) Q := by
  have hg := zPr_g hp
  obtain ⟨a1, a2, a3, a4, a5, a6, a7, a8⟩ := hp
  have hr : (zkn (zkat st 0) && zkn (zkat st 1)) = true := a3
  simp only [Bool.and_eq_true] at hr
  have b1 := zkn_at hr.2
  obtain ⟨v, w, r, rfl⟩ := zvs2 a2 b1
  obtain ⟨s, n, e0⟩ := znu hg (zkn_at hr.1) hr.1 a2
  obtain ⟨t, k, e1⟩ := znu hg b1 hr.2 a2
  have e0 : v = zmn s n := e0
  have e1 : w = zmn t k := e1
  subst e0 e1
  have ez : zop bits 61 (zmn s n :: zmn t k :: r) C = (zszd bits (zsum (zsg (zmn s n)) n (!(zsg (zmn t k))) k)).map (fun v => v :: r) := rfl
  rw [zsg_mn, zsg_mn] at ez
  refine zc124_61 (d := d + 1) (by omega) a4 a7 (fun q => zG1_at (l := zmn (zsum s n (!t) k).1 (zsum s n (!t) k).2 :: r) g1 (by rw [ez, zszd_1 q]; rfl) rfl (by omega) (by omega)) (fun q => zPx_le (g2 (by rw [ez, zszd_0 q]; rfl)) (by omega) (by omega))
theorem zp62 (hd : 8 ≤ d) (hp : zPr bits bound m sk p 62 held C h S st vs) (g1 : zG1 bits bound m sk p 62 C h vs Q) (g2 : zG2 bits m sk p 62 C h vs Q) : zG xs (d + 4) (124, 0, lv_args 0 [zo (some m), .int (nI 62)], []) (zrh h sk S) Q := by
  have hg := zPr_g hp
  obtain ⟨a1, a2, a3, a4, a5, a6, a7, a8⟩ := hp
  have hr : (zkn (zkat st 0) && zkn (zkat st 1)) = true := a3
  simp only [Bool.and_eq_true] at hr
  have b1 := zkn_at hr.2
  obtain ⟨v, w, r, rfl⟩ := zvs2 a2 b1
  obtain ⟨s, n, e0⟩ := znu hg (zkn_at hr.1) hr.1 a2
  obtain ⟨t, k, e1⟩ := znu hg b1 hr.2 a2
  have e0 : v = zmn s n := e0
  have e1 : w = zmn t k := e1
  subst e0 e1
  have ez : zop bits 62 (zmn s n :: zmn t k :: r) C = (zszd bits ((zsg (zmn s n) != zsg (zmn t k)) && (n * k != 0), n * k)).map (fun v => v :: r) := rfl
  rw [zsg_mn, zsg_mn] at ez
  refine zc124_62 (d := d + 1) (by omega) a4 a7 (fun q => zG1_at (l := zmn ((s != t) && (n * k != 0)) (n * k) :: r) g1 (by rw [ez, zszd_1 q]; rfl) rfl (by omega) (by omega)) (fun q => zPx_le (g2 (by rw [ez, zszd_0 q]; rfl)) (by omega) (by omega))
theorem zp63 (hd : 8 ≤ d) (hp : zPr bits bound m sk p 63 held C h S st vs) (g1 : zG1 bits bound m sk p 63 C h vs Q) (g2 : zG2 bits m sk p 63 C h vs Q) : zG xs (d + 4) (124, 0, lv_args 0 [zo (some m), .int (nI 63)], []) (zrh h sk S) Q := by
  have hg := zPr_g hp
  obtain ⟨a1, a2, a3, a4, a5, a6, a7, a8⟩ := hp
  have hr : (zkn (zkat st 0) && zkn (zkat st 1)) = true := a3
  simp only [Bool.and_eq_true] at hr
  have b1 := zkn_at hr.2
  obtain ⟨v, w, r, rfl⟩ := zvs2 a2 b1
  obtain ⟨s, n, e0⟩ := znu hg (zkn_at hr.1) hr.1 a2
  obtain ⟨t, k, e1⟩ := znu hg b1 hr.2 a2
  have e0 : v = zmn s n := e0
  have e1 : w = zmn t k := e1
  subst e0 e1
  have ez : zop bits 63 (zmn s n :: zmn t k :: r) C = (if k = 0 then some (.arg 24) else if (zquo (zsg (zmn s n)) n (zsg (zmn t k)) k).1.2 < 2 ^ bits ∧ (zquo (zsg (zmn s n)) n (zsg (zmn t k)) k).2 < 2 ^ bits then some (.div (.arg 25) (.add (.div (.arg 23) (zmn (zquo (zsg (zmn s n)) n (zsg (zmn t k)) k).1.1 (zquo (zsg (zmn s n)) n (zsg (zmn t k)) k).1.2)) (zmn false (zquo (zsg (zmn s n)) n (zsg (zmn t k)) k).2))) else none : Option Term).map (fun v => v :: r) := rfl
  rw [zsg_mn, zsg_mn] at ez
  refine zc124_63 (d := d) hd a4 a7 (fun q => zG1_at (l := .arg 24 :: r) g1 (by rw [ez, if_pos q]; rfl) rfl (by omega) (by omega)) (fun q q2 => zG1_at (l := .div (.arg 25) (.add (.div (.arg 23) (zmn (zquo s n t k).1.1 (zquo s n t k).1.2)) (zmn false (zquo s n t k).2)) :: r) g1 (by rw [ez, if_neg q, if_pos q2]; rfl) rfl (by omega) (by omega)) (fun q q2 => zPx_le (g2 (by rw [ez, if_neg q, if_neg q2]; rfl)) (by omega) (by omega))
theorem zp64 (hd : 8 ≤ d) (hp : zPr bits bound m sk p 64 held C h S st vs) (g1 : zG1 bits bound m sk p 64 C h vs Q) (g2 : zG2 bits m sk p 64 C h vs Q) : zG xs (d + 4) (124, 0, lv_args 0 [zo (some m), .int (nI 64)], []) (zrh h sk S) Q := by
  have hg := zPr_g hp
  obtain ⟨a1, a2, a3, a4, a5, a6, a7, a8⟩ := hp
  have hk : zkn (zkat st 0) = true := a3
  have b1 := zkn_at hk
  obtain ⟨v, r, rfl⟩ := zvs1 a2 b1
  obtain ⟨s, n, e0⟩ := znu hg b1 hk a2
  have e0 : v = zmn s n := e0
  subst e0
  have ez : zop bits 64 (zmn s n :: r) C = some (zmn (!(zsg (zmn s n)) && n != 0) n :: r) := rfl
  rw [zsg_mn] at ez
  exact zc124_64 (d := d) a7 (zG1_at g1 ez rfl (by omega) (by omega))
theorem zp65 (hd : 8 ≤ d) (hp : zPr bits bound m sk p 65 held C h S st vs) (g1 : zG1 bits bound m sk p 65 C h vs Q) (g2 : zG2 bits m sk p 65 C h vs Q) : zG xs (d + 4) (124, 0, lv_args 0 [zo (some m), .int (nI 65)], []) (zrh h sk S) Q := by
  have hg := zPr_g hp
  obtain ⟨a1, a2, a3, a4, a5, a6, a7, a8⟩ := hp
  have hr := zkhs_c (k := 0) (c := 2) a3
  have b1 := hr.1
  have hk : zkn (zkat st 0) = true := by unfold zkn; rw [hr.2]; rfl
  obtain ⟨v, r, rfl⟩ := zvs1 a2 b1
  obtain ⟨s, n, e0⟩ := znu hg b1 hk a2
  have e0 : v = zmn s n := e0
  subst e0
  have ez : zop bits 65 (zmn s n :: r) C = some (zmn false n :: r) := rfl
  exact zc124_65 (d := d) a7 (zG1_at g1 ez rfl (by omega) (by omega))
theorem zp66 (hd : 8 ≤ d) (hp : zPr bits bound m sk p 66 held C h S st vs) (g1 : zG1 bits bound m sk p 66 C h vs Q) (g2 : zG2 bits m sk p 66 C h vs Q) : zG xs (d + 4) (124, 0, lv_args 0 [zo (some m), .int (nI 66)], []) (zrh h sk S) Q := by
  have hg := zPr_g hp
  obtain ⟨a1, a2, a3, a4, a5, a6, a7, a8⟩ := hp
  have hr := zkhs_c (k := 0) (c := 2) a3
  have b1 := hr.1
  have hk : zkn (zkat st 0) = true := by unfold zkn; rw [hr.2]; rfl
  obtain ⟨v, r, rfl⟩ := zvs1 a2 b1
  obtain ⟨s, n, e0⟩ := znu hg b1 hk a2
  have e0 : v = zmn s n := e0
  subst e0
  have ez : zop bits 66 (zmn s n :: r) C = some ((if zsg (zmn s n) = true then .arg 24 else .div (.arg 25) (zmn s n)) :: r) := rfl
  rw [zsg_mn] at ez
  refine zc124_66 (d := d) a7 (zPs_le (c' := 12) (s' := 60 + p) ?_ (by omega) (by omega))
  have := g1 _ ez
  rw [List.map_cons] at this
  have e2 : znm (if s = true then .arg 24 else .div (.arg 25) (zmn s n)) = (if s = true then .arg 24 else .div (.arg 25) (zmn s n)) := by split <;> rfl
  rw [e2] at this
  exact this
theorem zp67 (hd : 8 ≤ d) (hp : zPr bits bound m sk p 67 held C h S st vs) (g1 : zG1 bits bound m sk p 67 C h vs Q) (g2 : zG2 bits m sk p 67 C h vs Q) : zG xs (d + 4) (124, 0, lv_args 0 [zo (some m), .int (nI 67)], []) (zrh h sk S) Q := by
  have hg := zPr_g hp
  obtain ⟨a1, a2, a3, a4, a5, a6, a7, a8⟩ := hp
  have hr := zkhs_c (k := 0) (c := 3) a3
  have b1 := hr.1
  have hk : zkn (zkat st 0) = true := by unfold zkn; rw [hr.2]; rfl
  obtain ⟨v, r, rfl⟩ := zvs1 a2 b1
  obtain ⟨s, n, e0⟩ := znu hg b1 hk a2
  have e0 : v = zmn s n := e0
  subst e0
  have ez : zop bits 67 (zmn s n :: r) C = some (zmn s n :: r) := rfl
  exact zc124_67 (d := d) a7 (zG1_at g1 ez rfl (by omega) (by omega))
theorem zp68 (hd : 8 ≤ d) (hp : zPr bits bound m sk p 68 held C h S st vs) (g1 : zG1 bits bound m sk p 68 C h vs Q) (g2 : zG2 bits m sk p 68 C h vs Q) : zG xs (d + 4) (110, 0, lv_args 0 [zo (some m), .int (nI 68)], []) (zrh h sk S) Q := by
  have hg := zPr_g hp
  obtain ⟨a1, a2, a3, a4, a5, a6, a7, a8⟩ := hp
  have hr : (ztsim (zkat st 0) && zkat st 0 == zkat st 1) = true := a3
  simp only [Bool.and_eq_true, beq_iff_eq] at hr
  have b0 : 1 < st.length := by
    have q : ∀ i, ztsim (zkat st i) = true → i < st.length := fun i hi => by
      by_cases z : i < st.length
      · exact z
      · exfalso
        have : zkat st i = .arg 0 := by unfold zkat; rw [List.getD_eq_getElem?_getD, List.getElem?_eq_none (by omega)]; rfl
        rw [this] at hi; cases hi
    exact q 1 (hr.2 ▸ hr.1)
  obtain ⟨v, w, r, rfl⟩ := zvs2 a2 b0
  have hT := zkat_g hg 0 (by omega)
  have hv : zVt (zkat st 0) v := zCfo_at 0 a2 (by omega)
  have hw : zVt (zkat st 0) w := by rw [hr.2]; exact zCfo_at 1 a2 b0
  have hd8 : ztdep (zkat st 0) ≤ 8 := by rw [zkat_lt (by omega)]; exact (a1 _ (List.getElem_mem _)).2
  have ev := znm_s _ v hT.1 hr.1 hv
  have ew := znm_s _ w hT.1 hr.1 hw
  have a7' : zMa h m sk bits bound (v :: w :: r.map znm) S p := by
    have := a7
    rw [List.map_cons, List.map_cons, ev, ew] at this
    exact this
  refine zc110_68 (d := d + 1) a7' (zSimp_t _ v w hT.1 hr.1 hv hw) (by have := (zdep_t _ v hT.1 hr.1 hv).1; omega) (zOr_t _ v w w hT.1 hr.1 hv hw hw).1 (zPs_le (c' := 12) (s' := 60 + p) ?_ (by omega) (by omega))
  have := g1 _ rfl
  have e3 : znm (zcpn (zcmp v w)) = zcpn (zcmp v w) := by unfold zcpn; split; rfl; split <;> rfl
  rw [List.map_cons] at this
  have t2 : zPs h m sk bits bound p (znm (zcpn (zcmp v w)) :: r.map znm) 12 (60 + p) Q := this
  rw [e3] at t2
  exact t2
theorem zp69 (hc : 69 ≤ c ∧ c ≤ 74) (hp : zPr bits bound m sk p c held C h S st vs) (g1 : zG1 bits bound m sk p c C h vs Q) : zG xs (d + 4) (110, 0, lv_args 0 [zo (some m), .int (nI c)], []) (zrh h sk S) Q := by
  have hg := zPr_g hp
  obtain ⟨a1, a2, a3, a4, a5, a6, a7, a8⟩ := hp
  have a3 : zkhs st 0 2 = true := by
    rcases (by omega : c = 69 ∨ c = 70 ∨ c = 71 ∨ c = 72 ∨ c = 73 ∨ c = 74) with rfl | rfl | rfl | rfl | rfl | rfl <;> exact a3
  have hr := zkhs_c (k := 0) (c := 2) a3
  have b1 := hr.1
  have hk : zkn (zkat st 0) = true := by unfold zkn; rw [hr.2]; rfl
  obtain ⟨v, r, rfl⟩ := zvs1 a2 b1
  obtain ⟨s, n, e0⟩ := znu hg b1 hk a2
  have e0 : v = zmn s n := e0
  subst e0
  have ez : zop bits c (zmn s n :: r) C = some (ztr (ztst c (zsg (zmn s n)) n) :: r) := by
    rcases (by omega : c = 69 ∨ c = 70 ∨ c = 71 ∨ c = 72 ∨ c = 73 ∨ c = 74) with rfl | rfl | rfl | rfl | rfl | rfl <;> rfl
  rw [zsg_mn] at ez
  refine zc110_t hc a7 (zPs_le (c' := 12) (s' := 60 + p) ?_ (by omega) (by omega))
  have := g1 _ ez
  rw [List.map_cons] at this
  exact this
theorem zp75 (hd : 8 ≤ d) (hp : zPr bits bound m sk p 75 held C h S st vs) (g1 : zG1 bits bound m sk p 75 C h vs Q) (g2 : zG2 bits m sk p 75 C h vs Q) : zG xs (d + 4) (110, 0, lv_args 0 [zo (some m), .int (nI 75)], []) (zrh h sk S) Q := by
  have hg := zPr_g hp
  obtain ⟨a1, a2, a3, a4, a5, a6, a7, a8⟩ := hp
  have hr : (zkhs st 0 4 && zkhs st 1 4) = true := a3
  simp only [Bool.and_eq_true] at hr
  have b0 := zkhs_c hr.1
  have b1 := zkhs_c hr.2
  obtain ⟨v, w, r, rfl⟩ := zvs2 a2 b1.1
  obtain ⟨k, x, e0, t0⟩ := zVt_text (zkat_g hg 0 b0.1).1 b0.2 (zCfo_at 0 a2 b0.1)
  obtain ⟨l, y, e1, t1⟩ := zVt_text (zkat_g hg 1 b1.1).1 b1.2 (zCfo_at 1 a2 b1.1)
  have e0 : v = .mul (.arg k) (.arg x) := e0
  have e1 : w = .mul (.arg l) (.arg y) := e1
  subst e0 e1
  have ez : zop bits 75 (.mul (.arg k) (.arg x) :: .mul (.arg l) (.arg y) :: r) C = (if k + l ≤ 8 then some (Term.mul (.arg (k + l)) (.arg (x + y / 2 ^ (8 * k)))) else none).map (fun v => v :: r) := rfl
  refine zc110_75 (d := d + 1) (by omega) a7 t0 t1 (fun q => zG1_at (l := .mul (.arg (k + l)) (.arg (x + y / 2 ^ (8 * k))) :: r) g1 (by rw [ez, if_pos q]; rfl) rfl (by omega) (by omega)) (fun q => zPx_le (g2 (by rw [ez, if_neg q]; rfl)) (by omega) (by omega))
end PL3
