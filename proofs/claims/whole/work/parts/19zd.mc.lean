/-! the class's machine: its stack's array is hidden from all else -/
def zrh (h : zH) (sk : Nat) (S : List Value) : zH := zput h sk (.inl (8, S))
def zMa (h : zH) (m sk bits bound : Nat) (vs : List Term) (S : List Value) (p : Nat) : Prop := zown h sk = some zHid ∧ (∃ no : Nat, zown h m = some (.inr (11, [.ref sk, .ref no, .ref 7, .int (nI bits), .int (nI bound), .int (nI vs.length), .int (nI p)]))) ∧ S.length = 12 ∧ vs.length ≤ 12 ∧ ∀ i v, vs[i]? = some v → ∃ a, S[vs.length - 1 - i]? = some (.ref a) ∧ zVal h v (.inl a)
section MC
variable {xs : List Value} {d m sk bits bound p a : Nat} {h h' : zH} {S : List Value} {vs : List Term} {v : Term} {Q : zO → zH → Prop}
theorem zrh_own {k c : Nat} {fs : List Value} (hs : zown h sk = some zHid) (hk : zown h k = some (.inr (c, fs))) : zown (zrh h sk S) k = some (.inr (c, fs)) := (zown_l hs hk (fun z => by cases z)).2
theorem zrh_arr (hs : zown h sk = some zHid) : zown (zrh h sk S) sk = some (.inl (8, S)) := zown_put hs
theorem zrh_set (hs : zown h sk = some zHid) {S' : List Value} : zput (zrh h sk S) sk (.inl (8, S')) = zrh h sk S' := zput_put
theorem zrh_put {k c c' : Nat} {fs fs' : List Value} (hs : zown h sk = some zHid) (hk : zown h k = some (.inr (c, fs))) : zput (zrh h sk S) k (.inr (c', fs')) = zrh (zput h k (.inr (c', fs'))) sk S ∧ zown (zput h k (.inr (c', fs'))) sk = some zHid := zput_l hs hk (zown_l (X := zHid) hs hk (fun z => by cases z)).1
theorem zMa_cv {j : Nat} {args : List Value} {R : zO → zH → Prop} (hm : zMa h m sk bits bound vs S p) (g : zG xs d (j, 0, lv_args 0 (zo (some m) :: args), []) (zrh h sk S) R) : zCV xs (d + 1) j 11 (some m) args (zrh h sk S) R := by
  obtain ⟨h1, ⟨no, h2⟩, _⟩ := hm
  exact zX_cv (zrh_own h1 h2) g
/-- a call of what does not know the machine -/
theorem zX_cvh {c j k : Nat} {fs args : List Value} {Q' R : zO → zH → Prop} (hs : zown h sk = some zHid) (hk : zown h k = some (.inr (c, fs))) (g : zG xs d (j, 0, lv_args 0 (zo (some k) :: args), []) h Q') (i : ∀ o h', zown h' sk = some zHid → Q' o h' → R o (zrh h' sk S)) : zCV xs (d + 1) j c (some k) args (zrh h sk S) R := zX_cv (zrh_own hs hk) (zG_hid hs g i)
theorem zX_cah {j : Nat} {args : List Value} {Q' R : zO → zH → Prop} (hs : zown h sk = some zHid) (g : zG xs d (j, 0, lv_args 0 args, []) h Q') (i : ∀ o h', zown h' sk = some zHid → Q' o h' → R o (zrh h' sk S)) : zCall xs (d + 1) j args (zrh h sk S) R := ⟨d, rfl, zG_hid hs g i⟩
/-- cells of values stay when the machine's changes -/
theorem zVal_put {k c : Nat} {fs fs' : List Value} {V : Term} {x : Nat ⊕ List Nat} (hk : zown h k = some (.inr (11, fs))) (hv : zVal h V x) : zVal (zput h k (.inr (11, fs'))) V x := zVal_fr (fun j e hj hc => by
  have : j ≠ k := fun z => by subst z; rw [hk] at hj; cases hj; cases hc
  rw [zown_ne hk this]; exact hj) V x hv
theorem zMa_ex {c s : Nat} (hm : zMa h m sk bits bound vs S p) (he : zEx h h' c s) : zMa h' m sk bits bound vs S p := by
  obtain ⟨h1, ⟨no, h2⟩, h3, h4, h5⟩ := hm
  exact ⟨he.1 _ _ h1, ⟨no, he.1 _ _ h2⟩, h3, h4, fun i v hv => by
    obtain ⟨a, a1, a2⟩ := h5 i v hv
    exact ⟨a, a1, zVal_ex he.1 _ _ a2⟩⟩
end MC
section MC2
variable {xs : List Value} {d m sk bits bound p a : Nat} {h h' : zH} {S : List Value} {vs : List Term} {v : Term} {Q : zO → zH → Prop}
theorem nI_sub (a b : Nat) : nI (a + b) - nI b = nI a := by
  rw [← nI_add]; exact Int32.add_sub_cancel _ _
theorem zrh_len : Int32.ofNat 12 = nI 12 := rfl
/-- the machine's cell with another size, or more paid -/
theorem zMa_put {vs' : List Term} {p' : Nat} {S' : List Value} {no : Nat} (hm : zMa h m sk bits bound vs S p) (h2 : zown h m = some (.inr (11, [.ref sk, .ref no, .ref 7, .int (nI bits), .int (nI bound), .int (nI vs.length), .int (nI p)]))) (hS : S'.length = 12) (hl : vs'.length ≤ 12) (hv : ∀ i v, vs'[i]? = some v → ∃ a, S'[vs'.length - 1 - i]? = some (.ref a) ∧ zVal h v (.inl a)) :
    zMa (zput h m (.inr (11, [.ref sk, .ref no, .ref 7, .int (nI bits), .int (nI bound), .int (nI vs'.length), .int (nI p')]))) m sk bits bound vs' S' p' := by
  refine ⟨(zrh_put (S := S) hm.1 h2).2, ⟨no, zown_put h2⟩, hS, hl, fun i v hi => ?_⟩
  obtain ⟨a, a1, a2⟩ := hv i v hi
  exact ⟨a, a1, zVal_put (c := 11) h2 a2⟩
theorem zc98 (hm : zMa h m sk bits bound vs S p) (hv : zVal h v (.inl a)) (hn : vs.length < 12) (g : ∀ h' S', zCe [m] h h' 0 0 → zMa h' m sk bits bound (v :: vs) S' p → Q (.inl none) (zrh h' sk S')) : zG xs d (98, 0, lv_args 0 [zo (some m), zo (some a)], []) (zrh h sk S) Q := by
  obtain ⟨no, h2⟩ := hm.2.1
  have h3 := zrh_own (S := S) hm.1 h2
  have hS := hm.2.2.1
  obtain ⟨fs, hc⟩ := zVal_cls v _ hv a rfl
  have hh := zrh_arr (S := S) hm.1
  apply zm_98
  refine zX_gi h3 rfl (zX_gr h3 rfl ⟨sk, 8, S, rfl, zarr_own hh, by decide, ⟨fun _ => ?_, fun z => ?_⟩⟩)
  · refine zX_gr h3 rfl (zX_gi h3 rfl ⟨sk, 8, S, rfl, hh, by decide, nI_pos (by omega), by rw [nI_clamp (by omega)]; omega, Or.inr ⟨a, 3, fs, rfl, zrh_own hm.1 hc, by decide⟩, ?_⟩)
    rw [nI_clamp (by omega), zrh_set hm.1]
    have h4 := zrh_own (S := S.set vs.length (zo (some a))) hm.1 h2
    refine zX_gi h4 rfl (zX_pf h4 (by show 5 < 7; omega) ?_)
    rw [nI_1]
    rw [(zrh_put hm.1 h2).1]
    refine g _ _ (zCe_put h2 List.mem_cons_self) (zMa_put (vs' := v :: vs) (p' := p) (S' := S.set vs.length (zo (some a))) hm h2 (by rw [List.length_set]; exact hS) (by show vs.length + 1 ≤ 12; omega) (fun i w hi => ?_))
    cases i with
    | zero =>
      cases hi
      refine ⟨a, ?_, hv⟩
      show (S.set vs.length (zo (some a)))[vs.length + 1 - 1 - 0]? = _
      rw [show vs.length + 1 - 1 - 0 = vs.length by omega, List.getElem?_set_self (by omega)]
      rfl
    | succ i =>
      have hi : vs[i]? = some w := hi
      obtain ⟨b, b1, b2⟩ := hm.2.2.2.2 i w hi
      have hl := (List.getElem?_eq_some_iff.mp hi).1
      refine ⟨b, ?_, b2⟩
      show (S.set vs.length (zo (some a)))[vs.length + 1 - 1 - (i + 1)]? = _
      rw [List.getElem?_set_ne (by omega), ← b1]
      congr 1
      omega
  · exfalso
    apply z
    rw [hS]
    exact nI_lt (by omega) (by omega)
theorem zc101 {i : Nat} (hm : zMa h m sk bits bound vs S p) (hi : vs[i]? = some v) (g : ∀ a, zVal h v (.inl a) → Q (.inl (some (.ref a))) (zrh h sk S)) : zG xs d (101, 0, lv_args 0 [zo (some m), .int (nI i)], []) (zrh h sk S) Q := by
  obtain ⟨no, h2⟩ := hm.2.1
  have h3 := zrh_own (S := S) hm.1 h2
  have hS := hm.2.2.1
  have hl := (List.getElem?_eq_some_iff.mp hi).1
  have hn := hm.2.2.2.1
  have hh := zrh_arr (S := S) hm.1
  obtain ⟨a, a1, a2⟩ := hm.2.2.2.2 i v hi
  apply zm_101
  refine zX_gi h3 rfl (fun x5 hx => ?_)
  have e : x5 = nI (vs.length - 1 - i) := by
    rw [hx, show nI vs.length = nI (vs.length - 1 + 1) by congr 1; omega, nI_pred, show vs.length - 1 = vs.length - 1 - i + i by omega, nI_sub]
    congr 1
    omega
  subst e
  refine ⟨fun z => absurd z (nI_pos (by omega)), fun _ => zX_gr h3 rfl ⟨sk, 8, S, rfl, zarr_own hh, by decide, ⟨fun _ => ?_, fun z => ?_⟩⟩⟩
  · refine zX_gr h3 rfl ⟨sk, 8, S, some a, rfl, hh, by decide, nI_pos (by omega), by rw [nI_clamp (by omega)]; exact a1, ⟨fun z => (by cases z), fun _ => zX_gr h3 rfl ⟨sk, 8, S, some a, rfl, hh, by decide, nI_pos (by omega), by rw [nI_clamp (by omega)]; exact a1, g a a2⟩⟩⟩
  · exfalso
    apply z
    rw [hS]
    exact nI_lt (by omega) (by omega)
theorem zc103 (hm : zMa h m sk bits bound (v :: vs) S p) (g : ∀ a h', zCe [m] h h' 0 0 → zMa h' m sk bits bound vs S p → zVal h' v (.inl a) → Q (.inl (some (.ref a))) (zrh h' sk S)) : zG xs (d + 1) (103, 0, lv_args 0 [zo (some m)], []) (zrh h sk S) Q := by
  obtain ⟨no, h2⟩ := hm.2.1
  have h3 := zrh_own (S := S) hm.1 h2
  have hn := hm.2.2.2.1
  have hn : vs.length + 1 ≤ 12 := hn
  apply zm_103
  refine zMa_cv hm (zc101 (i := 0) hm rfl (fun a ha => zKR_v (zX_gi h3 rfl (zX_pf h3 (by show 5 < 7; omega) ?_))))
  have e : (if (0 : Int32) < nI (v :: vs).length - 1 then nI (v :: vs).length - 1 else 0) = nI vs.length := by
    rw [List.length_cons, nI_pred]
    split
    · rfl
    · rename_i q
      have : ¬ 0 < vs.length := fun z => q (nI_lt (a := 0) z (by omega))
      rw [show vs.length = 0 by omega]; rfl
  rw [e, (zrh_put hm.1 h2).1]
  refine g a _ (zCe_put h2 List.mem_cons_self) (zMa_put (p' := p) hm h2 hm.2.2.1 (by omega) (fun i w hi => ?_)) (zVal_put (c := 11) h2 ha)
  obtain ⟨b, b1, b2⟩ := hm.2.2.2.2 (i + 1) w hi
  refine ⟨b, ?_, b2⟩
  rw [← b1]
  congr 1
  show vs.length - 1 - i = vs.length + 1 - 1 - (i + 1)
  omega
/-- the heap behind a throw -/
def zth (h : zH) : zH := (h.1, h.2.1 + 1, h.2.2 + 6)
theorem zth_ce {T : List Nat} : zCe T h (zth h) 1 6 := ⟨fun _ _ _ q => q, Nat.le_refl _, Nat.le_refl _, Nat.le_refl _⟩
theorem zth_rh : zth (zrh h sk S) = zrh (zth h) sk S := rfl
theorem zMa_th (hm : zMa h m sk bits bound vs S p) : zMa (zth h) m sk bits bound vs S p := ⟨hm.1, hm.2.1, hm.2.2.1, hm.2.2.2.1, fun i v hv => by
  obtain ⟨a, a1, a2⟩ := hm.2.2.2.2 i v hv
  exact ⟨a, a1, zVal_ex (h := h) (h' := zth h) (fun _ _ q => q) _ _ a2⟩⟩
theorem zc102 {c : Nat} (hd : 8 ≤ d) (hm : zMa h m sk bits bound vs S p) (hb : p + c < 100000 ∧ bound < 100000) (g1 : p + c ≤ bound → ∀ h', zCe [m] h h' 0 0 → zMa h' m sk bits bound vs S (p + c) → Q (.inl none) (zrh h' sk S)) (g2 : ¬ p + c ≤ bound → Q (.inr 1) (zrh (zth h) sk S)) : zG xs d (102, 0, lv_args 0 [zo (some m), .int (nI c)], []) (zrh h sk S) Q := by
  obtain ⟨no, h2⟩ := hm.2.1
  have h3 := zrh_own (S := S) hm.1 h2
  apply zm_102
  refine zX_gi h3 rfl (zX_gi h3 rfl ?_)
  rw [nI_add]
  refine ⟨fun z => ⟨hd, ?_⟩, fun z => zX_gi h3 rfl (zX_pf h3 (by show 6 < 7; omega) ?_)⟩
  · have := (nI_ltI (by omega) (by omega)).mp z
    exact g2 (by omega)
  · have : ¬ bound < p + c := fun q => z ((nI_ltI (by omega) (by omega)).mpr q)
    rw [nI_add, (zrh_put hm.1 h2).1]
    exact g1 (by omega) _ (zCe_put h2 List.mem_cons_self) (zMa_put (p' := p + c) hm h2 hm.2.2.1 hm.2.2.2.1 hm.2.2.2.2)
end MC2
/-- what makes a value -/
def zMkv (xs : List Value) (d j : Nat) (args : List Value) (h : zH) (v : Term) (c s : Nat) : Prop := ∀ R : zO → zH → Prop, (∀ h' a, zEx h h' c s → zVal h' v (.inl a) → R (.inl (some (.ref a))) h') → zG xs d (j, 0, lv_args 0 args, []) h R
section MC3
variable {xs : List Value} {d m sk bits bound p a b c s j : Nat} {h h' : zH} {S : List Value} {vs : List Term} {v w : Term} {Q : zO → zH → Prop} {args : List Value} {E : Nat → zH → Prop}
theorem zVal_ce {V : Term} {x : Nat ⊕ List Nat} (hm : zMa h m sk bits bound vs S p) (hc : zCe [m] h h' c s) (hv : zVal h V x) : zVal h' V x := by
  obtain ⟨no, h2⟩ := hm.2.1
  exact zVal_fr (fun k e hk he => hc.1 k e (fun z => by
    rw [List.mem_singleton.mp z, h2] at hk; cases hk; cases he) hk) V x hv
theorem zce_t {c' s' : Nat} {h2 : zH} (a : zCe [m] h h' c s) (b : zCe [m] h' h2 c' s') : zCe [m] h h2 (c + c') (s + s') := zCe_trans a b (fun _ z => z) (fun _ z => Or.inl z)
theorem zQpop {K : zP → zH → Prop} (hm : zMa h m sk bits bound (v :: vs) S p) (g : ∀ a h', zCe [m] h h' 0 0 → zMa h' m sk bits bound vs S p → zVal h' v (.inl a) → K (some a) (zrh h' sk S)) : zCV xs (d + 2) 103 11 (some m) [] (zrh h sk S) (zKR K E) := zMa_cv hm (zc103 hm (fun a h' h1 h2 h3 => zKR_v (g a h' h1 h2 h3)))
theorem zQpush {K : zH → Prop} (hm : zMa h m sk bits bound vs S p) (hv : zVal h v (.inl a)) (hn : vs.length < 12) (g : ∀ h' S', zCe [m] h h' 0 0 → zMa h' m sk bits bound (v :: vs) S' p → K (zrh h' sk S')) : zCV xs (d + 1) 98 11 (some m) [zo (some a)] (zrh h sk S) (zKV K E) := zMa_cv hm (zc98 hm hv hn (fun h' S' h1 h2 => zKV_v (g h' S' h1 h2)))
/-- a value is made -/
theorem zQs {K : zP → zH → Prop} (hm : zMa h m sk bits bound vs S p) (mk : zMkv xs d j args h v c s) (g : ∀ a h', zEx h h' c s → zMa h' m sk bits bound vs S p → zVal h' v (.inl a) → K (some a) (zrh h' sk S)) : zCall xs (d + 1) j args (zrh h sk S) (zKR K E) :=
  zX_cah (Q' := fun o h' => ∃ a, o = .inl (some (.ref a)) ∧ zEx h h' c s ∧ zVal h' v (.inl a)) hm.1 (mk _ (fun h' a h1 h2 => ⟨a, rfl, h1, h2⟩)) (fun o h' hs hq => by
    obtain ⟨a, rfl, h1, h2⟩ := hq
    exact zKR_v (g a h' h1 (zMa_ex hm h1) h2))
theorem zQv {K : zP → zH → Prop} {k cl : Nat} {fs : List Value} (hm : zMa h m sk bits bound vs S p) (hk : zown h k = some (.inr (cl, fs))) (mk : zMkv xs d j (zo (some k) :: args) h v c s) (g : ∀ a h', zEx h h' c s → zMa h' m sk bits bound vs S p → zVal h' v (.inl a) → K (some a) (zrh h' sk S)) : zCV xs (d + 1) j cl (some k) args (zrh h sk S) (zKR K E) :=
  zX_cvh (Q' := fun o h' => ∃ a, o = .inl (some (.ref a)) ∧ zEx h h' c s ∧ zVal h' v (.inl a)) hm.1 hk (mk _ (fun h' a h1 h2 => ⟨a, rfl, h1, h2⟩)) (fun o h' hs hq => by
    obtain ⟨a, rfl, h1, h2⟩ := hq
    exact zKR_v (g a h' h1 (zMa_ex hm h1) h2))
/-- what tells an int, the heap staying -/
theorem zQi {K : Int32 → zH → Prop} {k cl : Nat} {fs : List Value} {x : Int32} (hm : zMa h m sk bits bound vs S p) (hk : zown h k = some (.inr (cl, fs))) (mk : ∀ R : zO → zH → Prop, R (.inl (some (.int x))) h → zG xs d (j, 0, lv_args 0 (zo (some k) :: args), []) h R) (g : K x (zrh h sk S)) : zCV xs (d + 1) j cl (some k) args (zrh h sk S) (zKI K E) :=
  zX_cvh (Q' := fun o h' => o = .inl (some (.int x)) ∧ h' = h) hm.1 hk (mk _ ⟨rfl, rfl⟩) (fun o h' hs hq => by
    obtain ⟨rfl, rfl⟩ := hq
    exact zKI_v g)
theorem zQgi {K : Int32 → Prop} {k cl jj : Nat} {fs : List Value} {x : Int32} (hm : zMa h m sk bits bound vs S p) (hk : zown h k = some (.inr (cl, fs))) (hv : fs[jj]? = some (.int x)) (g : K x) : zGI (some k) cl jj (zrh h sk S) K := zX_gi (zrh_own hm.1 hk) hv g
theorem zQgr {K : zP → Prop} {k cl jj x : Nat} {fs : List Value} (hm : zMa h m sk bits bound vs S p) (hk : zown h k = some (.inr (cl, fs))) (hv : fs[jj]? = some (.ref x)) (g : K (some x)) : zGR (some k) cl jj (zrh h sk S) K := zX_gr (zrh_own hm.1 hk) hv g
/-! makers -/
theorem zmk43_0 {k : Nat} (hk : k < 256) : zMkv xs (d + 1) 43 [.int (nI k), zo none, zo none] h (.arg k) 1 7 := fun R g => zc43 (p := none) (q := none) (g _ _ zEx_add ⟨zown_new, hk⟩)
theorem zmk43_1 {k : Nat} (hk : k < 256) (hv : zVal h v (.inl a)) : zMkv xs (d + 1) 43 [.int (nI k), zo (some a), zo none] h (.div (.arg k) v) 1 7 := fun R g => zc43 (p := some a) (q := none) (g _ _ zEx_add ⟨a, zown_new, hk, zVal_ex zEx_add.1 _ _ hv⟩)
theorem zmk43_2 {k : Nat} (hk : k < 256) (hv : zVal h v (.inl a)) (hw : zVal h w (.inl b)) : zMkv xs (d + 1) 43 [.int (nI k), zo (some a), zo (some b)] h (.add (.div (.arg k) v) w) 1 7 := fun R g => zc43 (p := some a) (q := some b) (g _ _ zEx_add ⟨a, b, zown_new, hk, zVal_ex zEx_add.1 _ _ hv, zVal_ex zEx_add.1 _ _ hw⟩)
theorem zmk131 : zMkv xs (d + 2) 131 [] h (.arg 24) 1 7 := fun R g => zc131 (g _ _ zEx_add ⟨zown_new, by decide⟩)
theorem zmk136 (hv : zVal h v (.inl a)) : zMkv xs (d + 2) 136 [zo (some a)] h (.div (.arg 25) v) 1 7 := fun R g => zc136 (g _ _ zEx_add ⟨a, zown_new, by decide, zVal_ex zEx_add.1 _ _ hv⟩)
theorem zmk44 : zMkv xs (d + 2) 44 [] h (.old .null) 2 7 := fun R g => zc44 (fun h' h1 h2 => g h' _ h1 ((zRv_val (L := [])).mpr ⟨[], h2, (zVal_enc [] []).mp rfl⟩))
theorem zmk123 {t : Bool} : zMkv xs (d + 2) 123 [.int (zB t)] h (ztr t) 1 7 := fun R g => zc123 (g _ _ zEx_add (by cases t <;> exact ⟨zown_new, by decide⟩))
theorem zmk34 {sg : Bool} {n : Nat} (hb : zown h b = some (zNc sg n)) (hn : n < 2 ^ 120) (h0 : sg = true → n ≠ 0) : zMkv xs (d + 1) 34 [zo (some b)] h (zmn sg n) 1 7 := fun R g => zc34 (g _ _ zEx_add (by
  refine ⟨b, zown_new, ?_, hn, ?_⟩
  · cases sg <;> exact zown_add hb
  · cases sg
    · exact Or.inl rfl
    · exact Or.inr ⟨rfl, h0 rfl⟩))
theorem zmk12 {k : Nat} (hv : zVal h (.div (.arg k) v) (.inl a)) : zMkv xs d 12 [zo (some a)] h v 0 0 := fun R g => by
  obtain ⟨b, h1, h2, h3⟩ := hv
  exact zc12 h1 (g h b (zEx_refl h) h3)
theorem zmk12p {k : Nat} (hv : zVal h (.add (.div (.arg k) v) w) (.inl a)) : zMkv xs d 12 [zo (some a)] h v 0 0 := fun R g => by
  obtain ⟨b, e, h1, h2, h3, h4⟩ := hv
  exact zc12 h1 (g h b (zEx_refl h) h3)
theorem zmk81 {k : Nat} (hv : zVal h (.add (.div (.arg k) v) w) (.inl a)) : zMkv xs d 81 [zo (some a)] h w 0 0 := fun R g => by
  obtain ⟨b, e, h1, h2, h3, h4⟩ := hv
  exact zc81 h1 (g h e (zEx_refl h) h4)
end MC3
/-! arrange -/
def zPs (h : zH) (m sk bits bound p : Nat) (W : List Term) (c s : Nat) (Q : zO → zH → Prop) : Prop := ∀ h' S', zCe [m] h h' c s → zMa h' m sk bits bound W S' p → Q (.inl none) (zrh h' sk S')
section MC4
variable {xs : List Value} {d m sk bits bound p a b c s j l : Nat} {h h' : zH} {S : List Value} {W : List Term} {v w : Term} {Q : zO → zH → Prop} {x1 x2 x3 x4 : Value}
theorem zcex {c s : Nat} (a : zEx h h' c s) : zCe [m] h h' c s := zCe_ex a
theorem zc143_30  (hm : zMa h m sk bits bound (v :: W) S p) (hl : zown h l = some (.inr (9, [.int (nI 30), x1, x2, x3, x4]))) (g : zPs h m sk bits bound p (W) 0 0 Q) : zG xs (d + 6) (143, 0, lv_args 0 [zo (some m), zo (some l)], []) (zrh h sk S) Q := by
  apply zm_143
  refine zQgi hm hl rfl ?_
  exact ⟨fun _ => zQpop hm (fun a h1 e1 m1 v1 => g _ _ e1 m1), fun z => absurd z (by decide), fun z => absurd z (by decide), fun z => absurd z (by decide), fun z => absurd z (by decide), fun z => absurd z (by decide), fun z => absurd z (by decide), fun z => absurd z (by decide), fun z => absurd z (by decide), fun z => absurd z (by decide), fun z => absurd z (by decide), fun z => absurd z (by decide), fun z => absurd rfl (z.1)⟩
theorem zc143_31  (hm : zMa h m sk bits bound (v :: W) S p) (hl : zown h l = some (.inr (9, [.int (nI 31), x1, x2, x3, x4]))) (hn : (v :: W).length < 12) (g : zPs h m sk bits bound p (v :: v :: W) 0 0 Q) : zG xs (d + 6) (143, 0, lv_args 0 [zo (some m), zo (some l)], []) (zrh h sk S) Q := by
  apply zm_143
  refine zQgi hm hl rfl ?_
  exact ⟨fun z => absurd z (by decide), fun _ => zMa_cv hm (zc101 (i := 0) hm rfl (fun a ha => zKR_v (zQpush hm ha hn (fun h2 S2 e2 m2 => g _ _ e2 m2)))), fun z => absurd z (by decide), fun z => absurd z (by decide), fun z => absurd z (by decide), fun z => absurd z (by decide), fun z => absurd z (by decide), fun z => absurd z (by decide), fun z => absurd z (by decide), fun z => absurd z (by decide), fun z => absurd z (by decide), fun z => absurd z (by decide), fun z => absurd rfl (z.2.1)⟩
theorem zc143_34  (hm : zMa h m sk bits bound (W) S p) (hl : zown h l = some (.inr (9, [.int (nI 34), x1, .ref a, x3, x4]))) (hv : zVal h v (.inl a)) (hn : W.length < 12) (g : zPs h m sk bits bound p (v :: W) 0 0 Q) : zG xs (d + 6) (143, 0, lv_args 0 [zo (some m), zo (some l)], []) (zrh h sk S) Q := by
  apply zm_143
  refine zQgi hm hl rfl ?_
  exact ⟨fun z => absurd z (by decide), fun z => absurd z (by decide), fun _ => zQgr hm hl rfl (zQpush hm hv hn (fun h2 S2 e2 m2 => g _ _ e2 m2)), fun z => absurd z (by decide), fun z => absurd z (by decide), fun z => absurd z (by decide), fun z => absurd z (by decide), fun z => absurd z (by decide), fun z => absurd z (by decide), fun z => absurd z (by decide), fun z => absurd z (by decide), fun z => absurd z (by decide), fun z => absurd rfl (z.2.2.1)⟩
theorem zc143_35  (hm : zMa h m sk bits bound (W) S p) (hl : zown h l = some (.inr (9, [.int (nI 35), x1, x2, x3, x4]))) (hn : W.length < 12) (g : zPs h m sk bits bound p (.arg 20 :: W) 1 7 Q) : zG xs (d + 6) (143, 0, lv_args 0 [zo (some m), zo (some l)], []) (zrh h sk S) Q := by
  apply zm_143
  refine zQgi hm hl rfl ?_
  exact ⟨fun z => absurd z (by decide), fun z => absurd z (by decide), fun z => absurd z (by decide), fun _ => zQs hm (zmk43_0 (k := 20) (by decide)) (fun a h1 e1 m1 v1 => zQpush m1 v1 hn (fun h2 S2 e2 m2 => g _ _ (zce_t (zcex e1) e2) m2)), fun z => absurd z (by decide), fun z => absurd z (by decide), fun z => absurd z (by decide), fun z => absurd z (by decide), fun z => absurd z (by decide), fun z => absurd z (by decide), fun z => absurd z (by decide), fun z => absurd z (by decide), fun z => absurd rfl (z.2.2.2.1)⟩
theorem zc143_37 {k : Nat} (hm : zMa h m sk bits bound (.add (.div (.arg k) v) w :: W) S p) (hl : zown h l = some (.inr (9, [.int (nI 37), x1, x2, x3, x4]))) (g : zPs h m sk bits bound p (v :: W) 0 0 Q) : zG xs (d + 6) (143, 0, lv_args 0 [zo (some m), zo (some l)], []) (zrh h sk S) Q := by
  apply zm_143
  refine zQgi hm hl rfl ?_
  exact ⟨fun z => absurd z (by decide), fun z => absurd z (by decide), fun z => absurd z (by decide), fun z => absurd z (by decide), fun _ => zQpop hm (fun a h1 e1 m1 v1 => by
    obtain ⟨fs, hc⟩ := zVal_cls _ _ v1 a rfl
    exact zQv m1 hc (zmk12p v1) (fun b h2 e2 m2 v2 => zQpush m2 v2 (by have := hm.2.2.2.1; rw [List.length_cons] at this; omega) (fun h3 S3 e3 m3 => g _ _ (zce_t (zce_t e1 (zcex e2)) e3) m3))), fun z => absurd z (by decide), fun z => absurd z (by decide), fun z => absurd z (by decide), fun z => absurd z (by decide), fun z => absurd z (by decide), fun z => absurd z (by decide), fun z => absurd z (by decide), fun z => absurd rfl (z.2.2.2.2.1)⟩
theorem zc143_38 {k : Nat} (hm : zMa h m sk bits bound (.add (.div (.arg k) v) w :: W) S p) (hl : zown h l = some (.inr (9, [.int (nI 38), x1, x2, x3, x4]))) (g : zPs h m sk bits bound p (w :: W) 0 0 Q) : zG xs (d + 6) (143, 0, lv_args 0 [zo (some m), zo (some l)], []) (zrh h sk S) Q := by
  apply zm_143
  refine zQgi hm hl rfl ?_
  exact ⟨fun z => absurd z (by decide), fun z => absurd z (by decide), fun z => absurd z (by decide), fun z => absurd z (by decide), fun z => absurd z (by decide), fun _ => zQpop hm (fun a h1 e1 m1 v1 => by
    obtain ⟨fs, hc⟩ := zVal_cls _ _ v1 a rfl
    exact zQv m1 hc (zmk81 v1) (fun b h2 e2 m2 v2 => zQpush m2 v2 (by have := hm.2.2.2.1; rw [List.length_cons] at this; omega) (fun h3 S3 e3 m3 => g _ _ (zce_t (zce_t e1 (zcex e2)) e3) m3))), fun z => absurd z (by decide), fun z => absurd z (by decide), fun z => absurd z (by decide), fun z => absurd z (by decide), fun z => absurd z (by decide), fun z => absurd z (by decide), fun z => absurd rfl (z.2.2.2.2.2.1)⟩
theorem zc143_39  (hm : zMa h m sk bits bound (v :: W) S p) (hl : zown h l = some (.inr (9, [.int (nI 39), x1, x2, x3, x4]))) (g : zPs h m sk bits bound p (.div (.arg 25) v :: W) 1 7 Q) : zG xs (d + 6) (143, 0, lv_args 0 [zo (some m), zo (some l)], []) (zrh h sk S) Q := by
  apply zm_143
  refine zQgi hm hl rfl ?_
  exact ⟨fun z => absurd z (by decide), fun z => absurd z (by decide), fun z => absurd z (by decide), fun z => absurd z (by decide), fun z => absurd z (by decide), fun z => absurd z (by decide), fun _ => zQpop hm (fun a h1 e1 m1 v1 => zQs m1 (zmk136 v1) (fun b h2 e2 m2 v2 => zQpush m2 v2 (by have := hm.2.2.2.1; rw [List.length_cons] at this; omega) (fun h3 S3 e3 m3 => g _ _ (zce_t (zce_t e1 (zcex e2)) e3) m3))), fun z => absurd z (by decide), fun z => absurd z (by decide), fun z => absurd z (by decide), fun z => absurd z (by decide), fun z => absurd z (by decide), fun z => absurd rfl (z.2.2.2.2.2.2.1)⟩
theorem zc143_40  (hm : zMa h m sk bits bound (W) S p) (hl : zown h l = some (.inr (9, [.int (nI 40), x1, x2, x3, x4]))) (hn : W.length < 12) (g : zPs h m sk bits bound p (.arg 24 :: W) 1 7 Q) : zG xs (d + 6) (143, 0, lv_args 0 [zo (some m), zo (some l)], []) (zrh h sk S) Q := by
  apply zm_143
  refine zQgi hm hl rfl ?_
  exact ⟨fun z => absurd z (by decide), fun z => absurd z (by decide), fun z => absurd z (by decide), fun z => absurd z (by decide), fun z => absurd z (by decide), fun z => absurd z (by decide), fun z => absurd z (by decide), fun _ => zQs hm zmk131 (fun a h1 e1 m1 v1 => zQpush m1 v1 hn (fun h2 S2 e2 m2 => g _ _ (zce_t (zcex e1) e2) m2)), fun z => absurd z (by decide), fun z => absurd z (by decide), fun z => absurd z (by decide), fun z => absurd z (by decide), fun z => absurd rfl (z.2.2.2.2.2.2.2.1)⟩
theorem zc143_42  (hm : zMa h m sk bits bound (v :: W) S p) (hl : zown h l = some (.inr (9, [.int (nI 42), x1, x2, x3, x4]))) (g : zPs h m sk bits bound p (.div (.arg 26) v :: W) 1 7 Q) : zG xs (d + 6) (143, 0, lv_args 0 [zo (some m), zo (some l)], []) (zrh h sk S) Q := by
  apply zm_143
  refine zQgi hm hl rfl ?_
  exact ⟨fun z => absurd z (by decide), fun z => absurd z (by decide), fun z => absurd z (by decide), fun z => absurd z (by decide), fun z => absurd z (by decide), fun z => absurd z (by decide), fun z => absurd z (by decide), fun z => absurd z (by decide), fun _ => zQpop hm (fun a h1 e1 m1 v1 => zQs m1 (zmk43_1 (k := 26) (by decide) v1) (fun b h2 e2 m2 v2 => zQpush m2 v2 (by have := hm.2.2.2.1; rw [List.length_cons] at this; omega) (fun h3 S3 e3 m3 => g _ _ (zce_t (zce_t e1 (zcex e2)) e3) m3))), fun z => absurd z (by decide), fun z => absurd z (by decide), fun z => absurd z (by decide), fun z => absurd rfl (z.2.2.2.2.2.2.2.2.1)⟩
theorem zc143_43  (hm : zMa h m sk bits bound (v :: W) S p) (hl : zown h l = some (.inr (9, [.int (nI 43), x1, x2, x3, x4]))) (g : zPs h m sk bits bound p (.div (.arg 27) v :: W) 1 7 Q) : zG xs (d + 6) (143, 0, lv_args 0 [zo (some m), zo (some l)], []) (zrh h sk S) Q := by
  apply zm_143
  refine zQgi hm hl rfl ?_
  exact ⟨fun z => absurd z (by decide), fun z => absurd z (by decide), fun z => absurd z (by decide), fun z => absurd z (by decide), fun z => absurd z (by decide), fun z => absurd z (by decide), fun z => absurd z (by decide), fun z => absurd z (by decide), fun z => absurd z (by decide), fun _ => zQpop hm (fun a h1 e1 m1 v1 => zQs m1 (zmk43_1 (k := 27) (by decide) v1) (fun b h2 e2 m2 v2 => zQpush m2 v2 (by have := hm.2.2.2.1; rw [List.length_cons] at this; omega) (fun h3 S3 e3 m3 => g _ _ (zce_t (zce_t e1 (zcex e2)) e3) m3))), fun z => absurd z (by decide), fun z => absurd z (by decide), fun z => absurd rfl (z.2.2.2.2.2.2.2.2.2.1)⟩
theorem zc143_45  (hm : zMa h m sk bits bound (W) S p) (hl : zown h l = some (.inr (9, [.int (nI 45), x1, x2, x3, x4]))) (hn : W.length < 12) (g : zPs h m sk bits bound p (.old .null :: W) 2 7 Q) : zG xs (d + 6) (143, 0, lv_args 0 [zo (some m), zo (some l)], []) (zrh h sk S) Q := by
  apply zm_143
  refine zQgi hm hl rfl ?_
  exact ⟨fun z => absurd z (by decide), fun z => absurd z (by decide), fun z => absurd z (by decide), fun z => absurd z (by decide), fun z => absurd z (by decide), fun z => absurd z (by decide), fun z => absurd z (by decide), fun z => absurd z (by decide), fun z => absurd z (by decide), fun z => absurd z (by decide), fun _ => zQs hm zmk44 (fun a h1 e1 m1 v1 => zQpush m1 v1 hn (fun h2 S2 e2 m2 => g _ _ (zce_t (zcex e1) e2) m2)), fun z => absurd z (by decide), fun z => absurd (Or.inl rfl) (z.2.2.2.2.2.2.2.2.2.2.1)⟩
theorem zc143_51  (hm : zMa h m sk bits bound (W) S p) (hl : zown h l = some (.inr (9, [.int (nI 51), x1, x2, x3, x4]))) (hn : W.length < 12) (g : zPs h m sk bits bound p (.old .null :: W) 2 7 Q) : zG xs (d + 6) (143, 0, lv_args 0 [zo (some m), zo (some l)], []) (zrh h sk S) Q := by
  apply zm_143
  refine zQgi hm hl rfl ?_
  exact ⟨fun z => absurd z (by decide), fun z => absurd z (by decide), fun z => absurd z (by decide), fun z => absurd z (by decide), fun z => absurd z (by decide), fun z => absurd z (by decide), fun z => absurd z (by decide), fun z => absurd z (by decide), fun z => absurd z (by decide), fun z => absurd z (by decide), fun _ => zQs hm zmk44 (fun a h1 e1 m1 v1 => zQpush m1 v1 hn (fun h2 S2 e2 m2 => g _ _ (zce_t (zcex e1) e2) m2)), fun z => absurd z (by decide), fun z => absurd (Or.inr rfl) (z.2.2.2.2.2.2.2.2.2.2.1)⟩
end MC4
/-- what makes an object of which P is known -/
def zMkp (xs : List Value) (d j : Nat) (args : List Value) (h : zH) (P : zH → Nat → Prop) (c s : Nat) : Prop := ∀ R : zO → zH → Prop, (∀ h' a, zEx h h' c s → P h' a → R (.inl (some (.ref a))) h') → zG xs d (j, 0, lv_args 0 args, []) h R
def zNo (s : Bool) (n : Nat) (h : zH) (b : Nat) : Prop := zown h b = some (zNc s n)
section MC5
variable {xs : List Value} {d m sk bits bound p a b c sl j l n k : Nat} {h h' : zH} {S : List Value} {W : List Term} {v w : Term} {Q : zO → zH → Prop} {args : List Value} {E : Nat → zH → Prop} {P : zH → Nat → Prop} {s t : Bool}
theorem zQsp {K : zP → zH → Prop} (hm : zMa h m sk bits bound W S p) (mk : zMkp xs d j args h P c sl) (g : ∀ a h', zEx h h' c sl → zMa h' m sk bits bound W S p → P h' a → K (some a) (zrh h' sk S)) : zCall xs (d + 1) j args (zrh h sk S) (zKR K E) :=
  zX_cah (Q' := fun o h' => ∃ a, o = .inl (some (.ref a)) ∧ zEx h h' c sl ∧ P h' a) hm.1 (mk _ (fun h' a h1 h2 => ⟨a, rfl, h1, h2⟩)) (fun o h' hs hq => by
    obtain ⟨a, rfl, h1, h2⟩ := hq
    exact zKR_v (g a h' h1 (zMa_ex hm h1) h2))
theorem zQvp {K : zP → zH → Prop} {k cl : Nat} {fs : List Value} (hm : zMa h m sk bits bound W S p) (hk : zown h k = some (.inr (cl, fs))) (mk : zMkp xs d j (zo (some k) :: args) h P c sl) (g : ∀ a h', zEx h h' c sl → zMa h' m sk bits bound W S p → P h' a → K (some a) (zrh h' sk S)) : zCV xs (d + 1) j cl (some k) args (zrh h sk S) (zKR K E) :=
  zX_cvh (Q' := fun o h' => ∃ a, o = .inl (some (.ref a)) ∧ zEx h h' c sl ∧ P h' a) hm.1 hk (mk _ (fun h' a h1 h2 => ⟨a, rfl, h1, h2⟩)) (fun o h' hs hq => by
    obtain ⟨a, rfl, h1, h2⟩ := hq
    exact zKR_v (g a h' h1 (zMa_ex hm h1) h2))
theorem zNo_c (hb : zNo s n h b) : ∃ fs, zown h b = some (.inr (5, fs)) := ⟨_, hb⟩
theorem zNo_ce (hm : zMa h m sk bits bound W S p) (hc : zCe [m] h h' c sl) (hb : zNo s n h b) : zNo s n h' b := by
  obtain ⟨no, h2⟩ := hm.2.1
  exact hc.1 b _ (fun z => by rw [List.mem_singleton.mp z, zNo, h2] at hb; cases hb) hb
theorem zNo_v (hv : zVal h (zmn s n) (.inl a)) : ∃ b, zown h a = some (.inr (3, [.int 0, .int 0, .long 0, .ref b, .null, .null, .null])) ∧ zNo s n h b ∧ n < 2 ^ 120 ∧ (s = true → n ≠ 0) := by
  obtain ⟨b, h1, h2, h3, h4⟩ := hv
  refine ⟨b, h1, ?_, h3, fun z => ?_⟩
  · cases s <;> exact h2
  · subst z
    rcases h4 with z | z
    · cases z
    · exact z.2
theorem zmk115 (hv : zVal h (zmn s n) (.inl a)) : zMkp xs d 115 [zo (some a)] h (zNo s n) 0 0 := fun R g => by
  obtain ⟨b, h1, h2, h3, h4⟩ := zNo_v hv
  exact zc115 (s := s) (n := n) (x := .null) (y := .null) h1 (g h b (zEx_refl h) h2)
theorem zmk111 {x : Nat} (hx : x < 2 ^ 31) : zMkp xs (d + 1) 111 [.int (nI x)] h (zNo false x) 1 3 := fun R g => zc111 hx (g _ _ zEx_add zown_new)
theorem zmk111m : zMkp xs (d + 1) 111 [.int (-1)] h (zNo true 1) 1 3 := fun R g => zc111m (g _ _ zEx_add zown_new)
theorem zmk129 (hb : zNo s n h b) (hn : n < 2 ^ 122) : zMkp xs (d + 1) 129 [zo (some b)] h (zNo (!s && n != 0) n) 1 3 := fun R g => zc129 hb hn (g _ _ zEx_add zown_new)
theorem zmk134 (hb : zNo s n h b) (hn : n < 2 ^ 122) : zMkp xs (d + 1) 134 [zo (some b)] h (zNo false n) 1 3 := fun R g => zc134 hb hn (g _ _ zEx_add zown_new)
theorem zmk125 {k : Nat} (hb : zNo s n h b) (ha : zNo t k h a) (hn : n < 2 ^ 121) (hk : k < 2 ^ 121) : zMkp xs (d + 2) 125 [zo (some b), zo (some a)] h (zNo (zsum s n t k).1 (zsum s n t k).2) 1 3 := fun R g => zc125 hb ha hn hk (g _ _ zEx_add zown_new)
theorem zmk130 {k : Nat} (hb : zNo s n h b) (ha : zNo t k h a) (hn : n < 2 ^ 120) (hk : k < 2 ^ 120) : zMkp xs (d + 1) 130 [zo (some b), zo (some a)] h (zNo ((s != t) && zprd n k != 0) (zprd n k)) 1 3 := fun R g => zc130 hb ha hn hk (g _ _ zEx_add zown_new)
/-- sized -/
theorem zc127 (hd : 8 ≤ d) (hm : zMa h m sk bits bound W S p) (hb : zNo s n h b) (hn : n < 2 ^ 122) (hw : 1 ≤ bits ∧ bits ≤ 120) (h0 : s = true → n ≠ 0) (g1 : n < 2 ^ bits → ∀ a h', zEx h h' 1 7 → zMa h' m sk bits bound W S p → zVal h' (zmn s n) (.inl a) → Q (.inl (some (.ref a))) (zrh h' sk S)) (g2 : ¬ n < 2 ^ bits → Q (.inr 3) (zrh (zth h) sk S)) : zG xs (d + 2) (127, 0, lv_args 0 [zo (some m), zo (some b)], []) (zrh h sk S) Q := by
  obtain ⟨no, h2⟩ := hm.2.1
  apply zm_127
  refine zX_gi (zrh_own hm.1 h2) rfl (zQi (x := zB (decide (n < 2 ^ bits))) hm hb (fun R g => zc128 hb hn hw g) ⟨fun z => ⟨by omega, ?_⟩, fun z => ?_⟩)
  · refine g2 (fun q => ?_)
    rw [decide_eq_true q] at z
    exact absurd z (by decide)
  · have q : n < 2 ^ bits := by
      by_cases q : n < 2 ^ bits
      · exact q
      · rw [decide_eq_false q] at z; exact absurd rfl z
    refine zQs (c := 1) (s := 7) (v := zmn s n) hm (zmk34 hb (Nat.lt_of_lt_of_le q (Nat.pow_le_pow_right (by decide) hw.2)) h0) (fun a h' e1 m1 v1 => g1 q a h' e1 m1 v1)
end MC5
/-! numbers -/
def zPx (h : zH) (m sk e : Nat) (c s : Nat) (Q : zO → zH → Prop) : Prop := ∀ h' S', zCe [m] h h' c s → zown h' sk = some zHid → Q (.inr e) (zrh h' sk S')
section MC6
variable {xs : List Value} {d m sk bits bound p a b c sl j l n k : Nat} {h h' : zH} {S : List Value} {W : List Term} {v w : Term} {Q : zO → zH → Prop} {args : List Value} {E : Nat → zH → Prop} {P : zH → Nat → Prop} {s t : Bool}
theorem zQ127 {K : zP → zH → Prop} (hd : 8 ≤ d) (hm : zMa h m sk bits bound W S p) (hb : zNo s n h b) (hn : n < 2 ^ 122) (hw : 1 ≤ bits ∧ bits ≤ 120) (h0 : s = true → n ≠ 0) (g1 : n < 2 ^ bits → ∀ a h', zEx h h' 1 7 → zMa h' m sk bits bound W S p → zVal h' (zmn s n) (.inl a) → K (some a) (zrh h' sk S)) (g2 : ¬ n < 2 ^ bits → E 3 (zrh (zth h) sk S)) : zCV xs (d + 3) 127 11 (some m) [zo (some b)] (zrh h sk S) (zKR K E) :=
  zMa_cv hm (zc127 hd hm hb hn hw h0 (fun q a h' e1 m1 v1 => zKR_v (g1 q a h' e1 m1 v1)) (fun q => g2 q))
theorem zl11 (hm : zMa h m sk bits bound (v :: w :: W) S p) : W.length < 12 := by
  have := hm.2.2.2.1; rw [List.length_cons, List.length_cons] at this; omega
theorem zl10 (hm : zMa h m sk bits bound (v :: W) S p) : W.length < 12 := by
  have := hm.2.2.2.1; rw [List.length_cons] at this; omega
/-- both numbers are off the stack -/
theorem zQ2 {K : zP → zP → zH → Prop} {E1 E2 E3 : Nat → zH → Prop} (hm : zMa h m sk bits bound (zmn s n :: zmn t k :: W) S p)
    (g : ∀ a b h', zCe [m] h h' 0 0 → zMa h' m sk bits bound W S p → zNo s n h' a → zNo t k h' b → n < 2 ^ 120 → k < 2 ^ 120 → (s = true → n ≠ 0) → (t = true → k ≠ 0) → K (some a) (some b) (zrh h' sk S)) :
    zCV xs (d + 2) 103 11 (some m) [] (zrh h sk S) (zKR (fun x1 h2 => zCV xs (d + 2) 115 3 x1 [] h2 (zKR (fun x3 h4 => zCV xs (d + 2) 103 11 (some m) [] h4 (zKR (fun x7 h8 => zCV xs (d + 2) 115 3 x7 [] h8 (zKR (fun x9 h10 => K x3 x9 h10) E1)) E2)) E3)) E) := by
  refine zQpop hm (fun a h1 e1 m1 v1 => ?_)
  obtain ⟨b1, c1, c2, c3, c4⟩ := zNo_v v1
  refine zQvp (d := d + 1) m1 c1 (zmk115 v1) (fun b h2 e2 m2 n2 => zQpop m2 (fun a3 h3 e3 m3 v3 => ?_))
  obtain ⟨b3, k1, k2, k3, k4⟩ := zNo_v v3
  refine zQvp (d := d + 1) m3 k1 (zmk115 v3) (fun b4 h4 e4 m4 n4 => ?_)
  have n3 := zNo_ce m2 e3 n2
  exact g b b4 h4 (zce_t (zce_t (zce_t e1 (zcex e2)) e3) (zcex e4)) m4 (e4.1 _ _ n3) n4 c3 k3 c4 k4
theorem zsum_lt {s t : Bool} {n k : Nat} (hn : n < 2 ^ 120) (hk : k < 2 ^ 120) : (zsum s n t k).2 < 2 ^ 121 := by
  have e : (2 : Nat) ^ 121 = 2 ^ 120 + 2 ^ 120 := by decide
  rw [e]
  unfold zsum
  split
  · show n + k < _; omega
  · split
    · show k - n < _; omega
    · show n - k < _; omega
theorem zsum_n {s t : Bool} {n k : Nat} : zsum s n (!t && k != 0) k = zsum s n (!t) k := by
  by_cases k0 : k = 0
  · subst k0
    unfold zsum
    cases s <;> cases t <;> simp
  · have : (k != 0) = true := by simpa using k0
    rw [this, Bool.and_true]
theorem zp1 : (2 : Nat) ^ 120 < 2 ^ 121 ∧ (2 : Nat) ^ 121 < 2 ^ 122 ∧ (2 : Nat) ^ 120 < 2 ^ 122 := by decide
theorem zc124_60 (hd : 8 ≤ d) (hw : 1 ≤ bits ∧ bits ≤ 120) (hm : zMa h m sk bits bound (zmn s n :: zmn t k :: W) S p) (g1 : (zsum s n t k).2 < 2 ^ bits → zPs h m sk bits bound p (zmn (zsum s n t k).1 (zsum s n t k).2 :: W) 2 10 Q) (g2 : ¬ (zsum s n t k).2 < 2 ^ bits → zPx h m sk 3 2 9 Q) : zG xs (d + 3) (124, 0, lv_args 0 [zo (some m), .int (nI 60)], []) (zrh h sk S) Q := by
  apply zm_124
  refine zQpop (d := d + 1) hm (fun a h1 e1 m1 v1 => ?_)
  obtain ⟨b1, c1, c2, c3, c4⟩ := zNo_v v1
  refine zQvp (d := d + 2) m1 c1 (zmk115 v1) (fun b h2 e2 m2 n2 => ⟨fun _ => zQpop (d := d + 1) m2 (fun a3 h3 e3 m3 v3 => ?_), fun z => absurd z (by decide), fun z => absurd z (by decide), fun z => absurd z (by decide), fun z => absurd z (by decide), fun z => absurd z (by decide), fun z => absurd z (by decide), fun z => absurd rfl z.1⟩)
  obtain ⟨b3, k1, k2, k3, k4⟩ := zNo_v v3
  have n3 := zNo_ce m2 e3 n2
  have p1 := zp1
  refine zQvp (d := d + 2) m3 k1 (zmk115 v3) (fun b4 h4 e4 m4 n4 => zQsp (d := d + 2) m4 (zmk125 (d := d) (e4.1 _ _ n3) n4 (by omega) (by omega)) (fun b5 h5 e5 m5 n5 => ?_))
  have hl := zsum_lt (s := s) (t := t) c3 k3
  have ce := zce_t (zce_t (zce_t (zce_t e1 (zcex e2)) e3) (zcex e4)) (zcex (m := m) e5)
  refine zQ127 hd m5 n5 (by omega) hw zsum_ok.1 (fun q a6 h6 e6 m6 v6 => zQpush m6 v6 (by have := zl11 hm; omega) (fun h7 S7 e7 m7 => g1 q _ _ (zCe_le (zce_t (zce_t ce (zcex e6)) e7) (by omega) (by omega)) m7)) (fun q => g2 q _ _ (zCe_le (zce_t ce zth_ce) (by omega) (by omega)) m5.1)
theorem zc124_61 (hd : 8 ≤ d) (hw : 1 ≤ bits ∧ bits ≤ 120) (hm : zMa h m sk bits bound (zmn s n :: zmn t k :: W) S p) (g1 : (zsum s n (!t) k).2 < 2 ^ bits → zPs h m sk bits bound p (zmn (zsum s n (!t) k).1 (zsum s n (!t) k).2 :: W) 3 13 Q) (g2 : ¬ (zsum s n (!t) k).2 < 2 ^ bits → zPx h m sk 3 3 13 Q) : zG xs (d + 3) (124, 0, lv_args 0 [zo (some m), .int (nI 61)], []) (zrh h sk S) Q := by
  apply zm_124
  refine zQpop (d := d + 1) hm (fun a h1 e1 m1 v1 => ?_)
  obtain ⟨b1, c1, c2, c3, c4⟩ := zNo_v v1
  refine zQvp (d := d + 2) m1 c1 (zmk115 v1) (fun b h2 e2 m2 n2 => ⟨fun z => absurd z (by decide), fun _ => zQpop (d := d + 1) m2 (fun a3 h3 e3 m3 v3 => ?_), fun z => absurd z (by decide), fun z => absurd z (by decide), fun z => absurd z (by decide), fun z => absurd z (by decide), fun z => absurd z (by decide), fun z => absurd rfl z.2.1⟩)
  obtain ⟨b3, k1, k2, k3, k4⟩ := zNo_v v3
  have n3 := zNo_ce m2 e3 n2
  have p1 := zp1
  refine zQvp (d := d + 2) m3 k1 (zmk115 v3) (fun b4 h4 e4 m4 n4 => zQvp (d := d + 2) m4 n4 (zmk129 (d := d + 1) n4 (by omega)) (fun b5 h5 e5 m5 n5 => zQsp (d := d + 2) m5 (zmk125 (d := d) (e5.1 _ _ (e4.1 _ _ n3)) n5 (by omega) (by omega)) (fun b6 h6 e6 m6 n6 => ?_)))
  have hl := zsum_lt (s := s) (t := !t) c3 k3
  have ce := zce_t (zce_t (zce_t (zce_t (zce_t e1 (zcex e2)) e3) (zcex e4)) (zcex (m := m) e5)) (zcex (m := m) e6)
  rw [zsum_n] at n6
  refine zQ127 hd m6 n6 (by omega) hw zsum_ok.1 (fun q a7 h7 e7 m7 v7 => zQpush m7 v7 (by have := zl11 hm; omega) (fun h8 S8 e8 m8 => g1 q _ _ (zCe_le (zce_t (zce_t ce (zcex e7)) e8) (by omega) (by omega)) m8)) (fun q => g2 q _ _ (zCe_le (zce_t ce zth_ce) (by omega) (by omega)) m6.1)
theorem zprd_b {n k : Nat} (hb : bits ≤ 120) : (zprd n k < 2 ^ bits ↔ n * k < 2 ^ bits) ∧ (n * k < 2 ^ bits → zprd n k = n * k) := by
  have hle : (2 : Nat) ^ bits ≤ 2 ^ 120 := Nat.pow_le_pow_right (by decide) hb
  unfold zprd
  split
  · exact ⟨Iff.rfl, fun _ => rfl⟩
  · exact ⟨⟨fun z => by omega, fun z => by omega⟩, fun z => by omega⟩
theorem zc124_62 (hd : 8 ≤ d) (hw : 1 ≤ bits ∧ bits ≤ 120) (hm : zMa h m sk bits bound (zmn s n :: zmn t k :: W) S p) (g1 : n * k < 2 ^ bits → zPs h m sk bits bound p (zmn ((s != t) && (n * k != 0)) (n * k) :: W) 2 10 Q) (g2 : ¬ n * k < 2 ^ bits → zPx h m sk 3 2 9 Q) : zG xs (d + 3) (124, 0, lv_args 0 [zo (some m), .int (nI 62)], []) (zrh h sk S) Q := by
  apply zm_124
  refine zQpop (d := d + 1) hm (fun a h1 e1 m1 v1 => ?_)
  obtain ⟨b1, c1, c2, c3, c4⟩ := zNo_v v1
  refine zQvp (d := d + 2) m1 c1 (zmk115 v1) (fun b h2 e2 m2 n2 => ⟨fun z => absurd z (by decide), fun z => absurd z (by decide), fun _ => zQpop (d := d + 1) m2 (fun a3 h3 e3 m3 v3 => ?_), fun z => absurd z (by decide), fun z => absurd z (by decide), fun z => absurd z (by decide), fun z => absurd z (by decide), fun z => absurd rfl z.2.2.1⟩)
  obtain ⟨b3, k1, k2, k3, k4⟩ := zNo_v v3
  have n3 := zNo_ce m2 e3 n2
  have p1 := zp1
  obtain ⟨pb1, pb2⟩ := zprd_b (n := n) (k := k) hw.2
  refine zQvp (d := d + 2) m3 k1 (zmk115 v3) (fun b4 h4 e4 m4 n4 => zQsp (d := d + 2) m4 (zmk130 (d := d + 1) (e4.1 _ _ n3) n4 c3 k3) (fun b5 h5 e5 m5 n5 => ?_))
  have ce := zce_t (zce_t (zce_t (zce_t e1 (zcex e2)) e3) (zcex e4)) (zcex (m := m) e5)
  refine zQ127 hd m5 n5 (zprd_lt _ _) hw (fun z => by simp only [Bool.and_eq_true, bne_iff_ne] at z; exact z.2) (fun q a6 h6 e6 m6 v6 => ?_) (fun q => g2 (fun z => q (pb1.mpr z)) _ _ (zCe_le (zce_t ce zth_ce) (by omega) (by omega)) m5.1)
  have q' := pb1.mp q
  rw [pb2 q'] at v6
  exact zQpush m6 v6 (by have := zl11 hm; omega) (fun h7 S7 e7 m7 => g1 q' _ _ (zCe_le (zce_t (zce_t ce (zcex e6)) e7) (by omega) (by omega)) m7)
end MC6
section MC7
variable {xs : List Value} {d m sk bits bound p a b c sl j l n k : Nat} {h h' : zH} {S : List Value} {W : List Term} {v w : Term} {Q : zO → zH → Prop} {args : List Value} {E : Nat → zH → Prop} {P : zH → Nat → Prop} {s t : Bool}
theorem zc135 {i j' a9 : Nat} (hd : 8 ≤ d) (hw : 1 ≤ bits ∧ bits ≤ 120) (hm : zMa h m sk bits bound W S p) (h9 : zown h a9 = some (.inl (9, [.ref i, .ref j']))) (hi : zNo s n h i) (hj : zNo false k h j') (hn : n < 2 ^ 122) (hk : k < 2 ^ 122) (h0 : s = true → n ≠ 0)
    (g1 : n < 2 ^ bits ∧ k < 2 ^ bits → ∀ a h', zEx h h' 4 28 → zMa h' m sk bits bound W S p → zVal h' (.div (.arg 25) (.add (.div (.arg 23) (zmn s n)) (zmn false k))) (.inl a) → Q (.inl (some (.ref a))) (zrh h' sk S)) (g2 : ¬ (n < 2 ^ bits ∧ k < 2 ^ bits) → zPx h m sk 3 4 28 Q) : zG xs (d + 3) (135, 0, lv_args 0 [zo (some m), zo (some a9)], []) (zrh h sk S) Q := by
  have r9 : ∀ {h' : zH}, zown h' sk = some zHid → zown h' a9 = some (.inl (9, [.ref i, .ref j'])) → zown (zrh h' sk S) a9 = some (.inl (9, [.ref i, .ref j'])) := fun hs hz => (zown_l hs hz (fun z => by cases z)).2
  apply zm_135
  refine ⟨a9, 9, _, some i, rfl, r9 hm.1 h9, by decide, by decide, rfl, zQ127 hd hm hi hn hw h0 (fun q1 a1 h1 e1 m1 v1 => ?_) (fun q => g2 (fun z => q z.1) _ _ (zCe_le zth_ce (by omega) (by omega)) hm.1)⟩
  refine ⟨a9, 9, _, some j', rfl, r9 m1.1 (e1.1 _ _ h9), by decide, by decide, rfl, zQ127 hd m1 (e1.1 _ _ hj) hk hw (fun z => by cases z) (fun q2 a2 h2 e2 m2 v2 => ?_) (fun q => g2 (fun z => q z.2) _ _ (zCe_le (zce_t (zcex e1) zth_ce) (by omega) (by omega)) m1.1)⟩
  refine zQs (d := d + 2) m2 (zmk43_2 (d := d + 1) (k := 23) (by decide) (zVal_ex e2.1 _ _ v1) v2) (fun a3 h3 e3 m3 v3 => zQs (d := d + 2) m3 (zmk136 (d := d) v3) (fun a4 h4 e4 m4 v4 => g1 ⟨q1, q2⟩ a4 h4 (zEx_le (zEx_trans (zEx_trans (zEx_trans e1 e2) e3) e4) (by omega) (by omega)) m4 v4))
theorem zquo_lt {s t : Bool} {n k : Nat} (hn : n < 2 ^ 120) (hk : k < 2 ^ 120) (h0 : 0 < k) : (zquo s n t k).1.2 < 2 ^ 122 ∧ (zquo s n t k).2 < 2 ^ 122 := by
  have p1 := zp1
  have q1 : n / k ≤ n := Nat.div_le_self _ _
  have q2 : n % k < k := Nat.mod_lt _ h0
  unfold zquo
  split
  · exact ⟨by show n / k + 1 < _; omega, by show k - n % k < _; omega⟩
  · exact ⟨by show n / k < _; omega, by show n % k < _; omega⟩
theorem zc124_63 (hd : 8 ≤ d) (hw : 1 ≤ bits ∧ bits ≤ 120) (hm : zMa h m sk bits bound (zmn s n :: zmn t k :: W) S p) (g0 : k = 0 → zPs h m sk bits bound p (.arg 24 :: W) 12 51 Q) (g1 : k ≠ 0 → (zquo s n t k).1.2 < 2 ^ bits ∧ (zquo s n t k).2 < 2 ^ bits → zPs h m sk bits bound p (.div (.arg 25) (.add (.div (.arg 23) (zmn (zquo s n t k).1.1 (zquo s n t k).1.2)) (zmn false (zquo s n t k).2)) :: W) 12 51 Q) (g2 : k ≠ 0 → ¬ ((zquo s n t k).1.2 < 2 ^ bits ∧ (zquo s n t k).2 < 2 ^ bits) → zPx h m sk 3 12 51 Q) : zG xs (d + 4) (124, 0, lv_args 0 [zo (some m), .int (nI 63)], []) (zrh h sk S) Q := by
  apply zm_124
  refine zQpop (d := d + 2) hm (fun a h1 e1 m1 v1 => ?_)
  obtain ⟨b1, c1, c2, c3, c4⟩ := zNo_v v1
  refine zQvp (d := d + 3) m1 c1 (zmk115 v1) (fun b h2 e2 m2 n2 => ⟨fun z => absurd z (by decide), fun z => absurd z (by decide), fun z => absurd z (by decide), fun _ => zQpop (d := d + 2) m2 (fun a3 h3 e3 m3 v3 => ?_), fun z => absurd z (by decide), fun z => absurd z (by decide), fun z => absurd z (by decide), fun z => absurd rfl z.2.2.2.1⟩)
  obtain ⟨b3, k1, k2, k3, k4⟩ := zNo_v v3
  have n3 := zNo_ce m2 e3 n2
  have p1 := zp1
  refine zQvp (d := d + 3) m3 k1 (zmk115 v3) (fun b4 h4 e4 m4 n4 => ?_)
  have ce := zce_t (zce_t (zce_t e1 (zcex e2)) e3) (zcex (m := m) e4)
  have n5 := e4.1 _ _ n3
  refine zQi (d := d + 3) (x := zB (k == 0)) m4 n4 (fun R g => zc121 n4 (by omega) g) ⟨fun z => ?_, fun z => ?_⟩
  · have k0 : k ≠ 0 := fun q => by subst q; exact absurd z (by decide)
    have hq := zquo_lt (s := s) (t := t) c3 k3 (Nat.pos_of_ne_zero k0)
    refine zX_cah (d := d + 3) (Q' := fun o h' => ∃ i jj, o = .inl (some (.ref (h4.1.length + zK0))) ∧ zEx h4 h' 8 23 ∧ zown h' (h4.1.length + zK0) = some (.inl (9, [.ref i, .ref jj])) ∧ zNo (zquo s n t k).1.1 (zquo s n t k).1.2 h' i ∧ zNo false (zquo s n t k).2 h' jj) m4.1 (zc132 (d := d) n5 n4 c3 k3 (Nat.pos_of_ne_zero k0) (fun h' i jj y1 y2 y3 y4 => ⟨i, jj, rfl, y1, y2, y3, y4⟩)) (fun o h5 hs hq5 => ?_)
    obtain ⟨i, jj, rfl, y1, y2, y3, y4⟩ := hq5
    have m5 := zMa_ex m4 y1
    refine zKR_v (zMa_cv (d := d + 3) m5 (zc135 hd hw m5 y2 y3 y4 hq.1 hq.2 zquo_ok.1 (fun q a6 h6 e6 m6 v6 => zKR_v (zQpush (d := d + 3) m6 v6 (by have := zl11 hm; omega) (fun h7 S7 e7 m7 => g1 k0 q _ _ (zCe_le (zce_t (zce_t (zce_t ce (zcex y1)) (zcex e6)) e7) (by omega) (by omega)) m7))) (fun q => fun h6 S6 e6 s6 => g2 k0 q _ _ (zCe_le (zce_t (zce_t ce (zcex y1)) e6) (by omega) (by omega)) s6)))
  · have k0 : k = 0 := by
      by_cases q : k = 0
      · exact q
      · rw [beq_false_of_ne q] at z; exact absurd rfl z
    exact zQs (d := d + 3) m4 (zmk131 (d := d + 1)) (fun a5 h5 e5 m5 v5 => zQpush (d := d + 3) m5 v5 (by have := zl11 hm; omega) (fun h6 S6 e6 m6 => g0 k0 _ _ (zCe_le (zce_t (zce_t ce (zcex e5)) e6) (by omega) (by omega)) m6))
theorem zc124_64 (hm : zMa h m sk bits bound (zmn s n :: W) S p) (g : zPs h m sk bits bound p (zmn (!s && n != 0) n :: W) 2 10 Q) : zG xs (d + 4) (124, 0, lv_args 0 [zo (some m), .int (nI 64)], []) (zrh h sk S) Q := by
  apply zm_124
  refine zQpop (d := d + 2) hm (fun a h1 e1 m1 v1 => ?_)
  obtain ⟨b1, c1, c2, c3, c4⟩ := zNo_v v1
  have p1 := zp1
  refine zQvp (d := d + 3) m1 c1 (zmk115 v1) (fun b h2 e2 m2 n2 => ⟨fun z => absurd z (by decide), fun z => absurd z (by decide), fun z => absurd z (by decide), fun z => absurd z (by decide), fun _ => ?_, fun z => absurd z (by decide), fun z => absurd z (by decide), fun z => absurd rfl z.2.2.2.2.1⟩)
  refine zQvp (d := d + 3) m2 n2 (zmk129 (d := d + 2) n2 (by omega)) (fun b3 h3 e3 m3 n3 => zQs (d := d + 3) m3 (zmk34 (d := d + 2) n3 c3 (fun z => by simp only [Bool.and_eq_true, bne_iff_ne] at z; exact z.2)) (fun a4 h4 e4 m4 v4 => zQpush (d := d + 3) m4 v4 (zl10 hm) (fun h5 S5 e5 m5 => g _ _ (zCe_le (zce_t (zce_t (zce_t (zce_t e1 (zcex e2)) (zcex e3)) (zcex e4)) e5) (by omega) (by omega)) m5)))
theorem zc124_65 (hm : zMa h m sk bits bound (zmn s n :: W) S p) (g : zPs h m sk bits bound p (zmn false n :: W) 2 10 Q) : zG xs (d + 4) (124, 0, lv_args 0 [zo (some m), .int (nI 65)], []) (zrh h sk S) Q := by
  apply zm_124
  refine zQpop (d := d + 2) hm (fun a h1 e1 m1 v1 => ?_)
  obtain ⟨b1, c1, c2, c3, c4⟩ := zNo_v v1
  have p1 := zp1
  refine zQvp (d := d + 3) m1 c1 (zmk115 v1) (fun b h2 e2 m2 n2 => ⟨fun z => absurd z (by decide), fun z => absurd z (by decide), fun z => absurd z (by decide), fun z => absurd z (by decide), fun z => absurd z (by decide), fun _ => ?_, fun z => absurd z (by decide), fun z => absurd rfl z.2.2.2.2.2.1⟩)
  refine zQvp (d := d + 3) m2 n2 (zmk134 (d := d + 2) n2 (by omega)) (fun b3 h3 e3 m3 n3 => zQs (d := d + 3) m3 (zmk34 (d := d + 2) n3 c3 (fun z => by cases z)) (fun a4 h4 e4 m4 v4 => zQpush (d := d + 3) m4 v4 (zl10 hm) (fun h5 S5 e5 m5 => g _ _ (zCe_le (zce_t (zce_t (zce_t (zce_t e1 (zcex e2)) (zcex e3)) (zcex e4)) e5) (by omega) (by omega)) m5)))
theorem zc124_66 (hm : zMa h m sk bits bound (zmn s n :: W) S p) (g : zPs h m sk bits bound p ((if s = true then .arg 24 else .div (.arg 25) (zmn s n)) :: W) 2 14 Q) : zG xs (d + 4) (124, 0, lv_args 0 [zo (some m), .int (nI 66)], []) (zrh h sk S) Q := by
  apply zm_124
  refine zQpop (d := d + 2) hm (fun a h1 e1 m1 v1 => ?_)
  obtain ⟨b1, c1, c2, c3, c4⟩ := zNo_v v1
  refine zQvp (d := d + 3) m1 c1 (zmk115 v1) (fun b h2 e2 m2 n2 => ⟨fun z => absurd z (by decide), fun z => absurd z (by decide), fun z => absurd z (by decide), fun z => absurd z (by decide), fun z => absurd z (by decide), fun z => absurd z (by decide), fun _ => zQgi (x := zB s) m2 n2 rfl ⟨fun z => ?_, fun z => ?_⟩, fun z => absurd rfl z.2.2.2.2.2.2⟩)
  · have s0 : s = false := by cases s; rfl; exact absurd z (by decide)
    rw [if_neg (by rw [s0]; decide)] at g
    exact zQs (d := d + 3) m2 (zmk34 (d := d + 2) n2 c3 c4) (fun a3 h3 e3 m3 v3 => zQs (d := d + 3) m3 (zmk136 (d := d + 1) v3) (fun a4 h4 e4 m4 v4 => zQpush (d := d + 3) m4 v4 (zl10 hm) (fun h5 S5 e5 m5 => g _ _ (zCe_le (zce_t (zce_t (zce_t (zce_t e1 (zcex e2)) (zcex e3)) (zcex e4)) e5) (by omega) (by omega)) m5)))
  · have s0 : s = true := by cases s; exact absurd rfl z; rfl
    rw [if_pos s0] at g
    exact zQs (d := d + 3) m2 (zmk131 (d := d + 1)) (fun a4 h4 e4 m4 v4 => zQpush (d := d + 3) m4 v4 (zl10 hm) (fun h5 S5 e5 m5 => g _ _ (zCe_le (zce_t (zce_t (zce_t e1 (zcex e2)) (zcex e4)) e5) (by omega) (by omega)) m5))
theorem zc124_67 (hm : zMa h m sk bits bound (zmn s n :: W) S p) (g : zPs h m sk bits bound p (zmn s n :: W) 1 7 Q) : zG xs (d + 4) (124, 0, lv_args 0 [zo (some m), .int (nI 67)], []) (zrh h sk S) Q := by
  apply zm_124
  refine zQpop (d := d + 2) hm (fun a h1 e1 m1 v1 => ?_)
  obtain ⟨b1, c1, c2, c3, c4⟩ := zNo_v v1
  refine zQvp (d := d + 3) m1 c1 (zmk115 v1) (fun b h2 e2 m2 n2 => ⟨fun z => absurd z (by decide), fun z => absurd z (by decide), fun z => absurd z (by decide), fun z => absurd z (by decide), fun z => absurd z (by decide), fun z => absurd z (by decide), fun z => absurd z (by decide), fun _ => ?_⟩)
  exact zQs (d := d + 3) m2 (zmk34 (d := d + 2) n2 c3 c4) (fun a4 h4 e4 m4 v4 => zQpush (d := d + 3) m4 v4 (zl10 hm) (fun h5 S5 e5 m5 => g _ _ (zCe_le (zce_t (zce_t (zce_t e1 (zcex e2)) (zcex e4)) e5) (by omega) (by omega)) m5))
end MC7
section MC8
variable {xs : List Value} {d m sk bits bound p a b c sl j l n k : Nat} {h h' : zH} {S : List Value} {W : List Term} {v w u : Term} {Q : zO → zH → Prop} {args : List Value} {E : Nat → zH → Prop} {P : zH → Nat → Prop} {s t : Bool} {x1 x2 x3 x4 : Value} {L : List Term}
theorem zmk145 (hv : zVal h v (.inl b)) (hl : zVal h (.old (zenc L)) (.inl a)) (hn : L.length + 1 < 1000) : zMkv xs (d + 2) 145 [zo (some a), zo (some b)] h (.old (zenc (v :: L))) 2 (L.length + 8) := fun R g => by
  obtain ⟨is, hr⟩ := zRv_val.mp hl
  obtain ⟨fs, hc⟩ := zVal_cls v _ hv b rfl
  have hlen : is.length = L.length := hr.2.1
  refine zc145 hr.1 hc (by omega) (fun h' e1 r1 => ?_)
  rw [hlen] at e1
  refine g h' _ e1 (zRv_val.mpr ⟨b :: is, r1, ?_⟩)
  have hv' := zVs_ex e1.1 hr.2
  exact (zVal_enc (v :: L) (b :: is)).mp ⟨b, is, rfl, zVal_ex e1.1 _ _ hv, (zVal_enc L is).mpr hv'⟩
theorem zc144_32 (hm : zMa h m sk bits bound W S p) (hv : zVal h v (.inl a)) (hw : zVal h w (.inl b)) (hn : W.length + 1 < 12) (g : zPs h m sk bits bound p (w :: v :: W) 0 0 Q) : zG xs (d + 1) (144, 0, lv_args 0 [zo (some m), .int (nI 32), zo (some a), zo (some b)], []) (zrh h sk S) Q := by
  apply zm_144
  exact ⟨fun _ => zQpush hm hv (by omega) (fun h1 S1 e1 m1 => zQpush m1 (zVal_ce hm e1 hw) hn (fun h2 S2 e2 m2 => g _ _ (zce_t e1 e2) m2)), fun z => absurd rfl z⟩
theorem zc144_36 (hm : zMa h m sk bits bound W S p) (hv : zVal h v (.inl a)) (hw : zVal h w (.inl b)) (hn : W.length < 12) (g : zPs h m sk bits bound p (.add (.div (.arg 23) v) w :: W) 1 7 Q) : zG xs (d + 2) (144, 0, lv_args 0 [zo (some m), .int (nI 36), zo (some a), zo (some b)], []) (zrh h sk S) Q := by
  apply zm_144
  exact ⟨fun z => absurd z (by decide), fun _ => ⟨fun _ => zQs (d := d + 1) hm (zmk43_2 (d := d) (k := 23) (by decide) hv hw) (fun a1 h1 e1 m1 v1 => zQpush (d := d + 1) m1 v1 hn (fun h2 S2 e2 m2 => g _ _ (zce_t (zcex e1) e2) m2)), fun z => absurd rfl z⟩⟩
theorem zc144_46 (hm : zMa h m sk bits bound W S p) (hv : zVal h v (.inl a)) (hw : zVal h (.old (zenc L)) (.inl b)) (hL : L.length + 1 < 1000) (hn : W.length < 12) (g : zPs h m sk bits bound p (.old (zenc (v :: L)) :: W) 2 (L.length + 8) Q) : zG xs (d + 3) (144, 0, lv_args 0 [zo (some m), .int (nI 46), zo (some a), zo (some b)], []) (zrh h sk S) Q := by
  obtain ⟨fs, hc⟩ := zVal_cls _ _ hw b rfl
  apply zm_144
  exact ⟨fun z => absurd z (by decide), fun _ => ⟨fun z => absurd z (by decide), fun _ => zQv (d := d + 2) hm hc (zmk145 (d := d) hv hw hL) (fun a1 h1 e1 m1 v1 => zQpush (d := d + 2) m1 v1 hn (fun h2 S2 e2 m2 => g _ _ (zce_t (zcex e1) e2) m2))⟩⟩
theorem zc143_32  (hm : zMa h m sk bits bound (v :: w :: W) S p) (hl : zown h l = some (.inr (9, [.int (nI 32), x1, x2, x3, x4]))) (g : zPs h m sk bits bound p (w :: v :: W) 0 0 Q) : zG xs (d + 6) (143, 0, lv_args 0 [zo (some m), zo (some l)], []) (zrh h sk S) Q := by
  apply zm_143
  refine zQgi hm hl rfl ?_
  exact ⟨fun z => absurd z (by decide), fun z => absurd z (by decide), fun z => absurd z (by decide), fun z => absurd z (by decide), fun z => absurd z (by decide), fun z => absurd z (by decide), fun z => absurd z (by decide), fun z => absurd z (by decide), fun z => absurd z (by decide), fun z => absurd z (by decide), fun z => absurd z (by decide), fun z => absurd z (by decide), fun _ => zQgi hm hl rfl (zQpop (d := d + 4) hm (fun a1 h1 e1 m1 v1 => zQpop (d := d + 4) m1 (fun a2 h2 e2 m2 v2 => zMa_cv (d := d + 5) m2 (zc144_32 (d := d + 4) m2 (zVal_ce m1 e2 v1) v2 (by have := hm.2.2.2.1; rw [List.length_cons, List.length_cons] at this; omega) (fun h3 S3 e3 m3 => zKV_v (g _ _ (zCe_le (zce_t (zce_t e1 e2) e3) (by omega) (by omega)) m3))))))⟩
theorem zc143_36  (hm : zMa h m sk bits bound (v :: w :: W) S p) (hl : zown h l = some (.inr (9, [.int (nI 36), x1, x2, x3, x4]))) (g : zPs h m sk bits bound p (.add (.div (.arg 23) v) w :: W) 1 7 Q) : zG xs (d + 6) (143, 0, lv_args 0 [zo (some m), zo (some l)], []) (zrh h sk S) Q := by
  apply zm_143
  refine zQgi hm hl rfl ?_
  exact ⟨fun z => absurd z (by decide), fun z => absurd z (by decide), fun z => absurd z (by decide), fun z => absurd z (by decide), fun z => absurd z (by decide), fun z => absurd z (by decide), fun z => absurd z (by decide), fun z => absurd z (by decide), fun z => absurd z (by decide), fun z => absurd z (by decide), fun z => absurd z (by decide), fun z => absurd z (by decide), fun _ => zQgi hm hl rfl (zQpop (d := d + 4) hm (fun a1 h1 e1 m1 v1 => zQpop (d := d + 4) m1 (fun a2 h2 e2 m2 v2 => zMa_cv (d := d + 5) m2 (zc144_36 (d := d + 3) m2 (zVal_ce m1 e2 v1) v2 (zl11 hm) (fun h3 S3 e3 m3 => zKV_v (g _ _ (zCe_le (zce_t (zce_t e1 e2) e3) (by omega) (by omega)) m3))))))⟩
theorem zc143_46  (hm : zMa h m sk bits bound (v :: .old (zenc L) :: W) S p) (hl : zown h l = some (.inr (9, [.int (nI 46), x1, x2, x3, x4]))) (hL : L.length + 1 < 1000) (g : zPs h m sk bits bound p (.old (zenc (v :: L)) :: W) 2 (L.length + 8) Q) : zG xs (d + 6) (143, 0, lv_args 0 [zo (some m), zo (some l)], []) (zrh h sk S) Q := by
  apply zm_143
  refine zQgi hm hl rfl ?_
  exact ⟨fun z => absurd z (by decide), fun z => absurd z (by decide), fun z => absurd z (by decide), fun z => absurd z (by decide), fun z => absurd z (by decide), fun z => absurd z (by decide), fun z => absurd z (by decide), fun z => absurd z (by decide), fun z => absurd z (by decide), fun z => absurd z (by decide), fun z => absurd z (by decide), fun z => absurd z (by decide), fun _ => zQgi hm hl rfl (zQpop (d := d + 4) hm (fun a1 h1 e1 m1 v1 => zQpop (d := d + 4) m1 (fun a2 h2 e2 m2 v2 => zMa_cv (d := d + 5) m2 (zc144_46 (d := d + 2) m2 (zVal_ce m1 e2 v1) v2 hL (zl11 hm) (fun h3 S3 e3 m3 => zKV_v (g _ _ (zCe_le (zce_t (zce_t e1 e2) e3) (by omega) (by omega)) m3))))))⟩
/-- how many -/
theorem zVal_sz (hv : zVal h v (.inl a)) (hc : (∃ l, v = .old l) ∨ (∃ l, v = .length l) ∨ (∃ k w, v = .mul (.arg k) (.arg w))) : ∃ fs, zown h a = some (.inr (3, fs)) ∧ fs[1]? = some (.int (nI (zsize v))) ∧ zsize v < 1000 := by
  have row : ∀ l, zVal h (.old l) (.inl a) → ∃ fs, zown h a = some (.inr (3, fs)) ∧ fs[1]? = some (.int (nI (zels l).length)) ∧ (zels l).length < 1000 := by
    intro l hv
    obtain ⟨r, is, h1, h2, h3, h4⟩ := hv
    have := (zVal_els l is h4).2.1
    rw [this] at h1 h3
    exact ⟨_, h1, rfl, h3⟩
  rcases hc with ⟨l, rfl⟩ | ⟨l, rfl⟩ | ⟨k, w, rfl⟩
  · exact row l hv
  · exact row l hv
  · exact ⟨_, hv.1, rfl, by have := hv.2.1; show k < 1000; omega⟩
theorem zc143_48  (hm : zMa h m sk bits bound (v :: W) S p) (hl : zown h l = some (.inr (9, [.int (nI 48), x1, x2, x3, x4]))) (hc : (∃ l, v = .old l) ∨ (∃ l, v = .length l) ∨ (∃ k w, v = .mul (.arg k) (.arg w))) (g : zPs h m sk bits bound p (zmn false (zsize v) :: W) 2 10 Q) : zG xs (d + 6) (143, 0, lv_args 0 [zo (some m), zo (some l)], []) (zrh h sk S) Q := by
  apply zm_143
  refine zQgi hm hl rfl ?_
  exact ⟨fun z => absurd z (by decide), fun z => absurd z (by decide), fun z => absurd z (by decide), fun z => absurd z (by decide), fun z => absurd z (by decide), fun z => absurd z (by decide), fun z => absurd z (by decide), fun z => absurd z (by decide), fun z => absurd z (by decide), fun z => absurd z (by decide), fun z => absurd z (by decide), fun _ => zQpop (d := d + 4) hm (fun a1 h1 e1 m1 v1 => by
    obtain ⟨fs, f1, f2, f3⟩ := zVal_sz v1 hc
    exact zQgi m1 f1 f2 (zQsp (d := d + 5) m1 (zmk111 (d := d + 4) (by omega)) (fun a2 h2 e2 m2 n2 => zQs (d := d + 5) m2 (zmk34 (d := d + 4) n2 (Nat.lt_trans f3 (by decide)) (fun z => by cases z)) (fun a3 h3 e3 m3 v3 => zQpush (d := d + 5) m3 v3 (zl10 hm) (fun h4 S4 e4 m4 => g _ _ (zce_t (zce_t (zce_t e1 (zcex e2)) (zcex e3)) e4) m4))))), fun z => absurd rfl (z.2.2.2.2.2.2.2.2.2.2.2)⟩
end MC8
section MC9
variable {xs : List Value} {d m sk bits bound p a b c sl j l n k : Nat} {h h' : zH} {S : List Value} {W : List Term} {v w u key opt : Term} {Q : zO → zH → Prop} {args : List Value} {E : Nat → zH → Prop} {P : zH → Nat → Prop} {s t : Bool} {L : List Term} {es : List (Term × Term)}
/-- a row of entries under any of the three names -/
def zRw3 (u : Term) (es : List (Term × Term)) : Prop := u = .length (zenc (es.map fun e => zent2 e.1 e.2)) ∨ u = .sum (zenc (es.map fun e => zent2 e.1 e.2))
theorem zRw3_v (hu : zRw3 u es) (hv : zVal h u (.inl a)) : ∃ is, zRv h a (es.map fun e => zent2 e.1 e.2) is := by
  rcases hu with rfl | rfl
  · exact zRv_len.mp hv
  · exact zRv_sum.mp hv
def zKo (es : List (Term × Term)) (key : Term) (d : Nat) : Prop := ∀ e ∈ es, zSimp e.1 key ∧ zdep e.1 ≤ d
theorem zmk138 (hu : zRw3 u es) (hv : zVal h u (.inl a)) (hk : zVal h key (.inl b)) (ho : zKo es key d) : zMkv xs (d + 3) 138 [zo (some a), zo (some b)] h (zget key es) 1 7 := fun R g => by
  obtain ⟨is, hr⟩ := zRw3_v hu hv
  exact zc138 hr ⟨hk, ho⟩ (fun h' e1 v1 => g h' _ e1 v1)
theorem zmk141 {o : Nat} {u2 : Term} (hu : zRw3 u es) (hv : zVal h u (.inl a)) (hk : zVal h key (.inl b)) (ho : zKo es key d) (h2 : zVal h opt (.inl o)) (hopt : opt = .arg 24 ∨ ∃ v, opt = .div (.arg 25) v) (hn : es.length + 1 < 1000) (hu2 : zRw3 u2 (zupl key opt es)) : zMkv xs (d + 3) 141 [zo (some a), zo (some b), zo (some o)] h u2 3 (es.length + 15) := fun R g => by
  obtain ⟨is, hr⟩ := zRw3_v hu hv
  refine zc141 hr ⟨hk, ho⟩ h2 hopt hn (fun h' c is' e1 r1 => g h' c e1 ?_)
  rcases hu2 with rfl | rfl
  · exact zRv_len.mpr ⟨is', r1⟩
  · exact zRv_sum.mpr ⟨is', r1⟩
theorem zcls3 (hv : zVal h u (.inl a)) : ∃ fs, zown h a = some (.inr (3, fs)) := zVal_cls u _ hv a rfl
theorem zB_t {t : Bool} (h : zB t ≠ 0) : t = true := by cases t; exact absurd rfl h; rfl
theorem zB_f {t : Bool} (h : zB t = 0) : t = false := by cases t; rfl; exact absurd h (by decide)
/-- a truth is made and pushed -/
theorem zbbp {t : Bool} {x : Int32} {K : zH → Prop} {E1 E2 : Nat → zH → Prop} (hx : x = zB t) (hm : zMa h m sk bits bound W S p) (hn : W.length < 12) (g : ∀ h' S', zCe [m] h h' 1 7 → zMa h' m sk bits bound (ztr t :: W) S' p → K (zrh h' sk S')) : zCall xs (d + 4) 123 [.int x] (zrh h sk S) (zKR (fun x1 h2 => zCV xs (d + 4) 98 11 (some m) [zo x1] h2 (zKV K E1)) E2) := by
  subst hx
  exact zQs (d := d + 3) hm (zmk123 (d := d + 1) (t := t)) (fun a3 h3 e3 m3 v3 => zQpush (d := d + 3) m3 v3 hn (fun h4 S4 e4 m4 => g _ _ (zce_t (zcex e3) e4) m4))
theorem zbb55 {x y : Nat} (hm : zMa h m sk bits bound W S p) (hx : zVal h (.arg x) (.inl a)) (hy : zVal h (.arg y) (.inl b)) (hn : W.length < 12) (g : zPs h m sk bits bound p (ztr (x == 22 && y == 22) :: W) 1 7 Q) : zCV xs (d + 4) 107 3 (some b) [] (zrh h sk S) (zKI (fun x31 h32 => ((x31 = 0 → zw_137_116 xs (d + 4) Q (some m) h32) ∧ (¬ x31 = 0 → zCV xs (d + 4) 107 3 (some a) [] h32 (zKI (fun x33 h34 => ((x33 = 0 → zw_137_116 xs (d + 4) Q (some m) h34) ∧ (¬ x33 = 0 → zw_137_117 xs (d + 4) Q (1 : Int32) (some m) h34))) (fun e h => Q (.inr e) h))))) (fun e h => Q (.inr e) h)) := by
  refine zQi (d := d + 3) (x := zB (y == 22)) hm hy.1 (fun R g => zc107 hy.2 hy.1 g) ⟨fun z => ?_, fun z => ?_⟩
  · exact zbbp (t := x == 22 && y == 22) (by rw [zB_f z, Bool.and_false]; rfl) hm hn (fun h' S' e1 m1 => g _ _ e1 m1)
  · refine zQi (d := d + 3) (x := zB (x == 22)) hm hx.1 (fun R g => zc107 hx.2 hx.1 g) ⟨fun z2 => ?_, fun z2 => ?_⟩
    · exact zbbp (t := x == 22 && y == 22) (by rw [zB_f z2]; rfl) hm hn (fun h' S' e1 m1 => g _ _ e1 m1)
    · exact zbbp (t := x == 22 && y == 22) (by rw [zB_t z, zB_t z2]; rfl) hm hn (fun h' S' e1 m1 => g _ _ e1 m1)
theorem zbb56 {x y : Nat} (hm : zMa h m sk bits bound W S p) (hx : zVal h (.arg x) (.inl a)) (hy : zVal h (.arg y) (.inl b)) (hn : W.length < 12) (g : zPs h m sk bits bound p (ztr (x == 22 || y == 22) :: W) 1 7 Q) : zCV xs (d + 4) 107 3 (some b) [] (zrh h sk S) (zKI (fun x37 h38 => ((x37 = 0 → zCV xs (d + 4) 107 3 (some a) [] h38 (zKI (fun x39 h40 => ((x39 = 0 → zw_137_149 xs (d + 4) Q (0 : Int32) (some m) h40) ∧ (¬ x39 = 0 → zw_137_144 xs (d + 4) Q (some m) h40))) (fun e h => Q (.inr e) h))) ∧ (¬ x37 = 0 → zw_137_144 xs (d + 4) Q (some m) h38))) (fun e h => Q (.inr e) h)) := by
  refine zQi (d := d + 3) (x := zB (y == 22)) hm hy.1 (fun R g => zc107 hy.2 hy.1 g) ⟨fun z => ?_, fun z => ?_⟩
  · refine zQi (d := d + 3) (x := zB (x == 22)) hm hx.1 (fun R g => zc107 hx.2 hx.1 g) ⟨fun z2 => ?_, fun z2 => ?_⟩
    · exact zbbp (t := x == 22 || y == 22) (by rw [zB_f z, zB_f z2]; rfl) hm hn (fun h' S' e1 m1 => g _ _ e1 m1)
    · exact zbbp (t := x == 22 || y == 22) (by rw [zB_t z2]; rfl) hm hn (fun h' S' e1 m1 => g _ _ e1 m1)
  · exact zbbp (t := x == 22 || y == 22) (by rw [zB_t z, Bool.or_true]; rfl) hm hn (fun h' S' e1 m1 => g _ _ e1 m1)
theorem zbb57 {x : Nat} (hm : zMa h m sk bits bound W S p) (hx : zVal h (.arg x) (.inl a)) (hn : W.length < 12) (g : zPs h m sk bits bound p (ztr (!(x == 22)) :: W) 1 7 Q) : zCV xs (d + 4) 107 3 (some a) [] (zrh h sk S) (zKI (fun x41 h42 => ((x41 = 0 → zw_137_171 xs (d + 4) Q (1 : Int32) (some m) h42) ∧ (¬ x41 = 0 → zw_137_171 xs (d + 4) Q (0 : Int32) (some m) h42))) (fun e h => Q (.inr e) h)) := by
  refine zQi (d := d + 3) (x := zB (x == 22)) hm hx.1 (fun R g => zc107 hx.2 hx.1 g) ⟨fun z => ?_, fun z => ?_⟩
  · exact zbbp (t := !(x == 22)) (by rw [zB_f z]; rfl) hm hn (fun h' S' e1 m1 => g _ _ e1 m1)
  · exact zbbp (t := !(x == 22)) (by rw [zB_t z]; rfl) hm hn (fun h' S' e1 m1 => g _ _ e1 m1)
theorem zc137_52  (hm : zMa h m sk bits bound (key :: u :: W) S p) (hu : zRw3 u es) (ho : zKo es key d) (g : zPs h m sk bits bound p (zget key es :: W) 1 7 Q) : zG xs (d + 4) (137, 0, lv_args 0 [zo (some m), .int (nI 52)], []) (zrh h sk S) Q := by
  apply zm_137
  refine zQpop (d := d + 2) hm (fun a1 h1 e1 m1 v1 => ?_)
  exact ⟨fun _ => zQpop (d := d + 2) m1 (fun a2 h2 e2 m2 v2 => by
    obtain ⟨fs, hc⟩ := zcls3 v2
    exact zQv (d := d + 3) m2 hc (zmk138 (d := d) hu v2 (zVal_ce m1 e2 v1) ho) (fun a3 h3 e3 m3 v3 => zQpush (d := d + 3) m3 v3 (zl11 hm) (fun h4 S4 e4 m4 => g _ _ (zce_t (zce_t (zce_t e1 e2) (zcex e3)) e4) m4))), fun z => absurd z (by decide), fun z => absurd z (by decide), fun z => absurd z (by decide), fun z => absurd z (by decide), fun z => absurd rfl (z.1)⟩
theorem zc137_53 {u2 : Term} (hm : zMa h m sk bits bound (key :: opt :: u :: W) S p) (hu : zRw3 u es) (ho : zKo es key d) (hopt : opt = .arg 24 ∨ ∃ v, opt = .div (.arg 25) v) (hn : es.length + 1 < 1000) (hu2 : zRw3 u2 (zupl key opt es)) (g : zPs h m sk bits bound p (u2 :: W) 3 (es.length + 15) Q) : zG xs (d + 4) (137, 0, lv_args 0 [zo (some m), .int (nI 53)], []) (zrh h sk S) Q := by
  apply zm_137
  refine zQpop (d := d + 2) hm (fun a1 h1 e1 m1 v1 => ?_)
  exact ⟨fun z => absurd z (by decide), fun _ => zQpop (d := d + 2) m1 (fun a2 h2 e2 m2 v2 => zQpop (d := d + 2) m2 (fun a3 h3 e3 m3 v3 => by
    obtain ⟨fs, hc⟩ := zcls3 v3
    exact zQv (d := d + 3) m3 hc (zmk141 (d := d) hu v3 (zVal_ce m2 e3 (zVal_ce m1 e2 v1)) ho (zVal_ce m2 e3 v2) hopt hn hu2) (fun a4 h4 e4 m4 v4 => zQpush (d := d + 3) m4 v4 (by have := zl11 hm; rw [List.length_cons] at this; omega) (fun h5 S5 e5 m5 => g _ _ (zCe_le (zce_t (zce_t (zce_t (zce_t e1 e2) e3) (zcex e4)) e5) (by omega) (by omega)) m5)))), fun z => absurd z (by decide), fun z => absurd z (by decide), fun z => absurd z (by decide), fun z => absurd rfl (z.2.1)⟩
theorem zc137_54  (hm : zMa h m sk bits bound (key :: u :: W) S p) (hu : zRw3 u es) (ho : zKo es key d) (g : zPs h m sk bits bound p (ztr (zka key es (zkb key es)) :: W) 1 7 Q) : zG xs (d + 4) (137, 0, lv_args 0 [zo (some m), .int (nI 54)], []) (zrh h sk S) Q := by
  apply zm_137
  refine zQpop (d := d + 2) hm (fun a1 h1 e1 m1 v1 => ?_)
  exact ⟨fun z => absurd z (by decide), fun z => absurd z (by decide), fun _ => zQpop (d := d + 2) m1 (fun a2 h2 e2 m2 v2 => by
    obtain ⟨fs, hc⟩ := zcls3 v2
    obtain ⟨is, hr⟩ := zRw3_v hu v2
    exact zQi (d := d + 3) m2 hc (fun R g => zc142 (d := d) hr ⟨zVal_ce m1 e2 v1, ho⟩ g) (zQs (d := d + 3) m2 (zmk123 (d := d + 1)) (fun a3 h3 e3 m3 v3 => zQpush (d := d + 3) m3 v3 (zl11 hm) (fun h4 S4 e4 m4 => g _ _ (zce_t (zce_t (zce_t e1 e2) (zcex e3)) e4) m4)))), fun z => absurd z (by decide), fun z => absurd z (by decide), fun z => absurd rfl (z.2.2.1)⟩
theorem zc137_55 {x y : Nat} (hm : zMa h m sk bits bound (.arg x :: .arg y :: W) S p) (g : zPs h m sk bits bound p (ztr (x == 22 && y == 22) :: W) 1 7 Q) : zG xs (d + 4) (137, 0, lv_args 0 [zo (some m), .int (nI 55)], []) (zrh h sk S) Q := by
  apply zm_137
  refine zQpop (d := d + 2) hm (fun a1 h1 e1 m1 v1 => ?_)
  exact ⟨fun z => absurd z (by decide), fun z => absurd z (by decide), fun z => absurd z (by decide), fun _ => zQpop (d := d + 2) m1 (fun a2 h2 e2 m2 v2 => zbb55 (d := d) m2 (zVal_ce m1 e2 v1) v2 (zl11 hm) (fun h4 S4 e4 m4 => g _ _ (zCe_le (zce_t (zce_t e1 e2) e4) (by omega) (by omega)) m4)), fun z => absurd z (by decide), fun z => absurd rfl (z.2.2.2.1)⟩
theorem zc137_56 {x y : Nat} (hm : zMa h m sk bits bound (.arg x :: .arg y :: W) S p) (g : zPs h m sk bits bound p (ztr (x == 22 || y == 22) :: W) 1 7 Q) : zG xs (d + 4) (137, 0, lv_args 0 [zo (some m), .int (nI 56)], []) (zrh h sk S) Q := by
  apply zm_137
  refine zQpop (d := d + 2) hm (fun a1 h1 e1 m1 v1 => ?_)
  exact ⟨fun z => absurd z (by decide), fun z => absurd z (by decide), fun z => absurd z (by decide), fun z => absurd z (by decide), fun _ => zQpop (d := d + 2) m1 (fun a2 h2 e2 m2 v2 => zbb56 (d := d) m2 (zVal_ce m1 e2 v1) v2 (zl11 hm) (fun h4 S4 e4 m4 => g _ _ (zCe_le (zce_t (zce_t e1 e2) e4) (by omega) (by omega)) m4)), fun z => absurd rfl (z.2.2.2.2)⟩
theorem zc137_57 {x : Nat} (hm : zMa h m sk bits bound (.arg x :: W) S p) (g : zPs h m sk bits bound p (ztr (!(x == 22)) :: W) 1 7 Q) : zG xs (d + 4) (137, 0, lv_args 0 [zo (some m), .int (nI 57)], []) (zrh h sk S) Q := by
  apply zm_137
  refine zQpop (d := d + 2) hm (fun a1 h1 e1 m1 v1 => ?_)
  exact ⟨fun z => absurd z (by decide), fun z => absurd z (by decide), fun z => absurd z (by decide), fun z => absurd z (by decide), fun z => absurd z (by decide), fun _ => zbb57 (d := d) m1 v1 (zl10 hm) (fun h4 S4 e4 m4 => g _ _ (zCe_le (zce_t e1 e4) (by omega) (by omega)) m4)⟩
end MC9
section MC10
variable {xs : List Value} {d m sk bits bound p a b c sl j l n k : Nat} {h h' : zH} {S : List Value} {W : List Term} {v w u key opt : Term} {Q : zO → zH → Prop} {args : List Value} {E : Nat → zH → Prop} {s t : Bool}
theorem zcat_l {k l w v : Nat} (h1 : zTxo k w) (h2 : zTxo l v) (hk : k + l ≤ 8) : lN w ||| ((lN v).toUInt64 >>> ((((8 : Int32) * nI k)).toInt64.toUInt64 &&& Int64.toUInt64 63)).toInt64 = lN (w + v / 2 ^ (8 * k)) := by
  have hc := zTxo_cat h1 h2 hk
  by_cases k8 : k = 8
  · subst k8
    have l0 : l = 0 := by omega
    subst l0
    have hv : v = 0 := by
      have := h2.2.2.1
      have := h2.2.1
      omega
    subst hv
    rw [Nat.zero_div, Nat.add_zero]
    rw [show ((lN 0).toUInt64 >>> ((((8 : Int32) * nI 8)).toInt64.toUInt64 &&& Int64.toUInt64 63)).toInt64 = 0 by decide]
    exact Int64.or_zero
  · have a1 := h1.1
    rw [show (8 : Int32) * nI k = nI (8 * k) from pk_mul 8 k, wb_shr (Nat.lt_trans h2.2.1 (by decide)) (by omega)]
    have hdv : w = w / 2 ^ (8 * (8 - k)) * 2 ^ (8 * (8 - k)) := by
      have := Nat.div_add_mod w (2 ^ (8 * (8 - k)))
      rw [h1.2.2.1, Nat.add_zero, Nat.mul_comm] at this
      exact this.symm
    have hlt : v / 2 ^ (8 * k) < 2 ^ (8 * (8 - k)) := by
      refine Nat.div_lt_of_lt_mul ?_
      rw [← Nat.pow_add, show 8 * k + 8 * (8 - k) = 64 by omega]
      exact Nat.lt_trans h2.2.1 (by decide)
    rw [hdv, g_or (k := 8 * (8 - k)) rfl hlt (by rw [← hdv]; have := hc.2.1; omega)]
theorem zc112 {k w l v : Nat} (hd : 8 ≤ d) (hm : zMa h m sk bits bound W S p) (ha : zVal h (.mul (.arg k) (.arg w)) (.inl a)) (hb : zVal h (.mul (.arg l) (.arg v)) (.inl b)) (h1 : zTxo k w) (h2 : zTxo l v) (g1 : k + l ≤ 8 → ∀ a h', zEx h h' 1 7 → zMa h' m sk bits bound W S p → zVal h' (.mul (.arg (k + l)) (.arg (w + v / 2 ^ (8 * k)))) (.inl a) → Q (.inl (some (.ref a))) (zrh h' sk S)) (g2 : ¬ k + l ≤ 8 → Q (.inr 3) (zrh (zth h) sk S)) : zG xs (d + 2) (112, 0, lv_args 0 [zo (some m), zo (some a), zo (some b)], []) (zrh h sk S) Q := by
  have k8 := h1.1
  have l8 := h2.1
  apply zm_112
  refine zQgi hm ha.1 rfl (zQgi hm hb.1 rfl (fun x7 hx => ?_))
  rw [nI_add] at hx
  subst hx
  refine ⟨fun z => ⟨by omega, g2 (fun q => ?_)⟩, fun z => ?_⟩
  · have := (nI_ltI (a := 8) (by omega) (by omega)).mp z; omega
  · have q : k + l ≤ 8 := by
      have := mt (nI_ltI (a := 8) (b := k + l) (by omega) (by omega)).mpr z; omega
    refine zX_gl (zrh_own hm.1 ha.1) rfl (zX_gl (zrh_own hm.1 hb.1) rfl (zQgi hm ha.1 rfl ?_))
    rw [zcat_l h1 h2 q]
    have hc := zTxo_cat h1 h2 q
    refine zQs (d := d + 1) (c := 1) (s := 7) (v := .mul (.arg (k + l)) (.arg (w + v / 2 ^ (8 * k)))) hm (fun R g => zc39 (g _ _ zEx_add ⟨zown_new, hc.1, hc.2.1⟩)) (fun a1 h1 e1 m1 v1 => g1 q a1 h1 e1 m1 v1)
theorem zc110_75 {k w l v : Nat} (hd : 8 ≤ d) (hm : zMa h m sk bits bound (.mul (.arg k) (.arg w) :: .mul (.arg l) (.arg v) :: W) S p) (h1 : zTxo k w) (h2 : zTxo l v) (g1 : k + l ≤ 8 → zPs h m sk bits bound p (.mul (.arg (k + l)) (.arg (w + v / 2 ^ (8 * k))) :: W) 1 7 Q) (g2 : ¬ k + l ≤ 8 → zPx h m sk 3 1 6 Q) : zG xs (d + 3) (110, 0, lv_args 0 [zo (some m), .int (nI 75)], []) (zrh h sk S) Q := by
  apply zm_110
  refine zQpop (d := d + 1) hm (fun a1 h3 e1 m1 v1 => ⟨fun z => absurd z (by decide), fun _ => zQpop (d := d + 1) m1 (fun a2 h4 e2 m2 v2 => zMa_cv (d := d + 2) m2 (zc112 hd m2 (zVal_ce m1 e2 v1) v2 h1 h2 (fun q a3 h5 e3 m3 v3 => zKR_v (zQpush (d := d + 2) m3 v3 (zl11 hm) (fun h6 S6 e6 m6 => g1 q _ _ (zce_t (zce_t (zce_t e1 e2) (zcex e3)) e6) m6))) (fun q => g2 q _ _ (zce_t (zce_t e1 e2) zth_ce) m2.1))), fun z => absurd z (by decide), fun z => absurd rfl z.2.1⟩)
theorem zc110_68 (hm : zMa h m sk bits bound (v :: w :: W) S p) (hs : zSimp v w) (hd : zdep v ≤ d) (h3 : zcmp v w = -1 ∨ zcmp v w = 0 ∨ zcmp v w = 1) (g : zPs h m sk bits bound p (zcpn (zcmp v w) :: W) 2 10 Q) : zG xs (d + 3) (110, 0, lv_args 0 [zo (some m), .int (nI 68)], []) (zrh h sk S) Q := by
  apply zm_110
  refine zQpop (d := d + 1) hm (fun a1 h3' e1 m1 v1 => ⟨fun _ => zQpop (d := d + 1) m1 (fun a2 h4 e2 m2 v2 => ?_), fun z => absurd z (by decide), fun z => absurd z (by decide), fun z => absurd rfl z.1⟩)
  refine zX_cah (d := d + 2) (Q' := fun o h' => o = .inl (some (.int (zcmp v w))) ∧ h' = h4) m2.1 (zc80 v w a1 a2 (d + 1) _ hs (zVal_ce m1 e2 v1) v2 (by omega) ⟨rfl, rfl⟩) (fun o h5 hs5 hq => ?_)
  obtain ⟨rfl, rfl⟩ := hq
  refine zKI_v ?_
  have fin : ∀ (sg : Bool) (n : Nat), n < 2 → (sg = true → n ≠ 0) → zcpn (zcmp v w) = zmn sg n → zMkp xs (d + 2) 111 [.int (zcmp v w)] h5 (zNo sg n) 1 3 → zCall xs (d + 3) 111 [.int (zcmp v w)] (zrh h5 sk S) (zKR (fun x9 h10 => zCall xs (d + 3) 34 [zo x9] h10 (zKR (fun x11 h12 => zCV xs (d + 3) 98 11 (some m) [zo x11] h12 (zKV (fun h14 => zw_110_112 xs (d + 3) Q h14) (fun e h => Q (.inr e) h))) (fun e h => Q (.inr e) h))) (fun e h => Q (.inr e) h)) := by
    intro sg n hn h0 he mk
    rw [he] at g
    exact zQsp (d := d + 2) m2 mk (fun a3 h6 e3 m3 n3 => zQs (d := d + 2) m3 (zmk34 (d := d + 1) n3 (Nat.lt_trans hn (by decide)) h0) (fun a4 h7 e4 m4 v4 => zQpush (d := d + 2) m4 v4 (zl11 hm) (fun h8 S8 e8 m8 => g _ _ (zce_t (zce_t (zce_t (zce_t e1 e2) (zcex e3)) (zcex e4)) e8) m8)))
  rcases h3 with z | z | z
  · exact fin true 1 (by decide) (fun _ => by decide) (by rw [z]; rfl) (by rw [z]; exact zmk111m)
  · exact fin false 0 (by decide) (fun z => by cases z) (by rw [z]; rfl) (by rw [z]; exact zmk111 (x := 0) (by decide))
  · exact fin false 1 (by decide) (fun z => by cases z) (by rw [z]; rfl) (by rw [z]; exact zmk111 (x := 1) (by decide))
/-- a sign against 0 -/
theorem zc122 {c : Nat} {x : Int32} (hc : 69 ≤ c ∧ c ≤ 74) (hx : x = (if s then -1 else if n = 0 then 0 else 1)) (h0 : s = true → n ≠ 0) (g : Q (.inl (some (.int (zB (ztst c s n))))) h) : zG xs d (122, 0, lv_args 0 [zo (some m), .int (nI c), .int x], []) h Q := by
  apply zm_122
  have ht : ∀ (y : Int32), y = zB (ztst c s n) → ((y = 0 ∨ y = 1) ∧ Q (.inl (some (.int y))) h) := fun y hy => by
    subst hy; exact ⟨zB_01 _, g⟩
  have cases3 : (s = true ∧ (n == 0) = false ∧ (n != 0) = true ∧ x = -1) ∨ (s = false ∧ (n == 0) = true ∧ (n != 0) = false ∧ x = 0) ∨ (s = false ∧ (n == 0) = false ∧ (n != 0) = true ∧ x = 1) := by
    cases s with
    | true => exact Or.inl ⟨rfl, beq_false_of_ne (h0 rfl), by simpa using h0 rfl, hx⟩
    | false =>
      by_cases q : n = 0
      · exact Or.inr (Or.inl ⟨rfl, by simpa using q, by simpa using q, by rw [hx, if_neg (by decide), if_pos q]⟩)
      · exact Or.inr (Or.inr ⟨rfl, beq_false_of_ne q, by simpa using q, by rw [hx, if_neg (by decide), if_neg q]⟩)
  rcases (by omega : c = 69 ∨ c = 70 ∨ c = 71 ∨ c = 72 ∨ c = 73 ∨ c = 74) with rfl | rfl | rfl | rfl | rfl | rfl
  all_goals rcases cases3 with ⟨r1, q1, q2, rfl⟩ | ⟨r1, q1, q2, rfl⟩ | ⟨r1, q1, q2, rfl⟩
  all_goals clear hx h0
  all_goals refine ⟨fun z => ?_, fun z => ?_, fun z => ?_, fun z => ?_, fun z => ?_, fun z => ?_⟩
  all_goals first
    | exact absurd z (by decide)
    | exact absurd rfl z.1
    | exact absurd rfl z.2.1
    | exact absurd rfl z.2.2.1
    | exact absurd rfl z.2.2.2.1
    | exact absurd rfl z.2.2.2.2
    | (refine ⟨fun z => ?_, fun z => ?_⟩
       all_goals first
         | exact absurd z (by decide)
         | (refine ht _ ?_; unfold ztst; rw [q1, r1]; rfl)
         | (refine ht _ ?_; unfold ztst; rw [q1, q2, r1]; rfl)
         | (refine ht _ ?_; unfold ztst; rw [q2, r1]; rfl)
         | (refine ht _ ?_; unfold ztst; rw [r1]; rfl)
         | (refine ht _ ?_; unfold ztst; rw [q1]; rfl)
         | (refine ht _ ?_; unfold ztst; rw [q2]; rfl))
end MC10
section MC11
variable {xs : List Value} {d m sk bits bound p a b c sl j l n k : Nat} {h h' : zH} {S : List Value} {W : List Term} {v w u key opt : Term} {Q : zO → zH → Prop} {s t : Bool}
theorem zc110_t {c : Nat} (hc : 69 ≤ c ∧ c ≤ 74) (hm : zMa h m sk bits bound (zmn s n :: W) S p) (g : zPs h m sk bits bound p (ztr (ztst c s n) :: W) 1 7 Q) : zG xs (d + 4) (110, 0, lv_args 0 [zo (some m), .int (nI c)], []) (zrh h sk S) Q := by
  apply zm_110
  have ne : ∀ q : Nat, q < 100 → q ≠ c → ¬ nI c = nI q := fun q hq hn z => hn ((nI_eq (by omega) (by omega)).mp z).symm
  refine zQpop (d := d + 2) hm (fun a1 h1 e1 m1 v1 => ⟨fun z => absurd z (ne 68 (by omega) (by omega)), fun z => absurd z (ne 75 (by omega) (by omega)), fun z => absurd z (ne 76 (by omega) (by omega)), fun _ => ?_⟩)
  obtain ⟨b1, c1, c2, c3, c4⟩ := zNo_v v1
  have p1 := zp1
  refine zQvp (d := d + 3) m1 c1 (zmk115 v1) (fun b h2 e2 m2 n2 => ?_)
  refine zQi (d := d + 3) m2 n2 (fun R g => zc120 (d := d + 2) n2 (by omega) g) ?_
  refine zMa_cv (d := d + 3) m2 (zc122 (m := m) hc rfl c4 (zKI_v ?_))
  exact zbbp (d := d) rfl m2 (zl10 hm) (fun h3 S3 e3 m3 => g _ _ (zCe_le (zce_t (zce_t e1 (zcex e2)) e3) (by omega) (by omega)) m3)
theorem zOut_ce {O : List Nat} (hm : zMa h m sk bits bound W S p) (hc : zCe [m] h h' c sl) (ho : zOut h O) : zOut h' O := by
  obtain ⟨no, h2⟩ := hm.2.1
  obtain ⟨o1, B, o2, o3⟩ := ho
  have k1 : (7 : Nat) ∉ [m] := fun z => by rw [← List.mem_singleton.mp z, o1] at h2; cases h2
  have k2 : (8 : Nat) ∉ [m] := fun z => by rw [← List.mem_singleton.mp z, o2] at h2; cases h2
  exact ⟨hc.1 _ _ k1 o1, B, hc.1 _ _ k2 o2, o3⟩
theorem zc110_76 {O : List Nat} (hd : 8 ≤ d) (hm : zMa h m sk bits bound (v :: W) S p) (ho : zOut h O) (hw : zWf v) (hl : O.length + (zser v).length ≤ 2686) (hh : 2 * zht v ≤ d) (g : ∀ h1 h', zCe [m] h h1 0 0 → zOf h1 h' → zOut h' (O ++ zser v) → zown h' sk = some zHid → Q (.inr 2) (zrh (zth h') sk S)) : zG xs (d + 3) (110, 0, lv_args 0 [zo (some m), .int (nI 76)], []) (zrh h sk S) Q := by
  apply zm_110
  refine zQpop (d := d + 1) hm (fun a1 h1 e1 m1 v1 => ⟨fun z => absurd z (by decide), fun z => absurd z (by decide), fun _ => ?_, fun z => absurd rfl z.2.2⟩)
  obtain ⟨no, h2⟩ := m1.2.1
  have o1 := zOut_ce hm e1 ho
  refine zQgr m1 h2 rfl (zX_cvh (d := d + 2) (Q' := fun o h' => o = .inl none ∧ zOf h1 h' ∧ zOut h' (O ++ zser v)) m1.1 o1.1 (zc113 _ v (Nat.le_refl _) a1 d h1 O _ hw o1 v1 hl hh (fun h' f1 o2 => ⟨rfl, f1, o2⟩)) (fun o h3 hs hq => ?_))
  obtain ⟨rfl, f1, o2⟩ := hq
  exact zKV_v ⟨by omega, g h1 h3 e1 f1 o2 hs⟩
end MC11
/-! what the class holds: a big with each key once, keys ascending -/
def znm : Term → Term
  | .rem x l => .rem (znm x) (znm l)
  | .old l => .old (znm l)
  | .length l => .length (znm l)
  | .sum l => .sum (zenc ((zbm (zels (znm l))).map fun e => zent2 e.1 e.2))
  | .div c v => .div c (znm v)
  | .add a b => .add (znm a) (znm b)
  | t => t
section NM
variable {K T V key opt : Term} {es : List (Term × Term)} {L : List Term}
theorem znm_enc : ∀ L : List Term, znm (zenc L) = zenc (L.map znm)
  | [] => rfl
  | v :: L => by rw [zenc, znm, znm_enc L]; rfl
theorem znm_s : ∀ (K V : Term), zTok K → ztsim K = true → zVt K V → znm V = V := by
  intro K
  fun_induction ztsim K with
  | case1 c =>
    intro V hk hs hv
    have hc : 1 ≤ c ∧ c ≤ 4 := of_decide_eq_true hs
    rcases (by omega : c = 1 ∨ (c = 2 ∨ c = 3) ∨ c = 4) with h | h | h
    · rcases zVt_bool hk h hv with rfl | rfl <;> rfl
    · obtain ⟨s, n, rfl, _⟩ := zVt_num hk h hv; rfl
    · obtain ⟨k, w, rfl, _⟩ := zVt_text hk h hv; rfl
  | case2 c a b ih1 ih2 =>
    intro V hk hs hv
    simp only [Bool.and_eq_true, beq_iff_eq] at hs
    obtain ⟨⟨hc, ha⟩, hb⟩ := hs
    subst hc
    obtain ⟨x, y, rfl, h1, h2⟩ := zVt_pair hk rfl hv
    show Term.add (.div (.arg 23) (znm x)) (znm y) = _
    rw [ih1 x hk.2.1 ha h1, ih2 y hk.2.2 hb h2]
  | case3 => intro V hk hs; cases hs
/-- an entry with its value as the class has it -/
def znp (e : Term × Term) : Term × Term := (e.1, znm e.2)
theorem znm_es (hk : zTok K) (hs : ztsim K = true) : ∀ (es : List (Term × Term)), (∀ e ∈ es, zVt K e.1) → (es.map fun e => zent2 e.1 e.2).map znm = (es.map znp).map fun e => zent2 e.1 e.2
  | [], _ => rfl
  | e :: es, h => by
    rw [List.map_cons, List.map_cons, List.map_cons, List.map_cons, znm_es hk hs es (fun e he => h e (List.mem_cons_of_mem _ he))]
    congr 1
    show Term.add (.div (.arg 28) (znm e.1)) (znm e.2) = _
    rw [znm_s K _ hk hs (h e List.mem_cons_self)]
    rfl
theorem znm_get (key : Term) : ∀ (es : List (Term × Term)), znm (zget key es) = zget key (es.map znp)
  | [] => rfl
  | e :: es => by
    by_cases q : zcmp e.1 key < 0
    · rw [zget_lt q, List.map_cons, zget_lt (e := znp e) q]; exact znm_get key es
    · rw [zget_ge q, List.map_cons, zget_ge (e := znp e) q]
      show znm (if zcmp e.1 key = 0 then _ else _) = if zcmp e.1 key = 0 then _ else _
      split <;> rfl
theorem znm_opl (key : Term) (ho : opt = .arg 24 ∨ ∃ v, opt = .div (.arg 25) v) : (zopl key opt).map znp = zopl key (znm opt) := by
  rcases ho with rfl | ⟨v, rfl⟩ <;> rfl
theorem znm_upl (key : Term) (ho : opt = .arg 24 ∨ ∃ v, opt = .div (.arg 25) v) : ∀ (es : List (Term × Term)), (zupl key opt es).map znp = zupl key (znm opt) (es.map znp)
  | [] => by rw [zupl_nil, List.map_nil, zupl_nil, znm_opl key ho]
  | e :: es => by
    by_cases q : zcmp e.1 key < 0
    · rw [zupl_lt q, List.map_cons, List.map_cons, zupl_lt (e := znp e) q, znm_upl key ho es]
    · rw [zupl_ge q, List.map_cons, zupl_ge (e := znp e) q, List.map_append, znm_opl key ho]
      congr 1
      show List.map znp (if zcmp e.1 key = 0 then es else e :: es) = if zcmp e.1 key = 0 then es.map znp else znp e :: es.map znp
      split <;> rfl
theorem zget_mem (key : Term) (es : List (Term × Term)) : (zget key es != .arg 24) = zka key es (zkb key es) := by
  unfold zget
  split
  · rename_i q; rw [q]; rfl
  · rename_i q; rw [show zka key es (zkb key es) = false by simpa using q]; rfl
theorem znm_none (V : Term) (h : V = .arg 24 ∨ ∃ v, V = .div (.arg 25) v) : (znm V != .arg 24) = (V != .arg 24) := by
  rcases h with rfl | ⟨v, rfl⟩ <;> rfl
/-- a big's change -/
def zBc (K x : Term) : Prop := ∃ k v, zVt K k ∧ (x = zent2 k v ∨ x = .add (.div (.arg 29) k) k)
theorem zBc_nm (hk : zTok K) (hs : ztsim K = true) {x : Term} (h : zBc K x) : zBc K (znm x) ∧ zv1 (znm x) = zv1 x ∧ zgo (znm x) = zgo x ∧ (zgo x = 0 → zv2 (znm x) = znm (zv2 x)) := by
  obtain ⟨k, v, h1, h2⟩ := h
  have e := znm_s K k hk hs h1
  rcases h2 with rfl | rfl
  · have e2 : znm (zent2 k v) = zent2 k (znm v) := by show Term.add (.div (.arg 28) (znm k)) (znm v) = _; rw [e]; rfl
    rw [e2]
    exact ⟨⟨k, znm v, h1, Or.inl rfl⟩, rfl, rfl, fun _ => rfl⟩
  · have e2 : znm (.add (.div (.arg 29) k) k) = .add (.div (.arg 29) k) k := by show Term.add (.div (.arg 29) (znm k)) (znm k) = _; rw [e]
    rw [e2]
    exact ⟨⟨k, k, h1, Or.inr rfl⟩, rfl, rfl, fun z => by cases z⟩
theorem znm_fd (hk : zTok K) (hs : ztsim K = true) (key : Term) : ∀ (L : List Term), (∀ x ∈ L, zBc K x) → znm (zfd key L) = zfd key (L.map znm)
  | [], _ => rfl
  | x :: L, h => by
    obtain ⟨b1, b2, b3, b4⟩ := zBc_nm hk hs (h x List.mem_cons_self)
    rw [List.map_cons, zfd, zfd, b2, b3]
    split
    · split
      · rfl
      · rename_i q
        have : zgo x = 0 := by
          obtain ⟨k, v, _, h2⟩ := h x List.mem_cons_self
          rcases h2 with rfl | rfl
          · rfl
          · exact absurd rfl q
        rw [b4 this]; rfl
    · exact znm_fd hk hs key L (fun x hx => h x (List.mem_cons_of_mem _ hx))
theorem zBc_t {U : Term} (h : ∀ x ∈ L, ∃ k v, zVt K k ∧ ((x = zent2 k v ∧ zVt U v) ∨ x = .add (.div (.arg 29) k) k)) : ∀ x ∈ L, zBc K x := fun x hx => by
  obtain ⟨k, v, h1, h2⟩ := h x hx
  rcases h2 with ⟨h2, _⟩ | h2
  · exact ⟨k, v, h1, Or.inl h2⟩
  · exact ⟨k, v, h1, Or.inr h2⟩
theorem znm_sum (L : List Term) : znm (.sum (zenc L)) = .sum (zenc ((zbm (L.map znm)).map fun e => zent2 e.1 e.2)) := by
  show Term.sum (zenc ((zbm (zels (znm (zenc L)))).map _)) = _
  rw [znm_enc, zels_enc]
/-- what the class has of a map or a big: its entries -/
theorem znm_row (hg : zTg1 T) (hm : zkm T = true) (hv : zVt T V) : ∃ es, zRw3 (znm V) es ∧ (∀ e ∈ es, zVt (zt1 T) e.1) ∧ zSrt es ∧ es.length ≤ zmr V ∧ (∀ key, zVt (zt1 T) key → znm (zgt key V) = zget key es ∧ ztr (zgt key V != .arg 24) = ztr (zka key es (zkb key es))) ∧ (∀ key opt, zVt (zt1 T) key → (opt = .arg 24 ∨ ∃ v, opt = .div (.arg 25) v) → zRw3 (znm (zud key opt V)) (zupl key (znm opt) es)) := by
  have hc : ztc T = 9 ∨ ztc T = 10 := by unfold zkm at hm; simpa using hm
  have hk := (zTg1_1 hg).1
  have hs := zsim_of hg hc
  rcases hc with hc | hc
  · obtain ⟨es, rfl, h1, h2⟩ := zVt_map hg.1 hc hv
    have e1 : ∀ es : List (Term × Term), (∀ e ∈ es, zVt (zt1 T) e.1) → znm (.length (zenc (es.map fun e => zent2 e.1 e.2))) = .length (zenc ((es.map znp).map fun e => zent2 e.1 e.2)) := fun es h => by
      rw [znm, znm_enc, znm_es hk hs es h]
    refine ⟨es.map znp, Or.inl (e1 es (fun e he => (h1 e he).1)), fun e he => ?_, ?_, ?_, fun key hy => ?_, fun key opt hy ho => ?_⟩
    · obtain ⟨x, hx, rfl⟩ := List.mem_map.mp he
      exact (h1 x hx).1
    · exact List.pairwise_map.mpr h2
    · rw [List.length_map, zmr, zels_enc, List.length_map]; omega
    · have e2 : zgt key (.length (zenc (es.map fun e => zent2 e.1 e.2))) = zget key es := by
        show zget key _ = _
        rw [zels_enc, zpr_map]
      rw [e2]
      refine ⟨znm_get key es, ?_⟩
      rw [← zget_mem, ← znm_get, znm_none _ (zVt_opt (T := .div (.arg 6) (zt2 T)) ⟨Or.inl rfl, (zTg1_2 hg).1⟩ rfl (zget_t (fun e he => (h1 e he).2) key) |>.imp id (fun ⟨v, a, _⟩ => ⟨v, a⟩))]
    · have e3 : zud key opt (.length (zenc (es.map fun e => zent2 e.1 e.2))) = .length (zenc ((zupl key opt es).map fun e => zent2 e.1 e.2)) := by
        show Term.length _ = _
        rw [zels_enc, zpr_map]
      rw [e3]
      left
      rw [e1 _ (fun x hx => ?_), znm_upl key ho]
      rcases zupl_in es x hx with z | z
      · exact (h1 x z).1
      · rw [(zopl_in z).1]; exact hy
  · obtain ⟨L, rfl, h1⟩ := zVt_big hg.1 hc hv
    have hb := zBc_t h1
    have hb2 : ∀ x ∈ L.map znm, zbt (zt1 T) x := fun x hx => by
      obtain ⟨y, hy, rfl⟩ := List.mem_map.mp hx
      exact (zBc_nm hk hs (hb y hy)).1
    obtain ⟨b1, b2, b3⟩ := zbm_ok hk hs _ hb2
    refine ⟨zbm (L.map znm), Or.inr (znm_sum L), b1, b2, ?_, fun key hy => ?_, fun key opt hy ho => ?_⟩
    · rw [List.length_map] at b3; rw [zmr, zels_enc]; omega
    · have e2 : zgt key (.sum (zenc L)) = zfd key L := by
        show zfd key _ = _
        rw [zels_enc]
      have e4 : znm (zfd key L) = zget key (zbm (L.map znm)) := by rw [znm_fd hk hs key L hb, zfd_bm hk hs hy _ hb2]
      rw [e2]
      refine ⟨e4, ?_⟩
      rw [← zget_mem, ← e4, znm_none _ (zVt_opt (T := .div (.arg 6) (zt2 T)) ⟨Or.inl rfl, (zTg1_2 hg).1⟩ rfl (zfd_t h1 key) |>.imp id (fun ⟨v, a, _⟩ => ⟨v, a⟩))]
    · right
      have e := znm_s _ key hk hs hy
      rcases ho with rfl | ⟨v, rfl⟩
      · have : zud key (.arg 24) (.sum (zenc L)) = .sum (zenc (.add (.div (.arg 29) key) key :: L)) := rfl
        rw [this, znm_sum, List.map_cons, zbm]
        have e2 : znm (.add (.div (.arg 29) key) key) = .add (.div (.arg 29) key) key := by show Term.add (.div (.arg 29) (znm key)) (znm key) = _; rw [e]
        rw [e2]; rfl
      · have : zud key (.div (.arg 25) v) (.sum (zenc L)) = .sum (zenc (zent2 key v :: L)) := rfl
        rw [this, znm_sum, List.map_cons, zbm]
        have e2 : znm (zent2 key v) = zent2 key (znm v) := by show Term.add (.div (.arg 28) (znm key)) (znm v) = _; rw [e]; rfl
        rw [e2]; rfl
end NM
