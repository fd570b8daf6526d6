/-! the value that a fitting node is has the type -/
section RV
variable {N : List zNt} {i : Nat} {T K : Term} {e : zNt}
theorem zfst_none : ∀ {l : List (Option Nat)}, zfst l = none → ∀ o ∈ l, o = none
  | [], _, o, h => by cases h
  | some x :: l, h, _, _ => by cases h
  | none :: l, h, o, ho => by
    rcases List.mem_cons.mp ho with rfl | z
    · rfl
    · exact zfst_none (l := l) h o z
theorem zMi_un (hg : zGd N) (hm : zMi N i false K = none) : ∃ e, N[i]? = some e ∧ zfit false K e = true ∧ ∀ j ∈ zchn N (eM e) (i + 1), zMi N j (zpt false K e (j == i + 1)).1 (zpt false K e (j == i + 1)).2 = none := by
  rw [zMi_eq hg.1.1] at hm
  unfold zmiB at hm
  cases he : N[i]? with
  | none => rw [he] at hm; cases hm
  | some e =>
    rw [he] at hm
    dsimp only at hm
    split at hm
    · cases hm
    · rename_i hf
      rw [if_neg (by decide)] at hm
      exact ⟨e, rfl, by cases hq : zfit false K e; exact absurd hq hf; rfl, fun j hj => zfst_none hm _ (List.mem_map.mpr ⟨j, hj, rfl⟩)⟩
theorem zMi_ue (hg : zGd N) (hm : zMi N i true K = none) : ∃ e, N[i]? = some e ∧ zisw e 28 2 = true ∧ zMi N (i + 1) false (zt1 K) = none ∧ zMi N (znx N (i + 1)) false (zt2 K) = none ∧ zdis N i = false := by
  rw [zMi_eq hg.1.1] at hm
  unfold zmiB at hm
  cases he : N[i]? with
  | none => rw [he] at hm; cases hm
  | some e =>
    rw [he] at hm
    dsimp only at hm
    split at hm
    · cases hm
    · rename_i hf
      rw [if_pos rfl] at hm
      unfold zor at hm
      cases h1 : zMi N (i + 1) false (zt1 K) with
      | some x => rw [h1] at hm; cases hm
      | none =>
        rw [h1] at hm
        dsimp only at hm
        cases h2 : zdis N i with
        | true => rw [h2, if_pos rfl] at hm; cases hm
        | false =>
          rw [h2, if_neg (by decide)] at hm
          exact ⟨e, rfl, by cases hq : zfit true K e; exact absurd hq hf; exact hq, rfl, hm, rfl⟩
theorem ztv_at (hN : N.length ≤ 100) (he : N[i]? = some e) : ztv N i false T = (if ztc T = 8 then .old (zenc ((zchn N (eM e) (i + 1)).map fun j => ztv N j false (zt1 T)))
      else if ztc T = 9 then .length (zenc ((zchn N (eM e) (i + 1)).map fun j => ztv N j true T))
      else if ztc T = 10 then .sum (zenc ((zchn N (eM e) (i + 1)).map fun j => ztv N j true T))
      else if eS e = 0 then znb e
      else if eS e = 1 then .mul (.arg (eC e)) (.arg (eL e))
      else zwd (eC e) ((zchn N (eM e) (i + 1)).map fun j => ztv N j (zpt false T e (j == i + 1)).1 (zpt false T e (j == i + 1)).2)) := by
  rw [ztv_eq hN, ztvB, he]
  first | done | rfl
theorem ztv_e (hN : N.length ≤ 100) (he : N[i]? = some e) : ztv N i true T = zent2 (ztv N (i + 1) false (zt1 T)) (ztv N (znx N (i + 1)) false (zt2 T)) := by
  rw [ztv_eq hN, ztvB, he]
  first | done | rfl
theorem zkid_1 {c : Nat} (hg : zGd N) (he : N[i]? = some e) (hw : zisw e c 1 = true) : zchn N (eM e) (i + 1) = [i + 1] := by
  obtain ⟨w1, w2, w3⟩ := zisw_ok hw
  rw [w3]; rfl
/-- a simple value is the same with its type and without -/
theorem ztv_rw (hg : zGd N) : ∀ (K : Term) (i : Nat), zTok K → ztsim K = true → zMi N i false K = none → ztv N i false K = zrw N i := by
  intro K
  fun_induction ztsim K with
  | case1 c =>
    intro i hk hs h1
    have hc : 1 ≤ c ∧ c ≤ 4 := of_decide_eq_true hs
    obtain ⟨e, he, hf, hch⟩ := zMi_un hg h1
    have hcc : ztc (.arg c) = c := rfl
    rw [ztv_at hg.1.1 he, hcc, if_neg (by omega), if_neg (by omega), if_neg (by omega), zrw_eq hg.1.1 he]
    unfold zfit at hf
    rw [hcc, if_neg (by decide), if_neg (by omega)] at hf
    by_cases s0 : eS e = 0
    · rw [if_pos s0, if_pos s0]; rfl
    · rw [if_neg s0, if_neg s0]
      by_cases s1 : eS e = 1
      · rw [if_pos s1, if_pos s1]
      · rw [if_neg s1, if_neg s1]
        by_cases c1 : c = 1
        · rw [if_pos c1] at hf
          have : ∃ x, zisw e x 0 = true := by
            cases hq : zisw e 21 0 with
            | true => exact ⟨21, hq⟩
            | false => rw [hq] at hf; exact ⟨22, by simpa using hf⟩
          obtain ⟨x, hw⟩ := this
          obtain ⟨w1, w2, w3⟩ := zisw_ok hw
          rw [if_neg (by omega), w3]
          rfl
        · rw [if_neg c1] at hf
          exfalso
          by_cases c2 : c = 2
          · rw [if_pos c2] at hf; exact s0 (eq_of_beq hf)
          · rw [if_neg c2] at hf
            by_cases c3 : c = 3
            · rw [if_pos c3] at hf; simp at hf; exact s0 hf.1
            · rw [if_neg c3, if_pos (by omega)] at hf; exact s1 (eq_of_beq hf)
  | case2 c a b ih1 ih2 =>
    intro i hk hs h1
    simp only [Bool.and_eq_true, beq_iff_eq] at hs
    obtain ⟨⟨hc, ha⟩, hb⟩ := hs
    subst hc
    obtain ⟨e, he, hf, hch⟩ := zMi_un hg h1
    have hw : zisw e 23 2 = true := hf
    obtain ⟨w1, w2, w3⟩ := zisw_ok hw
    obtain ⟨k1, k2, k3, k4, k5⟩ := zkid_w hg he hw
    rw [k1] at hch
    have m1 := hch (i + 1) List.mem_cons_self
    have m2 := hch (znx N (i + 1)) (List.mem_cons_of_mem _ List.mem_cons_self)
    rw [beq_self_eq_true] at m1
    rw [k2] at m2
    have e1 := ih1 (i + 1) hk.2.1 ha m1
    have e2 := ih2 (znx N (i + 1)) hk.2.2 hb m2
    rw [k3, ztv_at hg.1.1 he, show ztc (.add (.div (.arg 5) a) b) = 5 from rfl, if_neg (by decide), if_neg (by decide), if_neg (by decide), if_neg (by omega), if_neg (by omega), k1, ← e1, ← e2, w2, List.map_cons, List.map_cons, beq_self_eq_true, k2]
    rfl
  | case3 => intro i hk hs; cases hs
theorem zsrt_of {R : Term × Term → Term × Term → Prop} (tr : ∀ a b c, R a b → R b c → R a c) : ∀ (l : List (Term × Term)), (∀ k a b, l[k]? = some a → l[k + 1]? = some b → R a b) → List.Pairwise R l
  | [], _ => List.Pairwise.nil
  | [a], _ => List.pairwise_singleton _ _
  | a :: b :: l, h => by
    have ih := zsrt_of tr (b :: l) (fun k x y hx hy => h (k + 1) x y hx hy)
    have ab := h 0 a b rfl rfl
    refine List.pairwise_cons.mpr ⟨fun x hx => ?_, ih⟩
    rcases List.mem_cons.mp hx with rfl | z
    · exact ab
    · exact tr _ _ _ ab ((List.pairwise_cons.mp ih).1 x z)
end RV
section RV2
variable {N : List zNt} {i : Nat} {T K : Term} {e : zNt}
theorem zsim_of (hg : zTg1 T) (hc : ztc T = 9 ∨ ztc T = 10) : ztsim (zt1 T) = true := by
  have := hg.2
  rw [zsh2 hg.1 (by omega)] at this
  exact this.1 hc
/-- an entry's pair -/
def zep (N : List zNt) (T : Term) (j : Nat) : Term × Term := (ztv N (j + 1) false (zt1 T), ztv N (znx N (j + 1)) false (zt2 T))
def zKyl (T : Term) (a b : Term × Term) : Prop := zVt (zt1 T) a.1 ∧ zVt (zt1 T) b.1 ∧ zcmp a.1 b.1 < 0
theorem zdis_e {a b : Term × Term} {k : Nat} (hg : zGd N) (he : N[i]? = some e) (hk : zTok (zt1 T)) (hs : ztsim (zt1 T) = true) (hch : ∀ j ∈ zchn N (eM e) (i + 1), zMi N j true T = none) (ha : ((zchn N (eM e) (i + 1)).map (zep N T))[k]? = some a) (hb : ((zchn N (eM e) (i + 1)).map (zep N T))[k + 1]? = some b) : zcmp a.1 b.1 < 0 := by
  rw [List.getElem?_map] at ha hb
  obtain ⟨ja, ha1, rfl⟩ := Option.map_eq_some_iff.mp ha
  obtain ⟨jb, hb1, rfl⟩ := Option.map_eq_some_iff.mp hb
  obtain ⟨ea, a1, a2, a3, a4, a5⟩ := zMi_ue hg (hch ja (List.mem_of_getElem? ha1))
  obtain ⟨eb, b1, b2, b3, b4, b5⟩ := zMi_ue hg (hch jb (List.mem_of_getElem? hb1))
  have hd := zdis_s hg he ha1 hb1
  rw [b5] at hd
  show zcmp (ztv N (ja + 1) false (zt1 T)) (ztv N (jb + 1) false (zt1 T)) < 0
  rw [ztv_rw hg _ _ hk hs a3, ztv_rw hg _ _ hk hs b3]
  simpa using hd.symm
theorem zrows_t (hg : zGd N) (ht : zTg1 T) (hc : ztc T = 9 ∨ ztc T = 10) (he : N[i]? = some e) (hch : ∀ j ∈ zchn N (eM e) (i + 1), zMi N j true T = none) (IH : ∀ j, i < j → ∀ T, zTg1 T → zMi N j false T = none → zVt T (ztv N j false T)) :
    ((zchn N (eM e) (i + 1)).map fun j => ztv N j true T) = (((zchn N (eM e) (i + 1)).map (zep N T)).map fun e => zent2 e.1 e.2) ∧ (∀ x ∈ (zchn N (eM e) (i + 1)).map (zep N T), zVt (zt1 T) x.1 ∧ zVt (zt2 T) x.2) ∧ zSrt ((zchn N (eM e) (i + 1)).map (zep N T)) := by
  have t1 : ∀ x ∈ (zchn N (eM e) (i + 1)).map (zep N T), zVt (zt1 T) x.1 ∧ zVt (zt2 T) x.2 := by
    intro x hx
    obtain ⟨j, hj, rfl⟩ := List.mem_map.mp hx
    obtain ⟨ej, h1, h2, h3, h4, h5⟩ := zMi_ue hg (hch j hj)
    have hjl := zchn_ge _ _ _ hj
    have hz := znx_ge (N := N) (i := j + 1)
    exact ⟨IH (j + 1) (by omega) _ (zTg1_1 ht) h3, IH (znx N (j + 1)) (by omega) _ (zTg1_2 ht) h4⟩
  refine ⟨?_, t1, ?_⟩
  · rw [List.map_map]
    refine List.map_congr_left (fun j hj => ?_)
    obtain ⟨ej, h1, h2, h3, h4, h5⟩ := zMi_ue hg (hch j hj)
    exact ztv_e hg.1.1 h1
  · have hs := zsim_of ht hc
    have hk := (zTg1_1 ht).1
    have tr : ∀ a b c : Term × Term, zKyl T a b → zKyl T b c → zKyl T a c := fun a b c h1 h2 => ⟨h1.1, h2.2.1, (zlt_t hk hs h1.1 h2.2.1).mpr (ztr_t hk hs h1.1 h1.2.1 h2.2.1 ((zlt_t hk hs h1.1 h1.2.1).mp h1.2.2) ((zlt_t hk hs h2.1 h2.2.1).mp h2.2.2))⟩
    have hp : List.Pairwise (zKyl T) ((zchn N (eM e) (i + 1)).map (zep N T)) := by
      refine zsrt_of tr _ (fun k a b ha hb => ?_)
      refine ⟨(t1 a (List.mem_of_getElem? ha)).1, (t1 b (List.mem_of_getElem? hb)).1, ?_⟩
      exact zdis_e hg he hk hs hch ha hb
    exact List.Pairwise.imp (fun h => h.2.2) hp
theorem zwd_0 (c : Nat) : zwd c [] = .arg c := rfl
theorem zpt_0 (T : Term) (e : zNt) (b : Bool) (h : ¬ (ztc T = 9 ∨ ztc T = 10)) : zpt false T e b = (false, if (ztc T = 5 ∧ b = false) ∨ (ztc T = 7 ∧ eC e = 27) then zt2 T else zt1 T) := by
  unfold zpt; rw [if_neg (by decide), if_neg h]
theorem zpt_9 (T : Term) (e : zNt) (b : Bool) (h : ztc T = 9 ∨ ztc T = 10) : zpt false T e b = (true, T) := by
  unfold zpt; rw [if_neg (by decide), if_pos h]
/-- unit, bool, numbers, text -/
theorem ztv_ta (hg : zGd N) (ht : zTg1 T) (hc : ztc T ≤ 4) (he : N[i]? = some e) (hf : zfit false T e = true) : zVt T (ztv N i false T) := by
  have hek := hg.1.2 i e he
  rw [ztv_at hg.1.1 he, if_neg (by omega), if_neg (by omega), if_neg (by omega)]
  have hT : T = .arg (ztc T) := ztok_a ht.1 rfl hc
  unfold zfit at hf
  rw [if_neg (by decide)] at hf
  by_cases c0 : ztc T = 0
  · rw [if_pos c0] at hf
    obtain ⟨w1, w2, w3⟩ := zisw_ok hf
    rw [if_neg (by omega), if_neg (by omega), w3, hT, c0]
    show zVt (.arg 0) (zwd (eC e) [])
    rw [w2]; exact zVt_i0
  · rw [if_neg c0] at hf
    by_cases c1 : ztc T = 1
    · rw [if_pos c1] at hf
      have : ∃ x, zisw e x 0 = true ∧ (x = 21 ∨ x = 22) := by
        cases hq : zisw e 21 0 with
        | true => exact ⟨21, hq, Or.inl rfl⟩
        | false => rw [hq] at hf; exact ⟨22, by simpa using hf, Or.inr rfl⟩
      obtain ⟨x, hw, hx⟩ := this
      obtain ⟨w1, w2, w3⟩ := zisw_ok hw
      rw [if_neg (by omega), if_neg (by omega), w3, hT, c1]
      show zVt (.arg 1) (zwd (eC e) [])
      rw [w2]
      rcases hx with rfl | rfl
      · exact zVt_i1 false
      · exact zVt_i1 true
    · rw [if_neg c1] at hf
      have num : eS e = 0 → (ztc T = 3 → eC e = 0) → (ztc T = 2 ∨ ztc T = 3) → zVt T (znb e) := by
        intro s0 h3 h23
        obtain ⟨n1, n2, n3, n4, n5⟩ := hek.2.2.2.2.1 s0
        have hb : eH e * 1152921504606846976 + eL e < 2 ^ 120 := by
          have : (2 : Nat) ^ 120 = 1152921504606846976 * 1152921504606846976 := by decide
          rw [this]; omega
        have e1 : znb e = zmn (decide (eC e = 1 ∧ eH e * 1152921504606846976 + eL e ≠ 0)) (eH e * 1152921504606846976 + eL e) := by
          unfold znb zmn
          congr 2
          by_cases q : eC e = 1 ∧ eH e * 1152921504606846976 + eL e ≠ 0
          · rw [if_pos q, decide_eq_true q]; rfl
          · rw [if_neg q, decide_eq_false q]; rfl
        rw [e1, hT]
        rcases h23 with h | h
        · rw [h]; exact zVt_i2 hb (fun z => (of_decide_eq_true z).2)
        · rw [h, decide_eq_false (fun z => by have := h3 h; omega)]; exact zVt_i3 hb
      by_cases c2 : ztc T = 2
      · rw [if_pos c2] at hf
        have s0 : eS e = 0 := eq_of_beq hf
        rw [if_pos s0]; exact num s0 (fun z => by omega) (Or.inl c2)
      · rw [if_neg c2] at hf
        by_cases c3 : ztc T = 3
        · rw [if_pos c3] at hf
          simp at hf
          rw [if_pos hf.1]; exact num hf.1 (fun _ => hf.2) (Or.inr c3)
        · rw [if_neg c3, if_pos (by omega)] at hf
          have s1 : eS e = 1 := eq_of_beq hf
          rw [if_neg (by omega), if_pos s1, hT, show ztc T = 4 by omega]
          exact zVt_i4 (hek.2.2.2.2.2.1 s1).2
/-- pairs, options, ors -/
theorem ztv_tb (hg : zGd N) (ht : zTg1 T) (hc : ztc T = 5 ∨ ztc T = 6 ∨ ztc T = 7) (he : N[i]? = some e) (hf : zfit false T e = true) (hch : ∀ j ∈ zchn N (eM e) (i + 1), zMi N j (zpt false T e (j == i + 1)).1 (zpt false T e (j == i + 1)).2 = none) (IH : ∀ j, i < j → ∀ T, zTg1 T → zMi N j false T = none → zVt T (ztv N j false T)) : zVt T (ztv N i false T) := by
  rw [ztv_at hg.1.1 he, if_neg (by omega), if_neg (by omega), if_neg (by omega)]
  have hz := znx_ge (N := N) (i := i + 1)
  have hp : ∀ b, zpt false T e b = (false, if (ztc T = 5 ∧ b = false) ∨ (ztc T = 7 ∧ eC e = 27) then zt2 T else zt1 T) := fun b => zpt_0 T e b (by omega)
  simp only [hp] at hch ⊢
  have one : ∀ c, zisw e c 1 = true → zVt (if ztc T = 7 ∧ eC e = 27 then zt2 T else zt1 T) (ztv N (i + 1) false (if ztc T = 7 ∧ eC e = 27 then zt2 T else zt1 T)) ∧ ¬ ztc T = 5 → zwd (eC e) ((zchn N (eM e) (i + 1)).map fun j => ztv N j false (if ztc T = 5 ∧ (j == i + 1) = false ∨ ztc T = 7 ∧ eC e = 27 then zt2 T else zt1 T)) = .div (.arg (eC e)) (ztv N (i + 1) false (if ztc T = 7 ∧ eC e = 27 then zt2 T else zt1 T)) := by
    intro c hw h
    rw [zkid_1 hg he hw, List.map_cons, List.map_nil]
    show Term.div _ _ = _
    congr 2
    by_cases q : ztc T = 7 ∧ eC e = 27
    · rw [if_pos q, if_pos (Or.inr q)]
    · rw [if_neg q, if_neg (by rintro (z | z); exact h.2 z.1; exact q z)]
  unfold zfit at hf
  rw [if_neg (by decide), if_neg (by omega), if_neg (by omega), if_neg (by omega), if_neg (by omega), if_neg (by omega)] at hf
  by_cases c5 : ztc T = 5
  · rw [if_pos c5] at hf
    obtain ⟨w1, w2, w3⟩ := zisw_ok hf
    obtain ⟨k1, k2, k3, k4, k5⟩ := zkid_w hg he hf
    rw [k1] at hch
    have m1 := hch (i + 1) List.mem_cons_self
    have m2 := hch (znx N (i + 1)) (List.mem_cons_of_mem _ List.mem_cons_self)
    rw [if_neg (by rintro (z | z); simp at z; omega)] at m1
    rw [if_pos (Or.inl ⟨c5, k2⟩)] at m2
    rw [if_neg (by omega), if_neg (by omega), k1, List.map_cons, List.map_cons, if_neg (by rintro (z | z); simp at z; omega), if_pos (Or.inl ⟨c5, k2⟩), w2]
    show zVt T (.add (.div (.arg 23) _) _)
    have v1 := IH (i + 1) (by omega) _ (zTg1_1 ht) m1
    have v2 := IH (znx N (i + 1)) (by omega) _ (zTg1_2 ht) m2
    have hT := zsh2 ht.1 (Or.inl c5)
    rw [c5] at hT
    generalize ztv N (i + 1) false (zt1 T) = a at v1 ⊢
    generalize ztv N (znx N (i + 1)) false (zt2 T) = b at v2 ⊢
    rw [hT]
    exact zVt_i5 v1 v2
  · rw [if_neg c5] at hf
    by_cases c6 : ztc T = 6
    · rw [if_pos c6] at hf
      have hT := zsh1 ht.1 (Or.inl c6)
      rw [c6] at hT
      cases hq : zisw e 24 0 with
      | true =>
        obtain ⟨w1, w2, w3⟩ := zisw_ok hq
        rw [if_neg (by omega), if_neg (by omega), w3, w2]
        show zVt T (.arg 24)
        rw [hT]; exact zVt_i6n
      | false =>
        rw [hq] at hf
        have hw : zisw e 25 1 = true := by simpa using hf
        obtain ⟨w1, w2, w3⟩ := zisw_ok hw
        have m1 := hch (i + 1) (by rw [zkid_1 hg he hw]; exact List.mem_cons_self)
        rw [if_neg (by rintro (z | z) <;> omega)] at m1
        have v1 := IH (i + 1) (by omega) _ (zTg1_1 ht) m1
        have q7 : ¬ (ztc T = 7 ∧ eC e = 27) := by omega
        rw [if_neg (by omega), if_neg (by omega), one 25 hw ⟨by rw [if_neg q7]; exact v1, c5⟩, if_neg q7, w2]
        generalize ztv N (i + 1) false (zt1 T) = a at v1 ⊢
        rw [hT]; exact zVt_i6 v1
    · have c7 : ztc T = 7 := by omega
      rw [if_neg c6, if_pos c7] at hf
      have hT := zsh2 ht.1 (Or.inr (Or.inl c7))
      rw [c7] at hT
      cases hq : zisw e 26 1 with
      | true =>
        obtain ⟨w1, w2, w3⟩ := zisw_ok hq
        have q7 : ¬ (ztc T = 7 ∧ eC e = 27) := by omega
        have m1 := hch (i + 1) (by rw [zkid_1 hg he hq]; exact List.mem_cons_self)
        rw [if_neg (by rintro (z | z) <;> omega)] at m1
        have v1 := IH (i + 1) (by omega) _ (zTg1_1 ht) m1
        rw [if_neg (by omega), if_neg (by omega), one 26 hq ⟨by rw [if_neg q7]; exact v1, c5⟩, if_neg q7, w2]
        generalize ztv N (i + 1) false (zt1 T) = a at v1 ⊢
        rw [hT]; exact zVt_i7l v1
      | false =>
        rw [hq] at hf
        have hw : zisw e 27 1 = true := by simpa using hf
        obtain ⟨w1, w2, w3⟩ := zisw_ok hw
        have q7 : ztc T = 7 ∧ eC e = 27 := ⟨c7, w2⟩
        have m1 := hch (i + 1) (by rw [zkid_1 hg he hw]; exact List.mem_cons_self)
        rw [if_pos (Or.inr q7)] at m1
        have v1 := IH (i + 1) (by omega) _ (zTg1_2 ht) m1
        rw [if_neg (by omega), if_neg (by omega), one 27 hw ⟨by rw [if_pos q7]; exact v1, c5⟩, if_pos q7, w2]
        generalize ztv N (i + 1) false (zt2 T) = a at v1 ⊢
        rw [hT]; exact zVt_i7r v1
theorem ztv_t (hg : zGd N) : ∀ (n i : Nat) (T : Term), N.length ≤ n + i → zTg1 T → zMi N i false T = none → zVt T (ztv N i false T)
  | 0, i, T, hn, ht, hm => by
    obtain ⟨e, he, _⟩ := zMi_un hg hm
    have := (List.getElem?_eq_some_iff.mp he).1
    omega
  | n + 1, i, T, hn, ht, hm => by
    obtain ⟨e, he, hf, hch⟩ := zMi_un hg hm
    have IH : ∀ j, i < j → ∀ T, zTg1 T → zMi N j false T = none → zVt T (ztv N j false T) := fun j hj T ht hm => ztv_t hg n j T (by omega) ht hm
    have hle := zTok_c ht.1
    by_cases c4 : ztc T ≤ 4
    · exact ztv_ta hg ht c4 he hf
    · by_cases c7 : ztc T ≤ 7
      · exact ztv_tb hg ht (by omega) he hf hch IH
      · by_cases c8 : ztc T = 8
        · rw [ztv_at hg.1.1 he, if_pos c8]
          have hT := zsh1 ht.1 (Or.inr c8)
          rw [c8] at hT
          have : ∀ v ∈ (zchn N (eM e) (i + 1)).map fun j => ztv N j false (zt1 T), zVt (zt1 T) v := by
            intro v hv
            obtain ⟨j, hj, rfl⟩ := List.mem_map.mp hv
            have hjl := zchn_ge _ _ _ hj
            have m := hch j hj
            rw [zpt_0 T e _ (by omega)] at m
            dsimp only at m
            rw [if_neg (by omega)] at m
            exact IH j (by omega) _ (zTg1_1 ht) m
          generalize ((zchn N (eM e) (i + 1)).map fun j => ztv N j false (zt1 T)) = L at this ⊢
          rw [hT]
          exact zVt_i8 this
        · have h9 : ztc T = 9 ∨ ztc T = 10 := by omega
          have hch' : ∀ j ∈ zchn N (eM e) (i + 1), zMi N j true T = none := fun j hj => by
            have := hch j hj
            rw [zpt_9 T e _ h9] at this
            exact this
          obtain ⟨r1, r2, r3⟩ := zrows_t hg ht h9 he hch' IH
          have hT := zsh2 ht.1 (Or.inr (Or.inr h9))
          rw [ztv_at hg.1.1 he, if_neg c8, r1]
          generalize (zchn N (eM e) (i + 1)).map (zep N T) = L at r2 r3 ⊢
          rcases h9 with h9 | h9
          · rw [if_pos h9, hT, h9]
            exact zVt_i9 r2 r3
          · rw [if_neg (by omega), if_pos h9, hT, h9]
            refine zVt_i10 (fun x hx => ?_)
            obtain ⟨y, hy, rfl⟩ := List.mem_map.mp hx
            exact ⟨y.1, y.2, (r2 y hy).1, Or.inl ⟨rfl, (r2 y hy).2⟩⟩
end RV2
/-! rows grow by one at most -/
section RV3
variable {N : List zNt} {i : Nat} {T K V C : Term} {e : zNt} {B c bits : Nat} {vs vs' : List Term}
theorem zmr_enc : ∀ (L : List Term), (∀ v ∈ L, zmr v ≤ B) → zmr (zenc L) ≤ B
  | [], _ => Nat.zero_le _
  | v :: L, h => by
    have h1 := h v List.mem_cons_self
    have h2 := zmr_enc L (fun v hv => h v (List.mem_cons_of_mem _ hv))
    show max (zmr v) (zmr (zenc L)) ≤ B
    omega
theorem zmr_els : ∀ (l : Term) (v : Term), v ∈ zels l → zmr v ≤ zmr l := by
  intro l
  fun_induction zels l with
  | case1 x l ih =>
    intro v hv
    show zmr v ≤ max (zmr x) (zmr l)
    rcases List.mem_cons.mp hv with rfl | z
    · omega
    · have := ih v z; omega
  | case2 => intro v hv; cases hv
theorem zmr_old {L : List Term} (h : ∀ v ∈ L, zmr v ≤ B) (hl : L.length ≤ B) : zmr (.old (zenc L)) ≤ B ∧ zmr (.length (zenc L)) ≤ B ∧ zmr (.sum (zenc L)) ≤ B := by
  have := zmr_enc L h
  refine ⟨?_, ?_, ?_⟩ <;> rw [zmr, zels_enc] <;> omega
theorem zmr_v1 (V : Term) : zmr (zv1 V) ≤ zmr V := by
  unfold zv1
  split
  · rw [zmr]; exact Nat.le_refl _
  · rw [zmr, zmr]; omega
  · exact Nat.le_refl _
theorem zmr_v2 (V : Term) : zmr (zv2 V) ≤ zmr V := by
  unfold zv2
  split
  · rw [zmr, zmr]; omega
  · exact Nat.le_refl _
theorem zmr_ent (k v : Term) : zmr (zent2 k v) = max (zmr k) (zmr v) := rfl
theorem zmr_rws (V : Term) : (∀ v ∈ zrws V, zmr v ≤ zmr V) ∧ (zrws V).length ≤ zmr V := by
  unfold zrws
  split
  · rename_i l; rw [zmr]; exact ⟨fun v hv => by have := zmr_els l v hv; omega, by omega⟩
  · rename_i l; rw [zmr]; exact ⟨fun v hv => by have := zmr_els l v hv; omega, by omega⟩
  · rename_i l; rw [zmr]; exact ⟨fun v hv => by have := zmr_els l v hv; omega, by omega⟩
  · exact ⟨fun v hv => (by cases hv), Nat.zero_le _⟩
theorem zmr_cons (x y : Term) (h1 : zmr x ≤ B) (h2 : zmr y ≤ B) : zmr (zcons x y) ≤ B + 1 := by
  unfold zcons
  split
  · rename_i l
    rw [zmr] at h2
    show max (zels (.rem x l)).length (max (zmr x) (zmr l)) ≤ B + 1
    show max ((zels l).length + 1) _ ≤ _
    omega
  · omega
theorem zmr_get (key : Term) : ∀ (es : List (Term × Term)), (∀ e ∈ es, zmr e.2 ≤ B) → zmr (zget key es) ≤ B := by
  intro es h
  unfold zget
  split
  · rename_i q
    unfold zka at q
    split at q
    · rename_i e he
      rw [he]
      exact h e (List.mem_of_getElem? he)
    · cases q
  · exact Nat.zero_le _
theorem zmr_fd (key : Term) : ∀ (L : List Term), (∀ v ∈ L, zmr v ≤ B) → zmr (zfd key L) ≤ B
  | [], _ => Nat.zero_le _
  | x :: L, h => by
    unfold zfd
    split
    · split
      · exact Nat.zero_le _
      · show zmr (zv2 x) ≤ B
        have := zmr_v2 x; have := h x List.mem_cons_self; omega
    · exact zmr_fd key L (fun v hv => h v (List.mem_cons_of_mem _ hv))
theorem zmr_gt (key : Term) (h : zmr V ≤ B) : zmr (zgt key V) ≤ B := by
  unfold zgt
  split
  · rename_i l
    rw [zmr] at h
    exact zmr_fd key _ (fun v hv => by have := zmr_els l v hv; omega)
  · rename_i l
    rw [zmr] at h
    refine zmr_get key _ (fun e he => ?_)
    obtain ⟨x, hx, rfl⟩ := List.mem_map.mp he
    have := zmr_els l x hx
    have := zmr_v2 x
    show zmr (zv2 x) ≤ B
    omega
  · exact Nat.zero_le _
theorem zmr_ud (k o : Term) (h : zmr V ≤ B) (hk : zmr k ≤ B) (ho : zmr o ≤ B) : zmr (zud k o V) ≤ B + 1 := by
  unfold zud
  split
  · rename_i l
    rw [zmr] at h
    have : ∀ x, zmr x ≤ B → zmr (.sum (.rem x l)) ≤ B + 1 := fun x hx => by
      show max ((zels l).length + 1) (max (zmr x) (zmr l)) ≤ B + 1
      omega
    refine this _ ?_
    split
    · rename_i c v
      have ho : zmr v ≤ B := ho
      rw [zmr_ent]; omega
    · show max (zmr k) (zmr k) ≤ B
      omega
  · rename_i l
    rw [zmr] at h
    refine (zmr_old (fun v hv => ?_) ?_).2.1
    · obtain ⟨x, hx, rfl⟩ := List.mem_map.mp hv
      rw [zmr_ent]
      rcases zupl_in _ x hx with z | z
      · obtain ⟨y, hy, rfl⟩ := List.mem_map.mp z
        have := zmr_els l y hy
        have := zmr_v1 y
        have := zmr_v2 y
        show max (zmr (zv1 y)) (zmr (zv2 y)) ≤ B + 1
        omega
      · obtain ⟨z1, c, z2⟩ := zopl_in z
        rw [z2] at ho
        have ho : zmr x.2 ≤ B := ho
        rw [z1]; omega
    · rw [List.length_map]
      have := zupl_len (key := k) (opt := o) ((zels l).map zpr)
      rw [List.length_map] at this
      omega
  · omega
theorem zmr_mn (s : Bool) (n : Nat) : zmr (zmn s n) = 0 := rfl
theorem zmr_szd {r : Bool × Nat} (h : zszd bits r = some V) : zmr V = 0 := by
  unfold zszd at h
  split at h
  · cases h; rfl
  · cases h
theorem zmr_cpn (r : Int32) : zmr (zcpn r) = 0 := by
  unfold zcpn
  split
  · rfl
  · split <;> rfl
theorem zmr_tr (b : Bool) : zmr (ztr b) = 0 := by unfold ztr; rfl
end RV3
section RV4
variable {N : List zNt} {i : Nat} {T K V C v : Term} {e : zNt} {B c bits : Nat} {vs vs' : List Term}
theorem zmr_at (h : ∀ v ∈ vs, zmr v ≤ B) (i : Nat) : zmr (zkat vs i) ≤ B := by
  by_cases hi : i < vs.length
  · rw [zkat_lt hi]; exact h _ (List.getElem_mem hi)
  · have : zkat vs i = .arg 0 := by unfold zkat; rw [List.getD_eq_getElem?_getD, List.getElem?_eq_none (by omega)]; rfl
    rw [this]; exact Nat.zero_le _
theorem zite_s {p : Prop} [Decidable p] {a b : Option Term} (h1 : ∀ v, a = some v → zmr v ≤ B) (h2 : ∀ v, b = some v → zmr v ≤ B) : ∀ v, (if p then a else b) = some v → zmr v ≤ B := by
  intro v h
  split at h
  · exact h1 v h
  · exact h2 v h
theorem zsom_r {a : Term} (h : zmr a ≤ B) : ∀ v, some a = some v → zmr v ≤ B := fun v hv => by cases hv; exact h
theorem zmr_rv (h : ∀ i, zmr (zkat vs i) ≤ B) (hC : zmr C ≤ B) : ∀ v, zrv bits c vs C = some v → zmr v ≤ B + 1 := by
  have h0 := h 0
  have h1 := h 1
  have z0 : ∀ {a : Term}, zmr a = 0 → ∀ v, some a = some v → zmr v ≤ B + 1 := fun e v hv => by cases hv; omega
  have zs : ∀ {r : Bool × Nat} v, zszd bits r = some v → zmr v ≤ B + 1 := fun v hv => by rw [zmr_szd hv]; omega
  unfold zrv
  refine zite_s (zsom_r (by omega)) (zite_s (zsom_r (by omega)) (zite_s (z0 rfl) (zite_s (zsom_r ?_) (zite_s (zsom_r ?_) (zite_s (zsom_r ?_) (zite_s (zsom_r ?_) (zite_s (z0 rfl) (zite_s (zsom_r ?_) (zite_s (zsom_r ?_) (zite_s (z0 rfl) (zite_s (zsom_r (zmr_cons _ _ h0 h1)) (zite_s (z0 rfl) (zite_s (z0 rfl) (zite_s (zsom_r ?_) (zite_s (zsom_r (zmr_ud _ _ (h 2) h0 h1)) (zite_s (z0 (zmr_tr _)) (zite_s (z0 (zmr_tr _)) (zite_s (z0 (zmr_tr _)) (zite_s (z0 (zmr_tr _)) (zite_s zs (zite_s zs (zite_s zs (zite_s (zite_s (z0 rfl) (zite_s (z0 rfl) (fun v hv => by cases hv))) (zite_s (z0 rfl) (zite_s (z0 rfl) (zite_s (zsom_r ?_) (zite_s (zsom_r (by omega)) (zite_s (z0 (zmr_cpn _)) (zite_s (zite_s (z0 rfl) (fun v hv => by cases hv)) (z0 (zmr_tr _)))))))))))))))))))))))))))))))
  · show max (zmr (zkat vs 0)) (zmr (zkat vs 1)) ≤ _; omega
  · have := zmr_v1 (zkat vs 0); omega
  · have := zmr_v2 (zkat vs 0); omega
  · show zmr (zkat vs 0) ≤ _; omega
  · show zmr (zkat vs 0) ≤ _; omega
  · show zmr (zkat vs 0) ≤ _; omega
  · have := zmr_gt (V := zkat vs 1) (zkat vs 0) h1; omega
  · split
    · exact Nat.zero_le _
    · show zmr (zkat vs 0) ≤ _; omega
theorem zmr_op (h : ∀ v ∈ vs, zmr v ≤ B) (hC : zmr C ≤ B) (ho : zop bits c vs C = some vs') : ∀ v ∈ vs', zmr v ≤ B + 1 := by
  unfold zop at ho
  have hd : ∀ k, ∀ v ∈ vs.drop k, zmr v ≤ B + 1 := fun k v hv => by have := h v (List.mem_of_mem_drop hv); omega
  split at ho
  · cases ho; exact hd 1
  · split at ho
    · cases ho
      intro v hv
      rcases List.mem_cons.mp hv with rfl | z
      · have := zmr_at h 1; omega
      · rcases List.mem_cons.mp z with rfl | z
        · have := zmr_at h 0; omega
        · exact hd 2 v z
    · obtain ⟨x, e1, rfl⟩ := Option.map_eq_some_iff.mp ho
      intro v hv
      rcases List.mem_cons.mp hv with rfl | z
      · exact zmr_rv (zmr_at h) hC _ e1
      · exact hd _ v z
theorem zmr_wd (c : Nat) {l : List Term} (h : ∀ v ∈ l, zmr v ≤ B) : zmr (zwd c l) ≤ B := by
  unfold zwd
  split
  · exact Nat.zero_le _
  · rename_i v; exact h v List.mem_cons_self
  · rename_i v u l
    have := h v List.mem_cons_self
    have := h u (List.mem_cons_of_mem _ List.mem_cons_self)
    show max (zmr v) (zmr u) ≤ B
    omega
theorem zmr_tv (hg : zGd N) : ∀ (n i : Nat) (kd : Bool) (T : Term), N.length ≤ n + i → zmr (ztv N i kd T) ≤ 40
  | 0, i, kd, T, hn => by
    rw [ztv_eq hg.1.1, ztvB, List.getElem?_eq_none (by omega)]; exact Nat.zero_le _
  | n + 1, i, kd, T, hn => by
    cases he : N[i]? with
    | none => rw [ztv_eq hg.1.1, ztvB, he]; exact Nat.zero_le _
    | some e =>
      have hm := (hg.1.2 i e he).2.2.1
      have hz := znx_ge (N := N) (i := i + 1)
      have hl : ∀ (f : Nat → Term), ((zchn N (eM e) (i + 1)).map f).length ≤ 40 := fun f => by rw [List.length_map, zchn_len]; exact hm
      have hc : ∀ (f : Nat → Bool × Term), ∀ v ∈ (zchn N (eM e) (i + 1)).map fun j => ztv N j (f j).1 (f j).2, zmr v ≤ 40 := fun f v hv => by
        obtain ⟨j, hj, rfl⟩ := List.mem_map.mp hv
        have := zchn_ge _ _ _ hj
        exact zmr_tv hg n j _ _ (by omega)
      cases kd with
      | true =>
        rw [ztv_e hg.1.1 he, zmr_ent]
        have a := zmr_tv hg n (i + 1) false (zt1 T) (by omega)
        have b := zmr_tv hg n (znx N (i + 1)) false (zt2 T) (by omega)
        omega
      | false =>
        rw [ztv_at hg.1.1 he]
        split
        · exact (zmr_old (hc fun _ => (false, zt1 T)) (hl _)).1
        · split
          · exact (zmr_old (hc fun _ => (true, T)) (hl _)).2.1
          · split
            · exact (zmr_old (hc fun _ => (true, T)) (hl _)).2.2
            · split
              · exact Nat.zero_le _
              · split
                · exact Nat.zero_le _
                · exact zmr_wd _ (hc fun j => zpt false T e (j == i + 1))
theorem zmr_pcn (hg : zGd N) (j : Nat) : zmr (zpcn N j) ≤ 40 := by
  unfold zpcn
  split
  · exact zmr_tv hg N.length _ _ _ (by omega)
  · exact Nat.zero_le _
end RV4
/-! a run of checked code keeps types -/
def zSs (bound : Nat) (st vs : List Term) (p : Nat) : Prop := zCfo st vs ∧ (∀ v ∈ vs, zmr v ≤ 40 + p) ∧ p ≤ bound
def zSd (N : List zNt) (bits bound i : Nat) : Prop := ∀ st vs held a b o a' b' p vs' p', zkok held st → b ≤ 12 → zSs bound st vs p → zkbl N i st held a b = .inr (o, a', b') → zrbl N bits bound i (vs, p) = .inr (vs', p') → ∃ st', o = some st' ∧ zSs bound st' vs' p' ∧ p ≤ p'
section RV5
variable {N : List zNt} {i j : Nat} {T K V C v : Term} {e : zNt} {B c bits bound p p' p0 held a b a' b' : Nat} {st vs vs' l0 : List Term} {o : Option (List Term)} {r : List Term × Nat → zro}
theorem zSs_up (h : zSs bound st vs p) (h2 : p ≤ p') (h3 : p' ≤ bound) : zSs bound st vs p' := ⟨h.1, fun v hv => by have := h.2.1 v hv; omega, h3⟩
theorem zSs_drop (n : Nat) (h : zSs bound st vs p) : zSs bound (st.drop n) (vs.drop n) p := ⟨zCfo_drop n h.1, fun v hv => h.2.1 v (List.mem_of_mem_drop hv), h.2.2⟩
theorem zSs_cons (h : zSs bound st vs p) (ht : zVt T v) (hm : zmr v ≤ 40 + p) : zSs bound (T :: st) (v :: vs) p := ⟨⟨ht, h.1⟩, fun x hx => by
  rcases List.mem_cons.mp hx with rfl | z
  · exact hm
  · exact h.2.1 x z, h.2.2⟩
theorem zit_s (hi : ∀ v ∈ l0, ∀ (s s' : List Term × Nat), zSs bound st s.1 s.2 → p0 ≤ s.2 → s.2 + 1 ≤ bound → r (v :: s.1, s.2 + 1) = .inr s' → zSs bound st s'.1 s'.2 ∧ s.2 ≤ s'.2) : ∀ (l : List Term) (s s' : List Term × Nat), (∀ v ∈ l, v ∈ l0) → zSs bound st s.1 s.2 → p0 ≤ s.2 → zit r bound l s = .inr s' → zSs bound st s'.1 s'.2 ∧ s.2 ≤ s'.2
  | [], s, s', _, h, _, e => by cases e; exact ⟨h, Nat.le_refl _⟩
  | v :: l, s, s', hl, h, hp, e => by
    unfold zit at e
    split at e
    · rename_i hb
      cases hr : r (v :: s.1, s.2 + 1) with
      | inl x => rw [hr] at e; cases e
      | inr s1 =>
        rw [hr] at e
        obtain ⟨a1, a2⟩ := hi v (hl v List.mem_cons_self) s s1 h hp hb hr
        obtain ⟨b1, b2⟩ := zit_s hi l s1 s' (fun v hv => hl v (List.mem_cons_of_mem _ hv)) a1 (by omega) e
        exact ⟨b1, by omega⟩
    · cases e
theorem zmpl_s (hi : ∀ v ∈ l0, ∀ (s s' : List Term × Nat), zSs bound st s.1 s.2 → p0 ≤ s.2 → s.2 + 1 ≤ bound → r (v :: s.1, s.2 + 1) = .inr s' → zSs bound (T :: st) s'.1 s'.2 ∧ s.2 ≤ s'.2) : ∀ (l acc : List Term) (s s' : List Term × Nat), (∀ v ∈ l, v ∈ l0) → zSs bound st s.1 s.2 → p0 ≤ s.2 → (∀ x ∈ acc, zVt T x ∧ zmr x ≤ 40 + s.2) → acc.length + l.length ≤ 40 + p0 → zmpl r bound l acc s = .inr s' → zSs bound (.div (.arg 8) T :: st) s'.1 s'.2 ∧ s.2 ≤ s'.2
  | [], acc, s, s', _, h, hp, ha, hl, e => by
    cases e
    refine ⟨zSs_cons h (zVt_i8 (fun v hv => (ha v hv).1)) ?_, Nat.le_refl _⟩
    refine (zmr_old (fun v hv => (ha v hv).2) ?_).1
    have : acc.length + 0 ≤ 40 + p0 := hl
    show acc.length ≤ 40 + s.2
    omega
  | v :: l, acc, s, s', hl, h, hp, ha, hn, e => by
    unfold zmpl at e
    split at e
    · rename_i hb
      cases hr : r (v :: s.1, s.2 + 1) with
      | inl x => rw [hr] at e; cases e
      | inr s1 =>
        rw [hr] at e
        obtain ⟨a1, a2⟩ := hi v (hl v List.mem_cons_self) s s1 h hp hb hr
        have a0 : 0 < (T :: st).length := Nat.succ_pos _
        have hv := zCfo_at 0 a1.1 a0
        have hm := zmr_at a1.2.1 0
        obtain ⟨b1, b2⟩ := zmpl_s hi l (acc ++ [zkat s1.1 0]) (s1.1.drop 1, s1.2) s' (fun v hv => hl v (List.mem_cons_of_mem _ hv)) (zSs_drop 1 a1) (by show p0 ≤ s1.2; omega) (fun x hx => by
          rcases List.mem_append.mp hx with z | z
          · have := ha x z; exact ⟨this.1, by show zmr x ≤ 40 + s1.2; omega⟩
          · rw [List.mem_singleton.mp z]; exact ⟨hv, hm⟩) (by rw [List.length_append, List.length_singleton]; rw [List.length_cons] at hn; omega) e
        have b2 : s1.2 ≤ s'.2 := b2
        exact ⟨b1, by omega⟩
    · cases e
theorem zlpl_s (hi : ∀ (s s' : List Term × Nat), zSs bound st s.1 s.2 → p0 ≤ s.2 → s.2 + 1 ≤ bound → r (s.1.drop 1, s.2 + 1) = .inr s' → zSs bound st s'.1 s'.2 ∧ s.2 ≤ s'.2) : ∀ (n : Nat) (s s' : List Term × Nat), zSs bound st s.1 s.2 → p0 ≤ s.2 → zlpl r bound n s = .inr s' → zSs bound (st.drop 1) s'.1 s'.2 ∧ s.2 ≤ s'.2
  | 0, s, s', h, _, e => by cases e; exact ⟨zSs_drop 1 h, Nat.le_refl _⟩
  | n + 1, s, s', h, hp, e => by
    unfold zlpl at e
    split at e
    · split at e
      · rename_i hb
        cases hr : r (s.1.drop 1, s.2 + 1) with
        | inl x => rw [hr] at e; cases e
        | inr s1 =>
          rw [hr] at e
          obtain ⟨a1, a2⟩ := hi s s1 h hp hb hr
          obtain ⟨b1, b2⟩ := zlpl_s hi n s1 s' a1 (by omega) e
          exact ⟨b1, by omega⟩
      · cases e
    · cases e; exact ⟨zSs_drop 1 h, Nat.le_refl _⟩
theorem zkbl_some {x : zkcs} (hg : zGd N) (h : zkbl N i st held a b = .inr x) : i < N.length := by
  rw [zkbl_eq hg.1.1] at h
  unfold zkB at h
  cases he : N[i]? with
  | none => rw [he] at h; cases h
  | some e => exact (List.getElem?_eq_some_iff.mp he).1
end RV5
section RV6
variable {N : List zNt} {i j : Nat} {T K V C v : Term} {e : zNt} {B c bits bound p p' p0 held a b a' b' : Nat} {st vs vs' l0 : List Term} {o : Option (List Term)}
/-- what an instruction leaves is of the types that the check says -/
def zSi (N : List zNt) (bits bound j : Nat) (e : zNt) : Prop := ∀ (st vs : List Term) (held a b : Nat) (o : Option (List Term)) (a' b' p : Nat) (s' : List Term × Nat), zkok held st → b ≤ 12 → zSs bound st vs p → (1 ≤ p ∧ ∀ v ∈ vs, zmr v + 1 ≤ 40 + p) → zkrd (eC e) st held = true → zkE N (zkbl N) j e st held a b = .inr (o, a', b') → zract N bits bound (zrbl N bits bound) j e vs p = .inr s' → ∃ st', o = some st' ∧ zSs bound st' s'.1 s'.2 ∧ p ≤ s'.2
theorem zSi33 (IH : ∀ i, j < i → zSd N bits bound i) (hc : eC e = 33) : zSi N bits bound j e := by
  intro st vs held a b o a' b' p s' hok hb hs hm hrd hE hR
  rw [hc] at hrd
  have h1 : 1 ≤ st.length := of_decide_eq_true hrd
  unfold zkE at hE
  unfold zract at hR
  rw [if_pos hc] at hE hR
  cases hk : zkbl N (j + 1) (st.drop 1) (held + 1) a b with
  | inl x => rw [hk] at hE; cases hE
  | inr x =>
    obtain ⟨o1, a1, b1⟩ := x
    rw [hk] at hE
    cases hr : zrbl N bits bound (j + 1) (vs.drop 1, p) with
    | inl x => rw [hr] at hR; cases hR
    | inr x =>
      obtain ⟨l, q⟩ := x
      rw [hr] at hR
      have dl : (st.drop 1).length = st.length - 1 := List.length_drop
      have hok1 := hok.1
      obtain ⟨st', r1, r2, r3⟩ := IH (j + 1) (by omega) _ _ _ _ _ _ _ _ _ _ _ ⟨by omega, fun T hT => hok.2 T (List.mem_of_mem_drop hT)⟩ hb (zSs_drop 1 hs) hk hr
      subst r1
      cases hE
      cases hR
      exact ⟨_, rfl, zSs_cons r2 (zCfo_at 0 hs.1 h1) (by have := zmr_at hs.2.1 0; omega), r3⟩
/-- two rows of code -/
theorem zSi2 (hg : zGd N) (IH : ∀ i, j < i → zSd N bits bound i) (hc : eC e = 58 ∨ eC e = 41 ∨ eC e = 44 ∨ eC e = 47) (hok : zkok held st) (hb : b ≤ 12) (hrd : zkrd (eC e) st held = true) (hE : zkE N (zkbl N) j e st held a b = .inr (o, a', b')) {s' : List Term × Nat} {p : Nat}
    (h : (∃ l, zrbl N bits bound (j + 1) (l, p) = .inr s' ∧ zSs bound (zkf1 (eC e) st) l p) ∨ (∃ l, zrbl N bits bound (znx N (j + 1)) (l, p) = .inr s' ∧ zSs bound (zkf2 (eC e) st) l p)) : ∃ st', o = some st' ∧ zSs bound st' s'.1 s'.2 ∧ p ≤ s'.2 := by
  obtain ⟨k1, k2⟩ := zkf1_ok hok hrd hc
  have hz := znx_ge (N := N) (i := j + 1)
  unfold zkE at hE
  rw [if_neg (by omega), if_pos hc] at hE
  cases hk : zkbl N (j + 1) (zkf1 (eC e) st) held a b with
  | inl x => rw [hk] at hE; cases hE
  | inr x =>
    obtain ⟨o1, a1, b1⟩ := x
    rw [hk] at hE
    dsimp only at hE
    have hb1 := (zkbl_ok hg N.length (j + 1) (by omega) (zkbl_some hg hk) _ _ _ _ _ _ _ k1 hb hk).1
    cases hk2 : zkbl N (znx N (j + 1)) (zkf2 (eC e) st) held a1 b1 with
    | inl x => rw [hk2] at hE; cases hE
    | inr x =>
      obtain ⟨o2, a2, b2⟩ := x
      rw [hk2] at hE
      dsimp only at hE
      rcases h with ⟨l, h1, h2⟩ | ⟨l, h1, h2⟩
      · obtain ⟨st', r1, r2, r3⟩ := IH (j + 1) (by omega) _ _ _ _ _ _ _ _ _ _ _ k1 hb h2 hk h1
        subst r1
        cases o2 with
        | none => cases hE; exact ⟨_, rfl, r2, r3⟩
        | some l2 =>
          unfold zkei at hE
          dsimp only at hE
          split at hE
          · cases hE; exact ⟨_, rfl, r2, r3⟩
          · cases hE
      · obtain ⟨st', r1, r2, r3⟩ := IH (znx N (j + 1)) (by omega) _ _ _ _ _ _ _ _ _ _ _ k2 hb1 h2 hk2 h1
        subst r1
        cases o1 with
        | none => cases hE; exact ⟨_, rfl, r2, r3⟩
        | some l2 =>
          unfold zkei at hE
          dsimp only at hE
          split at hE
          · rename_i q; cases hE; exact ⟨_, rfl, q ▸ r2, r3⟩
          · cases hE
theorem zkok_g (h : zkok held st) : ∀ T, T ∈ st → zTg1 T := fun T hT => (h.2 T hT).1
theorem zSi58 (hg : zGd N) (IH : ∀ i, j < i → zSd N bits bound i) (hc : eC e = 58) : zSi N bits bound j e := by
  intro st vs held a b o a' b' p s' hok hb hs hm hrd hE hR
  refine zSi2 hg IH (Or.inl hc) hok hb hrd hE ?_
  unfold zract at hR
  rw [if_neg (by omega), if_pos hc] at hR
  rw [hc]
  by_cases q : zkat vs 0 = .arg 22
  · rw [if_pos q] at hR; exact Or.inl ⟨_, hR, zSs_drop 1 hs⟩
  · rw [if_neg q] at hR; exact Or.inr ⟨_, hR, zSs_drop 1 hs⟩
theorem zSi41 (hg : zGd N) (IH : ∀ i, j < i → zSd N bits bound i) (hc : eC e = 41) : zSi N bits bound j e := by
  intro st vs held a b o a' b' p s' hok hb hs hm hrd hE hR
  refine zSi2 hg IH (Or.inr (Or.inl hc)) hok hb hrd hE ?_
  unfold zract at hR
  rw [if_neg (by omega), if_neg (by omega), if_pos hc] at hR
  rw [hc] at hrd ⊢
  have hr := zkhs_c (k := 0) (c := 6) hrd
  have hm0 := zmr_at hs.2.1 0
  rcases zVt_opt (zkat_g (zkok_g hok) 0 hr.1).1 hr.2 (zCfo_at 0 hs.1 hr.1) with z | ⟨v, z, hv⟩
  · rw [z] at hR; exact Or.inl ⟨_, hR, zSs_drop 1 hs⟩
  · rw [z] at hR hm0; exact Or.inr ⟨_, hR, zSs_cons (zSs_drop 1 hs) hv hm0⟩
theorem zSi44 (hg : zGd N) (IH : ∀ i, j < i → zSd N bits bound i) (hc : eC e = 44) : zSi N bits bound j e := by
  intro st vs held a b o a' b' p s' hok hb hs hm hrd hE hR
  refine zSi2 hg IH (Or.inr (Or.inr (Or.inl hc))) hok hb hrd hE ?_
  unfold zract at hR
  rw [if_neg (by omega), if_neg (by omega), if_neg (by omega), if_pos hc] at hR
  rw [hc] at hrd ⊢
  have hr := zkhs_c (k := 0) (c := 7) hrd
  have hm0 := zmr_at hs.2.1 0
  rcases zVt_or (zkat_g (zkok_g hok) 0 hr.1).1 hr.2 (zCfo_at 0 hs.1 hr.1) with ⟨v, z, hv⟩ | ⟨v, z, hv⟩
  · rw [z] at hR hm0; exact Or.inl ⟨_, hR, zSs_cons (zSs_drop 1 hs) hv hm0⟩
  · rw [z] at hR hm0; exact Or.inr ⟨_, hR, zSs_cons (zSs_drop 1 hs) hv hm0⟩
theorem zSi47 (hg : zGd N) (IH : ∀ i, j < i → zSd N bits bound i) (hc : eC e = 47) : zSi N bits bound j e := by
  intro st vs held a b o a' b' p s' hok hb hs hm hrd hE hR
  refine zSi2 hg IH (Or.inr (Or.inr (Or.inr hc))) hok hb hrd hE ?_
  unfold zract at hR
  rw [if_neg (by omega), if_neg (by omega), if_neg (by omega), if_neg (by omega), if_pos hc] at hR
  rw [hc] at hrd ⊢
  have hrd : (zkhs st 0 8 && decide (st.length + held < 12)) = true := hrd
  have hr := zkhs_c (k := 0) (c := 8) (Bool.and_eq_true _ _ ▸ hrd).1
  have hm0 := zmr_at hs.2.1 0
  have hT := zsh1 (zkat_g (zkok_g hok) 0 hr.1).1 (Or.inr hr.2)
  rw [hr.2] at hT
  obtain ⟨L, z, hv⟩ := zVt_list (zkat_g (zkok_g hok) 0 hr.1).1 hr.2 (zCfo_at 0 hs.1 hr.1)
  cases L with
  | nil => rw [z] at hR; exact Or.inr ⟨_, hR, zSs_drop 1 hs⟩
  | cons v L =>
    rw [z] at hR hm0
    have hm0 : max (zels (.rem v (zenc L))).length (max (zmr v) (zmr (zenc L))) ≤ 40 + p := hm0
    have hm1 : max ((zels (zenc L)).length + 1) (max (zmr v) (zmr (zenc L))) ≤ 40 + p := hm0
    refine Or.inl ⟨_, hR, ?_⟩
    have e0 := (zCfo_split 0 hs.1 hr.1).1
    rw [List.drop_zero] at e0
    show zSs bound (zt1 (zkat st 0) :: st) _ _
    have hV : zVt (zkat st 0) (.old (zenc L)) := by
      generalize zt1 (zkat st 0) = U at hT hv
      rw [hT]
      exact zVt_i8 (fun v hv' => hv v (List.mem_cons_of_mem _ hv'))
    have h2 : zSs bound (zkat st 0 :: st.drop 1) (.old (zenc L) :: vs.drop 1) p := zSs_cons (zSs_drop 1 hs) hV (by show max _ _ ≤ _; omega)
    rw [← e0] at h2
    exact zSs_cons h2 (hv v List.mem_cons_self) (by omega)
end RV6
section RV7
variable {N : List zNt} {i j : Nat} {T K V C v : Term} {e : zNt} {B c bits bound p p' p0 held a b a' b' : Nat} {st vs vs' l0 : List Term} {o : Option (List Term)}
/-- the check of an instruction that has one row of code again and again -/
theorem zSi3 (hc : eC e = 49 ∨ eC e = 50 ∨ eC e = 59) (hE : zkE N (zkbl N) j e st held a b = .inr (o, a', b')) : ∃ o1 a1 b1, zkbl N (j + 1) (zkbg (eC e) st) held a b = .inr (o1, a1, b1) ∧ zkrp (eF e) (eC e) st o1 a1 b1 = .inr (o, a', b') := by
  unfold zkE at hE
  rw [if_neg (by omega), if_neg (by omega), if_pos hc] at hE
  cases hk : zkbl N (j + 1) (zkbg (eC e) st) held a b with
  | inl x => rw [hk] at hE; cases hE
  | inr x =>
    obtain ⟨o1, a1, b1⟩ := x
    rw [hk] at hE
    exact ⟨o1, a1, b1, rfl, hE⟩
theorem zSi59 (IH : ∀ i, j < i → zSd N bits bound i) (hc : eC e = 59) : zSi N bits bound j e := by
  intro st vs held a b o a' b' p s' hok hb hs hm hrd hE hR
  obtain ⟨o1, a1, b1, h1, h2⟩ := zSi3 (Or.inr (Or.inr hc)) hE
  obtain ⟨k1, k2⟩ := zkbg_ok hok hrd (Or.inr (Or.inr hc))
  unfold zract at hR
  rw [if_neg (by omega), if_neg (by omega), if_neg (by omega), if_neg (by omega), if_neg (by omega), if_neg (by omega), if_neg (by omega), if_pos hc] at hR
  rw [hc] at h1 h2 k1
  cases o1 with
  | none => cases h2
  | some l =>
    unfold zkrp at h2
    dsimp only at h2
    rw [if_neg (by decide), if_pos rfl] at h2
    split at h2
    · rename_i hl
      cases h2
      obtain ⟨r1, r2⟩ := zlpl_s (st := st) (p0 := p) (r := zrbl N bits bound (j + 1)) (fun s s1 q1 q2 q3 q4 => by
        obtain ⟨st', t1, t2, t3⟩ := IH (j + 1) (by omega) _ _ _ _ _ _ _ _ _ _ _ k1 hb (zSs_up (zSs_drop 1 q1) (Nat.le_succ _) q3) h1 q4
        cases t1
        rw [hl] at t2
        exact ⟨t2, by omega⟩) 151 (vs, p) s' hs (Nat.le_refl _) hR
      exact ⟨_, rfl, r1, r2⟩
    · cases h2
theorem zSi49 (IH : ∀ i, j < i → zSd N bits bound i) (hc : eC e = 49) : zSi N bits bound j e := by
  intro st vs held a b o a' b' p s' hok hb hs hm hrd hE hR
  obtain ⟨o1, a1, b1, h1, h2⟩ := zSi3 (Or.inl hc) hE
  obtain ⟨k1, k2⟩ := zkbg_ok hok hrd (Or.inl hc)
  unfold zract at hR
  rw [if_neg (by omega), if_neg (by omega), if_neg (by omega), if_neg (by omega), if_neg (by omega), if_pos hc] at hR
  rw [hc] at h1 h2 k1 hrd
  have hm0 := zmr_at hs.2.1 0
  have ht := zkat_g (zkok_g hok) 0 k2
  have hv := zCfo_at 0 hs.1 k2
  have hit : ∃ U, zkbg 49 st = U :: st.drop 1 ∧ ∀ v ∈ zitm (zkat vs 0), zVt U v ∧ zmr v ≤ 40 + p := by
    have hrd : (zkhs st 0 8 || zkhs st 0 9) = true := hrd
    rcases Bool.or_eq_true _ _ ▸ hrd with q | q
    · have hr := zkhs_c q
      obtain ⟨L, z, hL⟩ := zVt_list ht.1 hr.2 hv
      refine ⟨zt1 (zkat st 0), ?_, ?_⟩
      · unfold zkbg; rw [if_neg (by decide), if_neg (by omega)]
      · rw [z] at hm0 ⊢
        show ∀ v ∈ zels (zenc L), _
        rw [zels_enc]
        have hm0 : max _ (zmr (zenc L)) ≤ 40 + p := hm0
        exact fun v hv => ⟨hL v hv, by have := zmr_els (zenc L) v (by rw [zels_enc]; exact hv); omega⟩
    · have hr := zkhs_c q
      obtain ⟨es, z, hL, _⟩ := zVt_map ht.1 hr.2 hv
      refine ⟨.add (.div (.arg 5) (zt1 (zkat st 0))) (zt2 (zkat st 0)), ?_, ?_⟩
      · unfold zkbg; rw [if_neg (by decide), if_pos hr.2]
      · rw [z] at hm0 ⊢
        show ∀ v ∈ (zels (zenc _)).map _, _
        rw [zels_enc, List.map_map]
        have hm0 : max _ (zmr (zenc (es.map fun e => zent2 e.1 e.2))) ≤ 40 + p := hm0
        intro v hv
        obtain ⟨x, hx, rfl⟩ := List.mem_map.mp hv
        have hx2 := zmr_els (zenc (es.map fun e => zent2 e.1 e.2)) (zent2 x.1 x.2) (by rw [zels_enc]; exact List.mem_map.mpr ⟨x, hx, rfl⟩)
        rw [zmr_ent] at hx2
        refine ⟨zVt_i5 (hL x hx).1 (hL x hx).2, ?_⟩
        show max (zmr x.1) (zmr x.2) ≤ 40 + p
        omega
  obtain ⟨U, u1, u2⟩ := hit
  rw [u1] at k1 h1
  cases o1 with
  | none => cases h2
  | some l =>
    unfold zkrp at h2
    dsimp only at h2
    rw [if_neg (by decide), if_neg (show ¬ (49 : Nat) = 59 by decide)] at h2
    split at h2
    · rename_i hl
      cases h2
      obtain ⟨r1, r2⟩ := zit_s (st := st.drop 1) (p0 := p) (r := zrbl N bits bound (j + 1)) (l0 := zitm (zkat vs 0)) (fun v hv s s1 q1 q2 q3 q4 => by
        obtain ⟨w1, w2⟩ := u2 v hv
        obtain ⟨st', t1, t2, t3⟩ := IH (j + 1) (by omega) _ _ _ _ _ _ _ _ _ _ _ k1 hb (zSs_cons (zSs_up q1 (Nat.le_succ _) q3) w1 (by omega)) h1 q4
        cases t1
        rw [hl] at t2
        exact ⟨t2, by omega⟩) _ (vs.drop 1, p) s' (fun v hv => hv) (zSs_drop 1 hs) (Nat.le_refl _) hR
      exact ⟨_, rfl, r1, r2⟩
    · cases h2
theorem zSi50 (IH : ∀ i, j < i → zSd N bits bound i) (hc : eC e = 50) : zSi N bits bound j e := by
  intro st vs held a b o a' b' p s' hok hb hs hm hrd hE hR
  obtain ⟨o1, a1, b1, h1, h2⟩ := zSi3 (Or.inr (Or.inl hc)) hE
  obtain ⟨k1, k2⟩ := zkbg_ok hok hrd (Or.inr (Or.inl hc))
  unfold zract at hR
  rw [if_neg (by omega), if_neg (by omega), if_neg (by omega), if_neg (by omega), if_neg (by omega), if_neg (by omega), if_pos hc] at hR
  rw [hc] at h1 h2 k1 hrd
  have hm0 := zmr_at hs.2.1 0
  have ht := zkat_g (zkok_g hok) 0 k2
  have hv := zCfo_at 0 hs.1 k2
  have hr := zkhs_c (k := 0) (c := 8) hrd
  obtain ⟨L, z, hL⟩ := zVt_list ht.1 hr.2 hv
  have u1 : zkbg 50 st = zt1 (zkat st 0) :: st.drop 1 := by unfold zkbg; rw [if_neg (by decide), if_neg (by omega)]
  have mr := zmr_rws (zkat vs 0)
  have u2 : ∀ v ∈ zrws (zkat vs 0), zVt (zt1 (zkat st 0)) v ∧ zmr v ≤ 40 + p := fun v hv => ⟨by
    rw [z] at hv
    have hv : v ∈ zels (zenc L) := hv
    rw [zels_enc] at hv
    exact hL v hv, by have := mr.1 v hv; omega⟩
  rw [u1] at k1 h1
  cases o1 with
  | none => cases h2
  | some l =>
    unfold zkrp at h2
    dsimp only at h2
    rw [if_pos rfl] at h2
    split at h2
    · rename_i hl
      cases h2
      have el : l = zkat l 0 :: st.drop 1 := by
        have : 0 < l.length := by omega
        rw [← hl.2]
        cases l with
        | nil => cases this
        | cons x l => rfl
      obtain ⟨r1, r2⟩ := zmpl_s (st := st.drop 1) (T := zkat l 0) (p0 := p) (r := zrbl N bits bound (j + 1)) (l0 := zrws (zkat vs 0)) (fun v hv s s1 q1 q2 q3 q4 => by
        obtain ⟨w1, w2⟩ := u2 v hv
        obtain ⟨st', t1, t2, t3⟩ := IH (j + 1) (by omega) _ _ _ _ _ _ _ _ _ _ _ k1 hb (zSs_cons (zSs_up q1 (Nat.le_succ _) q3) w1 (by omega)) h1 q4
        cases t1
        rw [el] at t2
        exact ⟨t2, by omega⟩) _ [] (vs.drop 1, p) s' (fun v hv => hv) (zSs_drop 1 hs) (Nat.le_refl _) (fun x hx => by cases hx) (by have := mr.2; rw [List.length_nil]; omega) hR
      exact ⟨_, rfl, r1, r2⟩
    · cases h2
end RV7
section RV8
variable {N : List zNt} {i j : Nat} {T K V C v : Term} {e : zNt} {B c bits bound p p' p0 held a b a' b' : Nat} {st vs vs' l0 : List Term} {o : Option (List Term)}
theorem zract_p (h : eC e ≠ 33 ∧ eC e ≠ 58 ∧ eC e ≠ 41 ∧ eC e ≠ 44 ∧ eC e ≠ 47 ∧ eC e ≠ 49 ∧ eC e ≠ 50 ∧ eC e ≠ 59 ∧ eC e ≠ 76) (r : zrR) : zract N bits bound r j e vs p = (match zop bits (eC e) vs (zpcn N j) with
    | none => .inl (3, .null)
    | some l => .inr (l, p)) := by
  unfold zract
  rw [if_neg h.1, if_neg h.2.1, if_neg h.2.2.1, if_neg h.2.2.2.1, if_neg h.2.2.2.2.1, if_neg h.2.2.2.2.2.1, if_neg h.2.2.2.2.2.2.1, if_neg h.2.2.2.2.2.2.2.1, if_neg h.2.2.2.2.2.2.2.2]
  first | done | rfl
/-- PUSH, NONE, LEFT, RIGHT, NIL, EMPTY -/
theorem zty_s (hg : zGd N) (hok : zkok held st) (hs : zCfo st vs) (hrd : zkrd c st held = true) (hc : c = 34 ∨ c = 40 ∨ c = 42 ∨ c = 43 ∨ c = 45 ∨ c = 51) (hk : zkty N j c st = .inr l0) (ho : zop bits c vs (zpcn N j) = some vs') : zCfo l0 vs' := by
  unfold zkty at hk
  cases hT : zTy N (j + 1) 0 with
  | inl x => rw [hT] at hk; cases hk
  | inr T =>
    rw [hT] at hk
    dsimp only at hk
    have tt : zTg1 T := ⟨(zTy_ok hg.1.1 N.length (j + 1) 0 T (by omega) hT).1, zTy_ts hg.1.1 N.length (j + 1) 0 T (by omega) hT⟩
    rcases hc with rfl | rfl | rfl | rfl | rfl | rfl
    · rw [if_pos rfl] at hk
      cases hm : zMi N (znx N (j + 1)) false T with
      | some x => rw [hm] at hk; cases hk
      | none =>
        rw [hm] at hk
        cases hk
        cases ho
        refine ⟨?_, hs⟩
        show zVt T (zpcn N j)
        unfold zpcn
        rw [hT]
        exact ztv_t hg N.length _ T (by omega) tt hm
    · cases hk; cases ho; exact ⟨zVt_i6n, hs⟩
    · cases hk; cases ho; exact ⟨zVt_i7l (zCfo_at 0 hs (of_decide_eq_true hrd)), zCfo_drop 1 hs⟩
    · cases hk; cases ho; exact ⟨zVt_i7r (zCfo_at 0 hs (of_decide_eq_true hrd)), zCfo_drop 1 hs⟩
    · cases hk; cases ho; exact ⟨zVt_i8 (L := []) (fun v hv => by cases hv), hs⟩
    · rw [if_neg (by decide), if_neg (by decide), if_neg (by decide), if_neg (by decide), if_neg (by decide)] at hk
      split at hk
      · cases hU : zTy N (znx N (j + 1)) 0 with
        | inl x => rw [hU] at hk; cases hk
        | inr U =>
          rw [hU] at hk
          cases hk; cases ho
          exact ⟨zVt_i9 (es := []) (fun v hv => by cases hv) List.Pairwise.nil, hs⟩
      · cases hk
theorem zSi_p (hg : zGd N) (hb2 : bits ≤ 120) (hbd : bound ≤ 150) (hI : zkI e = true) (h : eC e ≠ 33 ∧ eC e ≠ 58 ∧ eC e ≠ 41 ∧ eC e ≠ 44 ∧ eC e ≠ 47 ∧ eC e ≠ 49 ∧ eC e ≠ 50 ∧ eC e ≠ 59 ∧ eC e ≠ 76) : zSi N bits bound j e := by
  intro st vs held a b o a' b' p s' hok hb hs hm hrd hE hR
  rw [zract_p h] at hR
  cases ho : zop bits (eC e) vs (zpcn N j) with
  | none => rw [ho] at hR; cases hR
  | some l =>
    rw [ho] at hR
    cases hR
    have hpp := hs.2.2
    have hC := zmr_pcn hg j
    have hm1 := hm.1
    have h0 := zmr_op (B := 40 + p - 1) (vs := vs) (C := zpcn N j) (fun v hv => by have := hm.2 v hv; omega) (by omega) ho
    have mr : ∀ v ∈ l, zmr v ≤ 40 + p := fun v hv => by have := h0 v hv; omega
    unfold zkE at hE
    rw [if_neg h.1, if_neg (by omega), if_neg (by omega)] at hE
    unfold zkI at hI
    simp only [Bool.and_eq_true, decide_eq_true_eq] at hI
    split at hE
    · rename_i hc
      cases hk : zkty N j (eC e) st with
      | inl x => rw [hk] at hE; cases hE
      | inr l1 =>
        rw [hk] at hE
        cases hE
        exact ⟨_, rfl, ⟨zty_s hg hok hs.1 hrd hc hk ho, mr, hpp⟩, Nat.le_refl _⟩
    · rename_i hc
      rw [if_neg h.2.2.2.2.2.2.2.2] at hE
      cases hE
      refine ⟨_, rfl, ⟨zop_s ⟨hI.1.1.2, by omega, by omega⟩ (zkok_g hok) hs.1 hb2 (fun v hv => by have := hm.2 v hv; omega) hrd l ho, mr, hpp⟩, Nat.le_refl _⟩
theorem zSi_a (hg : zGd N) (hb2 : bits ≤ 120) (hbd : bound ≤ 150) (hI : zkI e = true) (IH : ∀ i, j < i → zSd N bits bound i) : zSi N bits bound j e := by
  by_cases h33 : eC e = 33
  · exact zSi33 IH h33
  by_cases h58 : eC e = 58
  · exact zSi58 hg IH h58
  by_cases h41 : eC e = 41
  · exact zSi41 hg IH h41
  by_cases h44 : eC e = 44
  · exact zSi44 hg IH h44
  by_cases h47 : eC e = 47
  · exact zSi47 hg IH h47
  by_cases h49 : eC e = 49
  · exact zSi49 IH h49
  by_cases h50 : eC e = 50
  · exact zSi50 IH h50
  by_cases h59 : eC e = 59
  · exact zSi59 IH h59
  by_cases h76 : eC e = 76
  · intro st vs held a b o a' b' p s' hok hb hs hm hrd hE hR
    unfold zract at hR
    rw [if_neg h33, if_neg h58, if_neg h41, if_neg h44, if_neg h47, if_neg h49, if_neg h50, if_neg h59, if_pos h76] at hR
    cases hR
  · exact zSi_p hg hb2 hbd hI ⟨h33, h58, h41, h44, h47, h49, h50, h59, h76⟩
theorem zcst_1 (c : Nat) (st : List Term) : 1 ≤ zcst c st := by
  unfold zcst
  split
  · split <;> omega
  · omega
/-- one instruction -/
theorem zrst_s (hg : zGd N) (hb2 : bits ≤ 120) (hbd : bound ≤ 150) (he : N[j]? = some e) (IH : ∀ i, j < i → zSd N bits bound i) {s' : List Term × Nat} (hok : zkok held st) (hb : b ≤ 12) (hs : zSs bound st vs p) (hk : zkin N (zkbl N) held j (some st, a, b) = .inr (o, a', b')) (hR : zrst N bits bound (zrbl N bits bound) j (vs, p) = .inr s') : ∃ st', o = some st' ∧ zSs bound st' s'.1 s'.2 ∧ p + 1 ≤ s'.2 := by
  rw [zkin_s he] at hk
  unfold zrst at hR
  rw [he] at hR
  dsimp only at hR
  split at hk
  · rename_i q
    simp only [Bool.and_eq_true] at q
    split at hR
    · rename_i hp
      have h1 := zcst_1 (eC e) vs
      cases hE : zkE N (zkbl N) j e st held (a + 1) b with
      | inl x => rw [hE] at hk; cases hk
      | inr x =>
        obtain ⟨o1, a1, b1⟩ := x
        rw [hE] at hk
        obtain ⟨st', r1, r2, r3⟩ := zSi_a hg hb2 hbd q.1 IH st vs held (a + 1) b o1 a1 b1 _ s' hok hb (zSs_up hs (Nat.le_add_right _ _) hp) ⟨by omega, fun v hv => by have := hs.2.1 v hv; omega⟩ q.2 hE hR
        subst r1
        unfold zkpo at hk
        dsimp only at hk
        split at hk
        · cases hk; exact ⟨_, rfl, r2, by omega⟩
        · cases hk
    · cases hR
  · cases hk
theorem zrfo_s (hg : zGd N) (hb2 : bits ≤ 120) (hbd : bound ≤ 150) (IH : ∀ i, j < i → zSd N bits bound i) : ∀ (l : List Nat) (st vs : List Term) (a b p : Nat) (x : zkcs) (s' : List Term × Nat), (∀ k ∈ l, j < k) → zkok held st → b ≤ 12 → zSs bound st vs p → zkfo (zkin N (zkbl N) held) l (some st, a, b) = .inr x → zrfo (zrst N bits bound (zrbl N bits bound)) l (vs, p) = .inr s' → ∃ st', x.1 = some st' ∧ zSs bound st' s'.1 s'.2 ∧ p ≤ s'.2
  | [], st, vs, a, b, p, x, s', _, _, _, hs, hk, hR => by cases hk; cases hR; exact ⟨_, rfl, hs, Nat.le_refl _⟩
  | k :: l, st, vs, a, b, p, x, s', hj, hok, hb, hs, hk, hR => by
    unfold zkfo at hk
    unfold zrfo at hR
    cases hk1 : zkin N (zkbl N) held k (some st, a, b) with
    | inl y => rw [hk1] at hk; cases hk
    | inr y =>
      obtain ⟨o1, a1, b1⟩ := y
      rw [hk1] at hk
      cases hR1 : zrst N bits bound (zrbl N bits bound) k (vs, p) with
      | inl y => rw [hR1] at hR; cases hR
      | inr s1 =>
        rw [hR1] at hR
        have hjk := hj k List.mem_cons_self
        cases he : N[k]? with
        | none => unfold zkin at hk1; rw [he] at hk1; cases hk1
        | some e =>
          obtain ⟨st1, r1, r2, r3⟩ := zrst_s hg hb2 hbd he (fun i hi => IH i (by omega)) hok hb hs hk1 hR1
          subst r1
          obtain ⟨t1, _, _, t4⟩ := zkin_ok hg he (fun i h1 h2 => zkbl_ok hg N.length i (by omega) h2) hok hb hk1
          obtain ⟨st', u1, u2, u3⟩ := zrfo_s hg hb2 hbd IH l st1 s1.1 a1 b1 s1.2 x s' (fun i hi => hj i (List.mem_cons_of_mem _ hi)) (t4 _ rfl) t1 r2 hk hR
          exact ⟨st', u1, u2, by omega⟩
/-- a row of code keeps what the check says -/
theorem zrbl_s (hg : zGd N) (hb2 : bits ≤ 120) (hbd : bound ≤ 150) : ∀ (n i : Nat), N.length ≤ n + i → zSd N bits bound i
  | 0, i, hn => by
    intro st vs held a b o a' b' p vs' p' hok hb hs hk hR
    have := zkbl_some hg hk
    omega
  | n + 1, i, hn => by
    intro st vs held a b o a' b' p vs' p' hok hb hs hk hR
    rw [zkbl_eq hg.1.1] at hk
    rw [zrbl_eq hg.1.1] at hR
    unfold zkB at hk
    unfold zrB at hR
    cases he : N[i]? with
    | none => rw [he] at hk; cases hk
    | some e =>
      rw [he] at hk hR
      dsimp only at hk hR
      split at hk
      · have hl := hok.1
        obtain ⟨st', r1, r2, r3⟩ := zrfo_s hg hb2 hbd (j := i) (fun k hk => zrbl_s hg hb2 hbd n k (by omega)) _ st vs _ _ p _ _ (fun k hk => zchn_ge _ _ _ hk) hok (by omega) hs hk hR
        exact ⟨st', r1, r2, r3⟩
      · cases hk
end RV8
