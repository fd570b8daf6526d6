section RN3
variable {xs : List Value} {d : Nat} {h : zH} {N : List zNt} {M0 M M' : Nat → zE} {F0 F F' : Nat → Value} {Q : zO → zH → Prop} {ce ce0 X : List (Nat × Nat × Nat)} {lo : List (Nat × Nat)} {Ts vs w : List Term} {pd : List Int32} {most p bits bound j fr D b0 z0 cv tl hdl : Nat} {a39 a41 a42 a43 : Int32} {V : Term} {e : zNt} {acc : List Term} {ts : List Nat} {E : Nat → zH → Prop}
theorem zset_new {α : Type} {l : List α} {x y : α} : (l ++ [x]).set l.length y = l ++ [y] := by rw [List.set_append_right _ _ (Nat.le_refl _), Nat.sub_self]; rfl
/-- one more link -/
theorem zMch_snoc (hm : zMch ce lo b0 z0 acc ts) (hb : b0 ≤ ce.length) (ht : ts[ts.length - 1]? = some tl) (hz : ce[tl]? = some (11 + zmK, hdl, z0)) (hv : zRc ce lo V (.inl cv)) (hV : zCv V) (hacc : ∀ v ∈ acc, zCv v) : zMch ((ce ++ [(11 + zmK, cv, z0)]).set tl (11, hdl, ce.length)) lo b0 z0 (acc ++ [V]) (ts ++ [ce.length]) := by
  obtain ⟨h1, h2, h3, h4, ⟨x, y, h5⟩, h6⟩ := hm
  have htl := (List.getElem?_eq_some_iff.mp ht).1
  have hmem := List.mem_of_getElem? ht
  have hb3 := h3 tl hmem
  have hz1 : (ce ++ [(11 + zmK, cv, z0)])[tl]? = some (11 + zmK, hdl, z0) := zget_app hz
  have up : ∀ {v hd}, zCv v → zRc ce lo v (.inl hd) → zRc ((ce ++ [(11 + zmK, cv, z0)]).set tl (11, hdl, ce.length)) lo v (.inl hd) := fun {v hd} q1 q2 => zRc_set hz1 (by omega) v _ q1 (fun _ _ z => by cases z) (zRc_up1 q2)
  have hz0 : z0 ≠ tl := fun z => by
    rw [z, hz] at h5
    cases h5
  refine ⟨by rw [List.length_append, List.length_append, h1]; rfl, ?_, fun t hq => ?_, h4, ⟨x, y, by rw [List.getElem?_set_ne (Ne.symm hz0)]; exact zget_app h5⟩, fun i v t hi hti => ?_⟩
  · rw [List.pairwise_append]
    exact ⟨h2, List.pairwise_singleton _ _, fun a ha b hb' => by rw [List.mem_singleton.mp hb']; exact (h3 a ha).2⟩
  · rw [List.length_set, List.length_append]
    rcases List.mem_append.mp hq with z | z
    · have := h3 t z
      exact ⟨this.1, by show t < ce.length + 1; omega⟩
    · rw [List.mem_singleton.mp z]
      exact ⟨hb, Nat.lt_succ_self _⟩
  · by_cases hil : i < acc.length
    · rw [List.getElem?_append_left hil] at hi
      rw [List.getElem?_append_left (by omega)] at hti
      obtain ⟨hd, g1, g2⟩ := h6 i v t hi hti
      have hva := hacc v (List.mem_of_getElem? hi)
      refine ⟨hd, ?_, up hva g2⟩
      rw [if_neg (by rw [List.length_append]; show ¬ i + 1 = ts.length + 1; omega)]
      by_cases hlast : i + 1 = ts.length
      · have : t = tl := by
          rw [show ts.length - 1 = i by omega, hti] at ht
          exact Option.some.inj ht
        subst this
        rw [hz, if_pos hlast] at g1
        injection g1 with g1
        injection g1 with _ g1
        injection g1 with q1 q2
        rw [List.getElem?_set_self (by rw [List.length_append]; show t < ce.length + 1; omega), ← q1, hlast, List.getElem?_append_right (Nat.le_refl _), Nat.sub_self]
        rfl
      · have hne : t ≠ tl := fun z => by
          subst z
          have a1 := List.pairwise_iff_getElem.mp h2 i (ts.length - 1) (by omega) htl (by omega)
          rw [(List.getElem?_eq_some_iff.mp hti).2, (List.getElem?_eq_some_iff.mp ht).2] at a1
          omega
        rw [if_neg hlast] at g1
        rw [List.getElem?_set_ne (Ne.symm hne), zget_app g1, List.getElem?_append_left (by omega)]
    · have hia : i = acc.length := by
        have := (List.getElem?_eq_some_iff.mp hi).1
        rw [List.length_append] at this
        have : i < acc.length + 1 := this
        omega
      subst hia
      rw [List.getElem?_append_right (Nat.le_refl _), Nat.sub_self] at hi
      rw [List.getElem?_append_right (by omega), show acc.length - ts.length = 0 by omega] at hti
      cases hi
      cases hti
      refine ⟨cv, ?_, up hV hv⟩
      rw [if_pos (by rw [List.length_append]; show acc.length + 1 = ts.length + 1; omega), List.getElem?_set_ne (by omega), zget_new, List.getElem?_eq_none (by rw [List.length_append]; show ts.length + 1 ≤ acc.length + 1; omega)]
      rfl
/-- the list at the end -/
theorem zMch_end (hm : zMch ce lo b0 z0 acc ts) (ht : ts[ts.length - 1]? = some tl) (hz : ce[tl]? = some (11 + zmK, hdl, z0)) (hacc : ∀ v ∈ acc, zCv v ∧ zgo v = 0) : ∀ m, m ≤ acc.length → zRc (ce.set tl (11, hdl, z0)) lo (zenc (acc.drop (acc.length - m))) (.inr ((ts[acc.length - m]?).getD z0, 10))
  | 0, _ => by
    obtain ⟨h1, h2, h3, h4, ⟨x, y, h5⟩, h6⟩ := hm
    rw [Nat.sub_zero, List.drop_length, List.getElem?_eq_none (by omega)]
    have hz0 : z0 ≠ tl := fun z => by
      rw [z, hz] at h5
      cases h5
    exact ⟨x, y, by show (ce.set tl _)[z0]? = _; rw [List.getElem?_set_ne (Ne.symm hz0)]; exact h5⟩
  | m + 1, hle => by
    have ih := zMch_end hm ht hz hacc m (by omega)
    obtain ⟨h1, h2, h3, h4, ⟨x, y, h5⟩, h6⟩ := hm
    have hlt : acc.length - (m + 1) < acc.length := by omega
    obtain ⟨v, hv⟩ : ∃ v, acc[acc.length - (m + 1)]? = some v := ⟨_, List.getElem?_eq_getElem hlt⟩
    obtain ⟨t, htt⟩ : ∃ t, ts[acc.length - (m + 1)]? = some t := ⟨_, List.getElem?_eq_getElem (by omega)⟩
    obtain ⟨hd, g1, g2⟩ := h6 _ v t hv htt
    have hva := hacc v (List.mem_of_getElem? hv)
    have htl := (List.getElem?_eq_some_iff.mp ht).1
    have hb3 := h3 tl (List.mem_of_getElem? ht)
    have hd0 : acc.drop (acc.length - (m + 1)) = v :: acc.drop (acc.length - m) := by
      rw [List.drop_eq_getElem_cons hlt, show acc.length - (m + 1) + 1 = acc.length - m by omega]
      congr 1
      exact (List.getElem?_eq_some_iff.mp hv).2
    rw [hd0, htt, Option.getD_some]
    rw [show acc.length - (m + 1) + 1 = acc.length - m by omega] at g1
    refine ⟨hd, (ts[acc.length - m]?).getD z0, ?_, zRc_set hz (by omega) v _ hva.1 (fun _ _ z => by cases z) g2, ih⟩
    rw [hva.2]
    by_cases hlast : acc.length - m = ts.length
    · have : t = tl := by
        rw [show ts.length - 1 = acc.length - (m + 1) by omega, htt] at ht
        exact Option.some.inj ht
      subst this
      rw [hz, if_pos hlast] at g1
      injection g1 with g1
      injection g1 with _ g1
      injection g1 with q1 q2
      rw [List.getElem?_set_self hb3.2, ← q1, ← q2]
    · have hne : t ≠ tl := fun z => by
        subst z
        have a1 := List.pairwise_iff_getElem.mp h2 (acc.length - (m + 1)) (ts.length - 1) (by omega) htl (by omega)
        rw [(List.getElem?_eq_some_iff.mp htt).2, (List.getElem?_eq_some_iff.mp ht).2] at a1
        omega
      rw [if_neg hlast] at g1
      rw [List.getElem?_set_ne (Ne.symm hne)]
      exact g1
/-- the row that was made is a list -/
theorem zMap_end (hg : zGd N) (hs : zWS N M0 M F0 F Ts vs most pd p (ce0 ++ X) lo) (hvs : ∀ v ∈ vs, zCv v) (hm : zMch (ce0 ++ X) lo ce0.length z0 acc ts) (hacc : ∀ v ∈ acc, zCv v ∧ zgo v = 0) : ∃ X', zWS N M0 M F0 F Ts vs most pd p (ce0 ++ X') lo ∧ X'.length = X.length ∧ zCr (ce0 ++ X') lo (zMhd z0 ts) (.old (zenc acc)) := by
  have hm' := hm
  obtain ⟨h1, h2, h3, h4, ⟨x, y, h5⟩, h6⟩ := hm'
  cases hacl : acc.length with
  | zero =>
    have a0 := List.eq_nil_of_length_eq_zero hacl
    have t0 : ts = [] := List.eq_nil_of_length_eq_zero (by omega)
    subst a0 t0
    exact ⟨X, hs, rfl, z0, rfl, x, y, h5⟩
  | succ k =>
    obtain ⟨tl, ht⟩ : ∃ tl, ts[ts.length - 1]? = some tl := ⟨_, List.getElem?_eq_getElem (by omega)⟩
    obtain ⟨v, hv⟩ : ∃ v, acc[ts.length - 1]? = some v := ⟨_, List.getElem?_eq_getElem (by omega)⟩
    obtain ⟨hdl, g1, g2⟩ := h6 _ v tl hv ht
    rw [if_pos (by omega), List.getElem?_eq_none (l := ts) (by omega), Option.getD_none] at g1
    have hb3 := h3 tl (List.mem_of_getElem? ht)
    have e := zMch_end hm ht g1 hacc acc.length (Nat.le_refl _)
    rw [Nat.sub_self, List.drop_zero] at e
    have hp := zPo_kind (w' := 11) hs.1 g1 (by rw [zmK_n])
    have ws := zWS_set hg hs hvs (S := []) zSm_refl (by decide) hp g1 (by omega)
    rw [List.set_append_right _ _ hb3.1] at ws e
    exact ⟨_, ws, List.length_set, _, rfl, e⟩
end RN3
