/-! the reference's update -/
section RF2
variable {xs : List Value} {d : Nat} {h : zH} {M : Nat → zE} {F : Nat → Value} {Q : zO → zH → Prop} {ce ce1 ce2 : List (Nat × Nat × Nat)} {lo : List (Nat × Nat)} {c k b o i t : Nat} {L tail : List Term} {key opt : Term} {es : List (Term × Term)} {pair : Nat × Nat × Nat}
def zUl (ce : List (Nat × Nat × Nat)) (lo : List (Nat × Nat)) (es : List (Term × Term)) (pair : Nat × Nat × Nat) (t : Nat) (ce1 : List (Nat × Nat × Nat)) (i : Nat) : Prop :=
  (∃ X, ce1 = ce ++ X) ∧ ce1[ce.length]? = some pair ∧ ∀ j e, j < i → es[j]? = some e → ∃ hd, ce1[ce.length + 1 + j]? = some (13, hd, if j + 1 < i then ce.length + 2 + j else t) ∧ zRc ce lo (zent2 e.1 e.2) (.inl hd)
theorem zUl_rc (hu : zUl ce lo es pair t ce2 i) (hi : i ≤ es.length) (ht : zRc ce2 lo (zenc tail) (.inr (t, 12))) : ∀ m, m ≤ i → zRc ce2 lo (zenc (((es.take i).drop (i - m)).map (fun e => zent2 e.1 e.2) ++ tail)) (.inr (if m = 0 then t else ce.length + 1 + (i - m), 12))
  | 0, _ => by
    rw [if_pos rfl, List.drop_eq_nil_of_le (by rw [List.length_take]; omega)]
    exact ht
  | m + 1, hm => by
    have ih := zUl_rc hu hi ht m (by omega)
    have hlt : i - (m + 1) < (es.take i).length := by rw [List.length_take]; omega
    obtain ⟨e, he⟩ : ∃ e, (es.take i)[i - (m + 1)]? = some e := ⟨_, List.getElem?_eq_getElem hlt⟩
    have hd0 : (es.take i).drop (i - (m + 1)) = e :: (es.take i).drop (i - m) := by
      rw [List.drop_eq_getElem_cons hlt, show i - (m + 1) + 1 = i - m by omega]
      congr 1
      exact (List.getElem?_eq_some_iff.mp he).2
    have hee : es[i - (m + 1)]? = some e := by
      rw [List.getElem?_take_of_lt (by omega)] at he; exact he
    obtain ⟨⟨X, hX⟩, _, hU⟩ := hu
    obtain ⟨hd, h1, h2⟩ := hU (i - (m + 1)) e (by omega) hee
    rw [if_neg (by omega), hd0]
    refine ⟨hd, _, h1, ?_, ?_⟩
    · have := zRc_app (ce' := X) (lo' := []) _ _ h2
      rw [List.append_nil, ← hX] at this
      exact this
    · by_cases m0 : m = 0
      · subst m0
        rw [if_pos rfl] at ih
        rw [if_neg (by omega)]
        exact ih
      · rw [if_neg m0] at ih
        rw [if_pos (by omega), show ce.length + 2 + (i - (m + 1)) = ce.length + 1 + (i - m) by omega]
        exact ih
/-- one more link -/
theorem zUl_snoc {hd : Nat} {e : Term × Term} (hu : zUl ce lo es pair 0 ce1 i) (hl1 : ce1.length = ce.length + 1 + i) (he : es[i]? = some e) (hc : zRc ce lo (zent2 e.1 e.2) (.inl hd)) : (i = 0 → zUl ce lo es pair 0 (ce1 ++ [(13, hd, 0)]) (i + 1)) ∧ (i ≠ 0 → ∃ hd0, (ce1 ++ [(13, hd, 0)])[ce.length + i]? = some (13, hd0, 0) ∧ zUl ce lo es pair 0 ((ce1 ++ [(13, hd, 0)]).set (ce.length + i) (13, hd0, ce1.length)) (i + 1)) := by
  obtain ⟨⟨X, hX⟩, hp, hU⟩ := hu
  have hpl := (List.getElem?_eq_some_iff.mp hp).1
  refine ⟨fun i0 => ?_, fun i0 => ?_⟩
  · subst i0
    refine ⟨⟨X ++ [(13, hd, 0)], by rw [hX, List.append_assoc]⟩, zget_app hp, fun j e' hj hj2 => ?_⟩
    have : j = 0 := by omega
    subst this
    rw [he] at hj2
    cases hj2
    refine ⟨hd, ?_, hc⟩
    rw [if_neg (by omega), List.getElem?_append_right (by omega), show ce.length + 1 + 0 - ce1.length = 0 by omega]
    rfl
  · obtain ⟨e0, he0⟩ : ∃ e0, es[i - 1]? = some e0 := ⟨_, List.getElem?_eq_getElem (by have := (List.getElem?_eq_some_iff.mp he).1; omega)⟩
    obtain ⟨hd0, q1, q2⟩ := hU (i - 1) e0 (by omega) he0
    rw [if_neg (by omega), show ce.length + 1 + (i - 1) = ce.length + i by omega] at q1
    refine ⟨hd0, zget_app q1, ?_⟩
    have hlast := (List.getElem?_eq_some_iff.mp q1).1
    have sl : ((ce1 ++ [(13, hd, 0)]).set (ce.length + i) (13, hd0, ce1.length)) = (ce1.set (ce.length + i) (13, hd0, ce1.length)) ++ [(13, hd, 0)] := by
      rw [List.set_append_left _ _ hlast]
    refine ⟨?_, ?_, fun j e' hj hj2 => ?_⟩
    · rw [sl, hX, List.set_append_right _ _ (by omega)]
      exact ⟨_, List.append_assoc _ _ _⟩
    · rw [List.getElem?_set_ne (by omega)]; exact zget_app hp
    · by_cases j1 : j = i
      · subst j1
        rw [he] at hj2
        cases hj2
        refine ⟨hd, ?_, hc⟩
        rw [if_neg (by omega), List.getElem?_set_ne (by omega), List.getElem?_append_right (by omega), show ce.length + 1 + j - ce1.length = 0 by omega]
        rfl
      · by_cases j2 : j = i - 1
        · subst j2
          rw [he0] at hj2
          cases hj2
          refine ⟨hd0, ?_, q2⟩
          rw [if_pos (by omega), show ce.length + 1 + (i - 1) = ce.length + i by omega, List.getElem?_set_self (by rw [List.length_append]; omega), hl1, show ce.length + 2 + (i - 1) = ce.length + 1 + i by omega]
        · obtain ⟨hd1, r1, r2⟩ := hU j e' (by omega) hj2
          refine ⟨hd1, ?_, r2⟩
          rw [List.getElem?_set_ne (by omega), zget_app r1, if_pos (by omega), if_pos (by omega)]
/-- the last link gets its end -/
theorem zUl_end (hu : zUl ce lo es pair 0 ce1 i) (hl1 : ce1.length = ce.length + 1 + i) (hi : i ≠ 0) (hie : i ≤ es.length) (ce3 : List (Nat × Nat × Nat)) : ∃ hd0, (ce1 ++ ce3)[ce.length + i]? = some (13, hd0, 0) ∧ zUl ce lo es pair t ((ce1 ++ ce3).set (ce.length + i) (13, hd0, t)) i := by
  obtain ⟨⟨X, hX⟩, hp, hU⟩ := hu
  obtain ⟨e0, he0⟩ : ∃ e0, es[i - 1]? = some e0 := ⟨_, List.getElem?_eq_getElem (by omega)⟩
  obtain ⟨hd0, q1, q2⟩ := hU (i - 1) e0 (by omega) he0
  rw [if_neg (by omega), show ce.length + 1 + (i - 1) = ce.length + i by omega] at q1
  have hlast := (List.getElem?_eq_some_iff.mp q1).1
  refine ⟨hd0, zget_app q1, ?_, ?_, fun j e' hj hj2 => ?_⟩
  · rw [List.set_append_left _ _ hlast, hX, List.set_append_right _ _ (by omega)]
    exact ⟨_, List.append_assoc _ _ _⟩
  · rw [List.getElem?_set_ne (by omega)]; exact zget_app hp
  · by_cases j2 : j = i - 1
    · subst j2
      rw [he0] at hj2
      cases hj2
      refine ⟨hd0, ?_, q2⟩
      rw [if_neg (by omega), show ce.length + 1 + (i - 1) = ce.length + i by omega, List.getElem?_set_self (by rw [List.length_append]; omega)]
    · obtain ⟨hd1, r1, r2⟩ := hU j e' (by omega) hj2
      refine ⟨hd1, ?_, r2⟩
      rw [List.getElem?_set_ne (by omega), zget_app r1, if_pos (by omega), if_pos (by omega)]
theorem zUl_0 (ce3 : List (Nat × Nat × Nat)) (hu : zUl ce lo es pair 0 ce1 0) : zUl ce lo es pair t (ce1 ++ ce3) 0 := by
  obtain ⟨⟨X, hX⟩, hp, _⟩ := hu
  exact ⟨⟨X ++ ce3, by rw [hX, List.append_assoc]⟩, zget_app hp, fun j e hj => by omega⟩
/-- how the option is told -/
def zOc (ce : List (Nat × Nat × Nat)) (lo : List (Nat × Nat)) (opt : Term) (o : Nat) : Prop := (opt = .arg 24 ∧ ∃ x y, ce[o]? = some (6, x, y)) ∨ ∃ v j y, opt = .div (.arg 25) v ∧ ce[o]? = some (7, j, y) ∧ zRc ce lo v (.inl j)
theorem zOc_of (ho : opt = .arg 24 ∨ ∃ v, opt = .div (.arg 25) v) (hc : zRc ce lo opt (.inl o)) : zOc ce lo opt o := by
  rcases ho with rfl | ⟨v, rfl⟩
  · obtain ⟨a, b, h1⟩ := hc
    exact Or.inl ⟨rfl, a, b, h1⟩
  · obtain ⟨j, b, h1, h2⟩ := hc
    exact Or.inr ⟨v, j, b, rfl, h1, h2⟩
/-- the beginning of update: the pair, then by the map's kind -/
theorem zup0 {I : Nat → zP → Int32 → Int32 → Int32 → Int32 → Int32 → Int32 → Int32 → zH → Prop} {w ma mb : Nat} (hl : 50 ≤ h.1.length) (hp : zPo M F ce lo) (hc : ce.length < 1400) (hb : b < ce.length) (ho : zOc ce lo opt o) (hm : ce[c]? = some (w, ma, mb)) (hw : w < 100)
    (q : ∀ (goes : Bool) (hv : Nat) M' F', ((goes = true ∧ opt = .arg 24 ∧ hv = b) ∨ (goes = false ∧ ∃ v, opt = .div (.arg 25) v ∧ zRc ce lo v (.inl hv))) → hv < 1400 → zPo M' F' (ce ++ [(5, b, hv)]) lo → zSm [10, 30, 31, 32] M M' → zSm [27] F F' → (w < 14 → ∃ n1, I n1 (some 10) (nI b) (zB goes) (nI ce.length) (-1) (-1) (nI c) 0 (zov h M')) ∧ (14 ≤ w → zCV xs (d + 1) 187 12 (some 10) [Value.int (if goes = true then 16 else 15), Value.int (nI ce.length), Value.int (nI c)] (zov h M') (zKI (fun x1 h2 => Q (.inl (some (Value.int x1))) h2) (fun e h => Q (.inr e) h)))) : zw_216_0 xs (d + 1) Q (fun l0 l2 l4 l5 l6 l7 l8 l9 h => ∃ n1, I n1 l0 l2 l4 l5 l6 l7 l8 l9 h) (some 10) (nI c) (nI b) (nI o) (zov h M) := by
  have h14 := hp.2.2.2.2.1
  have go : ∀ (goes : Bool) (hv : Nat), ((goes = true ∧ opt = .arg 24 ∧ hv = b) ∨ (goes = false ∧ ∃ v, opt = .div (.arg 25) v ∧ zRc ce lo v (.inl hv))) → hv < 1400 → zw_216_36 xs (d + 1) Q (fun l0 l2 l4 l5 l6 l7 l8 l9 h => ∃ n1, I n1 l0 l2 l4 l5 l6 l7 l8 l9 h) (some 10) (nI c) (nI b) (zB goes) (nI hv) (nI b) 5 (some 10) (zov h M) := by
    intro goes hv hg hv14
    refine zM_cv hl hp.1 (zc187 (k := 5) (a := b) (b := hv) hl hp hc (by decide) (by omega) (by omega) (fun M' F' p1 s1 s2 => zKI_v ?_))
    obtain ⟨q1, q2⟩ := q goes hv M' F' hg hv14 p1 s1 s2
    refine zM_what hl p1 (zget_app hm) (pk_lt w 14 (fun z => q1 z) (fun z => ?_))
    have q3 := q2 z
    cases goes with
    | true => exact ⟨fun z => absurd z (by decide), fun _ => q3⟩
    | false => exact ⟨fun _ => q3, fun z => absurd rfl z⟩
  rcases ho with ⟨rfl, x, y, h1⟩ | ⟨v, j, y, rfl, h1, h2⟩
  · refine zM_what hl hp h1 ⟨fun _ => ⟨fun z => absurd z (by decide), fun _ => go true b (Or.inl ⟨rfl, rfl, rfl⟩) (by omega)⟩, fun z => absurd rfl z⟩
  · have hj := zRc_lt _ _ h2 j (Or.inl rfl)
    refine zM_what hl hp h1 ⟨fun z => absurd (show nI 7 = 6 from z) (by decide), fun _ => ⟨fun _ => zM_head hl hp h1 (go false j (Or.inr ⟨rfl, v, rfl, h2⟩) (by omega)), fun z => absurd rfl z⟩⟩
end RF2
