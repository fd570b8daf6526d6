section RF3
variable {xs : List Value} {d : Nat} {h : zH} {M : Nat → zE} {F : Nat → Value} {Q : zO → zH → Prop} {ce : List (Nat × Nat × Nat)} {lo : List (Nat × Nat)} {c b o : Nat} {key opt l : Term} {es : List (Term × Term)}
theorem zkb_at {i : Nat} (h1 : ∀ j e, j < i → es[j]? = some e → zcmp e.1 key < 0) (hi : i ≤ es.length) (h2 : ∀ e, es[i]? = some e → ¬ zcmp e.1 key < 0) : zkb key es = i := by
  rw [zkb_drop es i h1 hi]
  cases hd : es.drop i with
  | nil => rfl
  | cons e r =>
    have : es[i]? = some e := by
      have := congrArg (fun q => q[0]?) hd
      simp only [List.getElem?_drop, Nat.add_zero, List.getElem?_cons_zero] at this
      exact this
    rw [zkb_c1 (h2 e this)]
    omega
/-- update of a MAP -/
theorem zc216m (hl : 50 ≤ h.1.length) (hp : zPo M F ce lo) (h35 : zS35 M) (hc : ce.length + es.length + 2 ≤ 1400) (hes : es.length < 400) (hb : zRc ce lo key (.inl b)) (ho : zOc ce lo opt o) (hr : zRc ce lo (zenc (es.map fun e => zent2 e.1 e.2)) (.inr (c, 12))) (hL : ∀ e ∈ es, zSimp e.1 key ∧ zdep e.1 ≤ 7)
    (q : ∀ M' F' X c', zPo M' F' (ce ++ X) lo → X.length ≤ es.length + 2 → zRc (ce ++ X) lo (zenc ((zupl key opt es).map fun e => zent2 e.1 e.2)) (.inr (c', 12)) → zSm [10, 30, 31, 32, 35, 36] M M' → zSm [27] F F' → zS35 M' → Q (.inl (some (.int (nI c')))) (zov h M')) : zG xs (d + 2) (216, 0, lv_args 0 [zo (some 10), .int (nI c), .int (nI b), .int (nI o)], []) (zov h M) Q := by
  have hbl := zRc_lt _ _ hb b (Or.inl rfl)
  have h14 := hp.2.2.2.2.1
  have hmk : ∃ w ma mb, ce[c]? = some (w, ma, mb) ∧ w < 14 := by
    cases es with
    | nil => obtain ⟨a, b, h1⟩ := hr; exact ⟨12, a, b, h1, by decide⟩
    | cons e es => obtain ⟨hd, bd, h1, _⟩ := hr; exact ⟨13, hd, bd, h1, by decide⟩
  obtain ⟨w, ma, mb, hm, hw⟩ := hmk
  have hbe : ∀ e ∈ es, zBe key (zent2 e.1 e.2) := fun e he => ⟨28, e.1, e.2, rfl, (hL e he).1, (hL e he).2⟩
  refine zm_216 (fun n l0 l2 l4 l5 l6 l7 l8 l9 h0 => ∃ (goes : Bool) (hv i at_ : Nat) (ce1 : List (Nat × Nat × Nat)) (M1 : Nat → zE) (F1 : Nat → Value), ((goes = true ∧ opt = .arg 24 ∧ hv = b) ∨ (goes = false ∧ ∃ v, opt = .div (.arg 25) v ∧ zRc ce lo v (.inl hv))) ∧ hv < 1400 ∧ n + i = es.length ∧ l0 = some 10 ∧ l2 = nI b ∧ l4 = zB goes ∧ l5 = nI ce.length ∧ l6 = (if i = 0 then -1 else nI (ce.length + 1)) ∧ l7 = (if i = 0 then -1 else nI (ce.length + i)) ∧ l8 = nI at_ ∧ l9 = nI i ∧ i ≤ es.length ∧ h0 = zov h M1 ∧ zPo M1 F1 ce1 lo ∧ zSm [10, 30, 31, 32, 35, 36] M M1 ∧ zSm [27] F F1 ∧ zS35 M1 ∧ ce1.length = ce.length + 1 + i ∧ zUl ce lo es (5, b, hv) 0 ce1 i ∧ (∀ j e, j < i → es[j]? = some e → zcmp e.1 key < 0) ∧ zRc ce lo (zenc ((es.drop i).map fun e => zent2 e.1 e.2)) (.inr (at_, 12))) ?_ ?_
  · rintro n l0 l2 l4 l5 l6 l7 l8 l9 h0 ⟨goes, hv, i, at_, ce1, M1, F1, hg, hv14, hni, rfl, rfl, rfl, rfl, rfl, rfl, rfl, rfl, hi, rfl, p1, sM, sF, s35, hl1, hU, hlt, hra⟩
    have hR := p1.2.1
    obtain ⟨X1, hX1⟩ := hU.1
    have up : ∀ {V x}, zRc ce lo V x → zRc ce1 lo V x := fun {V x} hv => by
      have := zRc_app (ce' := X1) (lo' := []) V x hv
      rw [List.append_nil, ← hX1] at this
      exact this
    -- the end, once it is known where the rest begins
    have fin : ∀ (J : zP → Int32 → Int32 → Int32 → Int32 → Int32 → Int32 → Int32 → zH → Prop) (M2 : Nat → zE) (r : Nat), (∀ e, es[i]? = some e → ¬ zcmp e.1 key < 0) → zPo M2 F1 ce1 lo → zSm [35, 36] M1 M2 → zS35 M2 → zRc ce lo (zenc ((es.drop (i + (zka key es i).toNat)).map fun e => zent2 e.1 e.2)) (.inr (r, 12)) → zw_216_219 xs (d + 2) Q J (some 10) (zB goes) (nI ce.length) (if i = 0 then -1 else nI (ce.length + 1)) (if i = 0 then -1 else nI (ce.length + i)) (nI r) (zov h M2) := by
      intro J M2 r hge p2 sM2 s2 hrr
      have hkb := zkb_at hlt hi hge
      have hrl := zRc_lt _ _ hrr r (Or.inr ⟨_, rfl⟩)
      have sM3 : zSm [10, 30, 31, 32, 35, 36] M M2 := zSm_trans sM sM2 (fun _ z => z) (fun k hk => by simp at hk ⊢; omega)
      -- with the end t of the links, in cells ce1 ++ ce3
      have put : ∀ (ce3 : List (Nat × Nat × Nat)) (tl : List Term) (t : Nat) (M3 : Nat → zE) (F3 : Nat → Value), ce3.length ≤ 1 → t < 1400 → zPo M3 F3 (ce1 ++ ce3) lo → zSm [10, 30, 31, 32, 35, 36] M M3 → zSm [27] F F3 → zS35 M3 → (∀ ce2, zUl ce lo es (5, b, hv) t ce2 i → (∀ j, ce1.length ≤ j → ce2[j]? = (ce1 ++ ce3)[j]?) → zRc ce2 lo (zenc tl) (.inr (t, 12))) → (zupl key opt es).map (fun e => zent2 e.1 e.2) = (es.take i).map (fun e => zent2 e.1 e.2) ++ tl → zw_216_238 xs (d + 2) Q J (some 10) (if i = 0 then -1 else nI (ce.length + 1)) (if i = 0 then -1 else nI (ce.length + i)) (nI t) (zov h M3) := by
        intro ce3 tl t M3 F3 hc3 ht p3 sM4 sF4 s4 htl hz
        by_cases i0 : i = 0
        · subst i0
          rw [if_pos rfl, if_pos rfl]
          have hU2 := zUl_0 (t := t) ce3 hU
          refine ⟨fun _ => ?_, fun z => absurd (by decide) z⟩
          obtain ⟨X, hX⟩ := hU2.1
          rw [hX] at p3 hU2
          have hln := congrArg List.length hX
          rw [List.length_append, List.length_append] at hln
          refine q M3 F3 X t p3 (by omega) ?_ sM4 sF4 s4
          rw [hz, List.take_zero]
          exact htl _ hU2 (fun j _ => by rw [hX])
        · rw [if_neg i0, if_neg i0]
          refine ⟨fun z => absurd z (nI_pos (by omega)), fun _ => ?_⟩
          obtain ⟨hd0, e1, hU2⟩ := zUl_end (t := t) hU hl1 i0 hi ce3
          refine zPo_body hl p3 e1 (by omega) (fun M4 p4 s5 => ?_)
          obtain ⟨X, hX⟩ := hU2.1
          have tl2 := htl _ hU2 (fun j hj => by rw [List.getElem?_set_ne (by omega)])
          have rc := zUl_rc hU2 hi tl2 i (Nat.le_refl _)
          rw [if_neg i0, Nat.sub_self, List.drop_zero, Nat.add_zero, ← hz] at rc
          have hln := congrArg List.length hX
          rw [List.length_set, List.length_append, List.length_append] at hln
          rw [hX] at p4 rc
          refine q M4 F3 X (ce.length + 1) p4 (by omega) rc (zSm_trans sM4 s5 (fun _ z => z) (fun k hk => by simp at hk ⊢; omega)) sF4 ?_
          obtain ⟨A, B, a1, a2, a3⟩ := s4
          exact ⟨A, B, by rw [s5 35 (by decide)]; exact a1, by rw [s5 36 (by decide)]; exact a2, a3⟩
      have ezp : zupl key opt es = es.take i ++ (zopl key opt ++ es.drop (i + (zka key es i).toNat)) := by
        unfold zupl; rw [hkb]; rfl
      rcases hg with ⟨rfl, rfl, rfl⟩ | ⟨rfl, v, rfl, hvc⟩
      · -- the key goes
        refine ⟨fun z => absurd z (by decide), fun _ => ?_⟩
        refine put [] _ r M2 F1 (by decide) (by omega) (by rw [List.append_nil]; exact p2) sM3 sF s2 (fun ce2 hU2 _ => ?_) (by rw [ezp, List.map_append]; try rfl)
        obtain ⟨X, hX⟩ := hU2.1
        have := zRc_app (ce' := X) (lo' := []) _ _ hrr
        rw [List.append_nil, ← hX] at this
        exact this
      · refine ⟨fun _ => ?_, fun z => absurd rfl z⟩
        refine zM_cv hl p2.1 (zc187 (k := 13) (a := ce.length) (b := r) hl p2 (by omega) (by decide) (by omega) (by omega) (fun M3 F3 p3 s3 s3' => zKI_v ?_))
        have s4 : zS35 M3 := by
          obtain ⟨A, B, a1, a2, a3⟩ := s2
          exact ⟨A, B, by rw [s3 35 (by decide)]; exact a1, by rw [s3 36 (by decide)]; exact a2, a3⟩
        refine put [(13, ce.length, r)] (zent2 key v :: (es.drop (i + (zka key es i).toNat)).map fun e => zent2 e.1 e.2) ce1.length M3 F3 (Nat.le_refl _) (by omega) p3 (zSm_trans sM3 s3 (fun _ z => z) (fun k hk => by simp at hk ⊢; omega)) (zSm_t sF s3') s4 (fun ce2 hU2 hsame => ?_) (by rw [ezp, List.map_append, List.map_append]; rfl)
        obtain ⟨X, hX⟩ := hU2.1
        have up2 : ∀ {V x}, zRc ce lo V x → zRc ce2 lo V x := fun {V x} hv => by
          have := zRc_app (ce' := X) (lo' := []) V x hv
          rw [List.append_nil, ← hX] at this
          exact this
        refine ⟨ce.length, r, ?_, ⟨b, hv, hU2.2.1, up2 hb, up2 hvc⟩, up2 hrr⟩
        rw [hsame _ (Nat.le_refl _), List.getElem?_append_right (Nat.le_refl _), Nat.sub_self]
        rfl
    -- the rest is looked for once more
    have fin2 : ∀ (J : zP → Int32 → Int32 → Int32 → Int32 → Int32 → Int32 → Int32 → zH → Prop) (M2 : Nat → zE), (∀ e, es[i]? = some e → ¬ zcmp e.1 key < 0) → zPo M2 F1 ce1 lo → zSm [35, 36] M1 M2 → zS35 M2 → zw_216_178 xs (d + 2) Q J (some 10) (nI b) (zB goes) (nI ce.length) (if i = 0 then -1 else nI (ce.length + 1)) (if i = 0 then -1 else nI (ce.length + i)) (nI at_) (zov h M2) := by
      intro J M2 hge p2 sM2 s2
      cases hd : es.drop i with
      | nil =>
        have hra2 := up hra
        rw [hd] at hra2
        obtain ⟨xa, xb, hat⟩ := hra2
        have hka : zka key es i = false := by
          unfold zka
          rw [List.getElem?_eq_none (by have := congrArg List.length hd; rw [List.length_drop, List.length_nil] at this; omega)]
        refine zM_cv hl p2.1 (zc204 hl p2 hat (by show (12 : Nat) < 100; decide) (zKI_v ⟨fun _ => ?_, fun z => absurd (show zB (zlk 12) = 0 from rfl) z⟩))
        refine fin J M2 at_ hge p2 sM2 s2 ?_
        rw [hka]
        exact hra
      | cons e rest =>
        have hei : es[i]? = some e := by
          have := congrArg (fun q => q[0]?) hd
          simp only [List.getElem?_drop, Nat.add_zero, List.getElem?_cons_zero] at this
          exact this
        have hdr : es.drop (i + 1) = rest := by
          have := congrArg (List.drop 1) hd
          rw [List.drop_drop] at this
          exact this
        have hra1 := hra
        rw [hd] at hra1
        obtain ⟨hd1, bd1, hat, hve, hrest⟩ := hra1
        have hat1 : ce1[at_]? = some (13, hd1, bd1) := by rw [hX1]; exact zget_app hat
        refine zM_cv hl p2.1 (zc204 hl p2 hat1 (by show (13 : Nat) < 100; decide) (zKI_v ⟨fun z => absurd (show zB (zlk 13) = 0 from z) (by decide), fun _ => ?_⟩))
        refine zord_e (d := d) hl p2 s2 (hbe e (List.mem_of_getElem? hei)) (up hve) ⟨_, _, hat1⟩ (up hb) (fun M3 p3 s3 s3' => ⟨fun z0 => ?_, fun z0 => ?_⟩)
        · refine zM_body hl p3 hat1 (fin J M3 bd1 hge p3 (zSm_t sM2 s3) s3' ?_)
          have hka : zka key es i = true := by
            unfold zka; rw [hei]
            exact beq_iff_eq.mpr z0
          rw [hka]
          show zRc ce lo (zenc ((es.drop (i + 1)).map _)) _
          rw [hdr]
          exact hrest
        · refine fin J M3 at_ hge p3 (zSm_t sM2 s3) s3' ?_
          have hka : zka key es i = false := by
            unfold zka; rw [hei]
            exact beq_false_of_ne z0
          rw [hka]
          exact hra
    refine pk_lt i 400 (fun _ => ?_) (fun z => absurd z (by omega))
    cases hd : es.drop i with
    | nil =>
      have hra2 := up hra
      rw [hd] at hra2
      obtain ⟨xa, xb, hat⟩ := hra2
      refine zM_cv hl p1.1 (zc204 hl p1 hat (by show (12 : Nat) < 100; decide) (zKI_v ⟨fun _ => ?_, fun z => absurd (show zB (zlk 12) = 0 from rfl) z⟩))
      exact fin2 _ M1 (fun e he => by
        have := congrArg List.length hd
        rw [List.length_drop, List.length_nil] at this
        have := (List.getElem?_eq_some_iff.mp he).1
        omega) p1 zSm_refl s35
    | cons e rest =>
      have hei : es[i]? = some e := by
        have := congrArg (fun q => q[0]?) hd
        simp only [List.getElem?_drop, Nat.add_zero, List.getElem?_cons_zero] at this
        exact this
      have hil := (List.getElem?_eq_some_iff.mp hei).1
      have hdr : es.drop (i + 1) = rest := by
        have := congrArg (List.drop 1) hd
        rw [List.drop_drop] at this
        exact this
      have hra1 := hra
      rw [hd] at hra1
      obtain ⟨hd1, bd1, hat, hve, hrest⟩ := hra1
      have hat1 : ce1[at_]? = some (13, hd1, bd1) := by rw [hX1]; exact zget_app hat
      have hd1l := zRc_lt _ _ hve hd1 (Or.inl rfl)
      refine zM_cv hl p1.1 (zc204 hl p1 hat1 (by show (13 : Nat) < 100; decide) (zKI_v ⟨fun z => absurd (show zB (zlk 13) = 0 from z) (by decide), fun _ => ?_⟩))
      refine zord_e (d := d) hl p1 s35 (hbe e (List.mem_of_getElem? hei)) (up hve) ⟨_, _, hat1⟩ (up hb) (fun M3 p3 s3 s3' => ⟨fun z0 => ?_, fun z0 => ?_⟩)
      · refine zM_head hl p3 hat1 (zM_cv hl p3.1 (zc187 (k := 13) (a := hd1) (b := 0) hl p3 (by omega) (by decide) (by omega) (by decide) (fun M4 F4 p4 s4 s4' => zKI_v ?_)))
        have s5 : zS35 M4 := by
          obtain ⟨A, B, a1, a2, a3⟩ := s3'
          exact ⟨A, B, by rw [s4 35 (by decide)]; exact a1, by rw [s4 36 (by decide)]; exact a2, a3⟩
        have sM4 : zSm [10, 30, 31, 32, 35, 36] M M4 := zSm_trans (zSm_trans sM s3 (fun _ z => z) (fun k hk => by simp at hk ⊢; omega)) s4 (fun _ z => z) (fun k hk => by simp at hk ⊢; omega)
        have sF4 := zSm_t sF s4'
        obtain ⟨un0, un1⟩ := zUl_snoc hU hl1 hei hve
        have hlt2 : ∀ j e, j < i + 1 → es[j]? = some e → zcmp e.1 key < 0 := fun j e' hj hj2 => by
          by_cases hji : j = i
          · subst hji; rw [hei] at hj2; cases hj2; exact z0
          · exact hlt j e' (by omega) hj2
        by_cases i0 : i = 0
        · subst i0
          rw [if_pos rfl]
          refine ⟨fun _ => zM_body hl p4 (zget_app hat1) ?_, fun z => absurd (by decide) z⟩
          intro x10 hx10
          refine ⟨es.length - 1, by omega, goes, hv, 1, bd1, _, M4, F4, hg, hv14, by omega, rfl, rfl, rfl, rfl, by rw [if_neg (by decide), hl1], by rw [if_neg (by decide), hl1], rfl, hx10, by omega, rfl, p4, sM4, sF4, s5, by rw [List.length_append, hl1]; rfl, un0 rfl, hlt2, by rw [hdr]; exact hrest⟩
        · rw [if_neg i0]
          refine ⟨fun z => absurd z (nI_pos (by omega)), fun _ => ?_⟩
          obtain ⟨hd0, g1, g2⟩ := un1 i0
          refine zPo_body hl p4 g1 (by omega) (fun M5 p5 s6 => ?_)
          have s7 : zS35 M5 := by
            obtain ⟨A, B, a1, a2, a3⟩ := s5
            exact ⟨A, B, by rw [s6 35 (by decide)]; exact a1, by rw [s6 36 (by decide)]; exact a2, a3⟩
          have hatl := (List.getElem?_eq_some_iff.mp hat).1
          refine zM_body hl p5 (by rw [List.getElem?_set_ne (by omega)]; exact zget_app hat1) ?_
          intro x10 hx10
          refine ⟨n - 1, by omega, goes, hv, i + 1, bd1, _, M5, F4, hg, hv14, by omega, rfl, rfl, rfl, rfl, by rw [if_neg i0, if_neg (by omega)], by rw [if_neg (by omega), hl1, show ce.length + 1 + i = ce.length + (i + 1) by omega], rfl, by rw [hx10, nI_1], by omega, rfl, p5, zSm_trans sM4 s6 (fun _ z => z) (fun k hk => by simp at hk ⊢; omega), sF4, s7, by rw [List.length_set, List.length_append, hl1]; rfl, g2, hlt2, by rw [hdr]; exact hrest⟩
      · exact fin2 _ M3 (fun e' he' => by rw [hei] at he'; cases he'; exact z0) p3 s3 s3'
  · refine zup0 (I := _) (d := d + 1) hl hp (by omega) hbl ho hm (by omega) (fun goes hv M' F' hg hv14 p1 s1 s2 => ⟨fun _ => ⟨es.length, goes, hv, 0, c, _, M', F', hg, hv14, by omega, rfl, rfl, rfl, rfl, by rw [if_pos rfl], by rw [if_pos rfl], rfl, rfl, Nat.zero_le _, rfl, p1, zSm_mono s1 (fun k hk => by simp at hk ⊢; omega), s2, ?_, by rw [List.length_append]; rfl, ⟨⟨_, rfl⟩, ?_, fun j e hj => by omega⟩, fun j e hj => by omega, by rw [List.drop_zero]; exact hr⟩, fun z => absurd z (by omega)⟩)
    · obtain ⟨A, B, a1, a2, a3⟩ := h35
      exact ⟨A, B, by rw [s1 35 (by decide)]; exact a1, by rw [s1 36 (by decide)]; exact a2, a3⟩
    · rw [List.getElem?_append_right (Nat.le_refl _), Nat.sub_self]; rfl
end RF3
