/-! ADEQUACY, seventh part: labels stay in range; counters grow; worlds move -/
theorem zwp_pure {n : Nat} {i : ClassFile.Instr} {st st' : List Value} (h : zpure i st = some st') (hw : zwS n st) : zwS n st' := by
  unfold zpure at h
  split at h
  case h_35 => cases h
  case h_31 =>
    split at h
    · cases h; exact zwS_cons (hw _ List.mem_cons_self) hw
    · cases h
  case h_32 =>
    split at h
    · cases h; exact zwS_tail hw
    · cases h
  case h_33 =>
    split at h
    · cases h; exact zwS_cons (hw _ List.mem_cons_self) (zwS_cons (hw _ (List.mem_cons_of_mem _ List.mem_cons_self)) (zwS_cons (hw _ List.mem_cons_self) (zwS_tail (zwS_tail hw))))
    · cases h
  case h_34 =>
    split at h
    · cases h; exact zwS_cons (hw _ List.mem_cons_self) (zwS_cons (hw _ (List.mem_cons_of_mem _ List.mem_cons_self)) hw)
    · cases h
  all_goals cases h
  all_goals first | exact zwS_cons trivial hw | exact zwS_cons trivial (zwS_tail hw) | exact zwS_cons trivial (zwS_tail (zwS_tail hw))
theorem zwp_br {n pc t : Nat} {i : ClassFile.Instr} {st st' : List Value} (h : zbr pc i st = some (t, st')) (hw : zwS n st) : zwS n st' := by
  unfold zbr at h
  split at h
  case h_14 =>
    split at h
    · split at h
      · cases h; exact zwS_tail hw
      · cases h
    · split at h
      · split at h
        · cases h; exact zwS_tail hw
        · cases h
      · cases h
  case h_15 =>
    split at h
    · cases h; exact zwS_tail hw
    · cases h
  case h_16 => cases h
  all_goals cases h
  all_goals first | exact hw | exact zwS_tail hw | exact zwS_tail (zwS_tail hw)
theorem zwL_cons {n i : Nat} {v : Value} {lv : List (Nat × Value)} {f : Nat × Value → Bool} (hv : zwv n v) (hl : zwL n lv) : zwL n ((i, v) :: lv.filter f) := by
  intro q hq
  rcases List.mem_cons.mp hq with rfl | hq
  · exact hv
  · exact hl q (List.mem_filter.mp hq).1
theorem zwp_loc {n nL : Nat} {i : ClassFile.Instr} {st st' : List Value} {lv lv' : List (Nat × Value)} (h : zloc nL i lv st = some (lv', st')) (hl : zwL n lv) (hw : zwS n st) : zwL n lv' ∧ zwS n st' := by
  unfold zloc at h
  split at h
  case h_16 => cases h
  all_goals split at h
  all_goals first | cases h; done | skip
  all_goals first
    | (rename_i hg; cases h; exact ⟨hl, zwS_cons (hl _ (zgetl_mem hg)) hw⟩)
    | (cases h; exact ⟨zwL_cons (hw _ List.mem_cons_self) hl, zwS_tail hw⟩)
    | (split at h
       · cases h; exact ⟨zwL_cons trivial hl, hw⟩
       · cases h)
def zAg (n : Nat) (ad ad' : Nat → Nat) : Prop := ∀ k, k < n → ad' k = ad k
theorem zAg.refl {n : Nat} {ad : Nat → Nat} : zAg n ad ad := fun _ _ => rfl
theorem zAg.trans {n n1 : Nat} {ad ad1 ad2 : Nat → Nat} (h : zAg n ad ad1) (h1 : zAg n1 ad1 ad2) (hn : n ≤ n1) : zAg n ad ad2 := fun k hk => (h1 k (by omega)).trans (h k hk)
theorem zK0_sp {j : Nat} {q : Nat × List Value} (h : z_sp[j]? = some q) : j + 1 < zK0 := by
  have := (List.getElem?_eq_some_iff.mp h).1
  unfold zK0
  omega
theorem zK0_pos : 0 < zK0 := by unfold zK0; omega
theorem zold_ad {B n : Nat} {ad ad' : Nat → Nat} {xs : List Value} {U : State} {H : Heap} (hn : zK0 ≤ n) (ha : zAg n ad ad') (h : zold B ad xs U H) : zold B ad' xs U H := by
  obtain ⟨h1, h2, h3, h4, h5, h6⟩ := h
  have e0 : ad' 0 = ad 0 := ha 0 (Nat.lt_of_lt_of_le zK0_pos hn)
  refine ⟨by rw [e0]; exact h1, by rw [e0]; exact h2, fun j t vs hj => ?_, h4, h5, h6⟩
  have e1 : ad' (j + 1) = ad (j + 1) := ha _ (Nat.lt_of_lt_of_le (zK0_sp hj) hn)
  rw [e1]
  exact h3 j t vs hj
theorem zold_moved {B : Nat} {ad : Nat → Nat} {xs : List Value} {u U : State} {H : Heap} (hvm : u.vm.Alike U.vm) (h : zold B ad xs u H) : zold B ad xs U H := by
  obtain ⟨⟨xf, h1, h1'⟩, h2, h3, h4, h5, h6⟩ := h
  exact ⟨⟨xf, va_X.moved hvm h1, h1'⟩, h2, fun j t vs hj => ⟨(h3 j t vs hj).1, va_T.moved hvm (h3 j t vs hj).2.1, va_Z.moved hvm (h3 j t vs hj).2.2⟩, vx_Zq.moved hvm h4, vx_Zq.moved hvm h5, fun a b ha hb hab => va_Nc.moved hvm (h6 a b ha hb hab)⟩
theorem zold_kept {B : Nat} {ad : Nat → Nat} {xs : List Value} {U : State} {H H1 : Heap} (hB : B ≤ H.size) (hq : ∀ a : Nat, a < H.size → ¬ B ≤ a → H1[a]? = H[a]?) (h : zold B ad xs U H) : zold B ad xs U H1 := by
  obtain ⟨⟨xf, h1, h1'⟩, h2, h3, h4, h5, h6⟩ := h
  exact ⟨⟨xf, va_X.kept h1 (hq _ (by omega) (by omega)), h1'⟩, h2, fun j t vs hj => ⟨(h3 j t vs hj).1, va_T.kept (h3 j t vs hj).2.1 hq, va_Z.kept (h3 j t vs hj).2.2 hq⟩, vx_Zq.kept h4 hq, vx_Zq.kept h5 hq, h6⟩
theorem zW_moved {B : Nat} {D : va_G} {tys : List (ClassId × FieldType)} {ad : Nat → Nat} {h : zH} {u U : State} {H : Heap} (hvm : u.vm.Alike U.vm) (hW : zW B D tys ad h u H) : zW B D tys ad h U H :=
  ⟨hW.1, hW.2.1, va_K.moved hvm hW.2.2.1, hW.2.2.2⟩
theorem zheap_mono {xs : List Value} {mi : Nat} {i : ClassFile.Instr} {st st' : List Value} {h h' : zH} (hh : zheap xs mi i st h = some (st', h')) : h.2.1 ≤ h'.2.1 ∧ h.2.2 ≤ h'.2.2 ∧ h.1.length ≤ h'.1.length := by
  have hp : ∀ (k : Nat) (e : zE), h.2.1 ≤ (zput h k e).2.1 ∧ h.2.2 ≤ (zput h k e).2.2 ∧ h.1.length ≤ (zput h k e).1.length := fun k e => ⟨Nat.le_refl _, Nat.le_refl _, by show _ ≤ (h.1.set _ _).length; rw [List.length_set]; exact Nat.le_refl _⟩
  have ha : ∀ (e : zE) (n : Nat), h.2.1 ≤ (zadd h e n).2.1 ∧ h.2.2 ≤ (zadd h e n).2.2 ∧ h.1.length ≤ (zadd h e n).1.length := fun e n => ⟨Nat.le_succ _, Nat.le_add_right _ _, by show _ ≤ (h.1 ++ [e]).length; simp⟩
  have hr : h.2.1 ≤ h.2.1 ∧ h.2.2 ≤ h.2.2 ∧ h.1.length ≤ h.1.length := ⟨Nat.le_refl _, Nat.le_refl _, Nat.le_refl _⟩
  unfold zheap at hh
  split at hh
  case h_22 => cases hh
  all_goals (repeat' split at hh)
  all_goals first | (cases hh; done) | (cases hh; exact hr) | (cases hh; exact hp _ _) | (cases hh; exact ha _ _) | skip
  all_goals (obtain ⟨v, -, hv⟩ := Option.map_eq_some_iff.mp hh; cases hv; exact hr)
theorem zrun_mono {xs : List Value} : ∀ (n d : Nat) (f : zF) (h : zH) (o : zO) (h' : zH), zrun xs n d f h = some (o, h') → h.2.1 ≤ h'.2.1 ∧ h.2.2 ≤ h'.2.2 ∧ h.1.length ≤ h'.1.length := by
  intro n
  induction n with
  | zero => intro d f h o h' hr; cases hr
  | succ n ih =>
    intro d f h o h' hr
    have tr : ∀ {h1 : zH}, (h.2.1 ≤ h1.2.1 ∧ h.2.2 ≤ h1.2.2 ∧ h.1.length ≤ h1.1.length) → (h1.2.1 ≤ h'.2.1 ∧ h1.2.2 ≤ h'.2.2 ∧ h1.1.length ≤ h'.1.length) → h.2.1 ≤ h'.2.1 ∧ h.2.2 ≤ h'.2.2 ∧ h.1.length ≤ h'.1.length := fun a b => ⟨Nat.le_trans a.1 b.1, Nat.le_trans a.2.1 b.2.1, Nat.le_trans a.2.2 b.2.2⟩
    rw [zrun] at hr
    split at hr
    · split at hr
      · rename_i f' h1 hs
        refine tr ?_ (ih _ _ _ _ _ hr)
        unfold zstp at hs
        split at hs
        · cases hs; exact ⟨Nat.le_refl _, Nat.le_refl _, Nat.le_refl _⟩
        · split at hs
          · cases hs; exact ⟨Nat.le_refl _, Nat.le_refl _, Nat.le_refl _⟩
          · split at hs
            · cases hs; exact ⟨Nat.le_refl _, Nat.le_refl _, Nat.le_refl _⟩
            · split at hs
              · rename_i hz; cases hs; exact zheap_mono hz
              · cases hs
      · split at hr
        · cases hr; exact ⟨Nat.le_refl _, Nat.le_refl _, Nat.le_refl _⟩
        · split at hr
          · split at hr
            · cases hr; exact ⟨Nat.le_succ _, Nat.le_add_right _ _, Nat.le_refl _⟩
            · cases hr
          · split at hr
            · split at hr
              · cases hr
              · split at hr
                · rename_i h1 hc; exact tr (ih _ _ _ _ _ hc) (ih _ _ _ _ _ hr)
                · rename_i h1 hc
                  split at hr
                  · cases hr
                  · split at hr
                    · split at hr
                      · exact tr (ih _ _ _ _ _ hc) (ih _ _ _ _ _ hr)
                      · cases hr
                    · split at hr
                      · cases hr; exact ih _ _ _ _ _ hc
                      · cases hr
                · cases hr
            · cases hr
    · cases hr
