/-! a run does not look at a hidden cell -/
def zHid : zE := .inl (9999, [])
section LOC
variable {xs : List Value} {mi s k n : Nat} {h h' : zH} {X e : zE} {st st' : List Value} {i : ClassFile.Instr}
theorem zown_l (hs : zown h s = some zHid) (ho : zown h k = some e) (hne : e ≠ zHid) : k ≠ s ∧ zown (zput h s X) k = some e := by
  have hk : k ≠ s := fun z => by subst z; rw [hs] at ho; exact hne (Option.some.inj ho).symm
  exact ⟨hk, by rw [zown_ne hs hk]; exact ho⟩
theorem zput_l {e0 : zE} (hs : zown h s = some zHid) (ho : zown h k = some e0) (hk : k ≠ s) : zput (zput h s X) k e = zput (zput h k e) s X ∧ zown (zput h k e) s = some zHid :=
  ⟨zput_comm (zown_lt hs).1 (zown_lt ho).1 (Ne.symm hk), by rw [zown_ne ho (Ne.symm hk)]; exact hs⟩
theorem zadd_l (hs : zown h s = some zHid) : zadd (zput h s X) e n = zput (zadd h e n) s X ∧ zown (zadd h e n) s = some zHid :=
  ⟨(zput_old hs).symm, zown_add hs⟩
theorem zref_l : zref (zput h s X) = zref h := by unfold zref; rw [zput_ln]
theorem zarr_l {t : Nat} {vs : List Value} (hs : zown h s = some zHid) (ha : zarr xs h k = some (t, vs)) (ht : t ≠ 9999) : zarr xs (zput h s X) k = some (t, vs) := by
  unfold zarr at ha ⊢
  split at ha
  · rename_i q; rw [if_pos q]; exact ha
  · rename_i q
    rw [if_neg q]
    split at ha
    · rename_i q2; rw [if_pos q2]; exact ha
    · rename_i q2
      rw [if_neg q2]
      split at ha
      · rename_i a hk
        have ho : zown h k = some (.inl a) := by unfold zown; rw [if_neg q2]; exact hk
        obtain ⟨_, h2⟩ := zown_l (X := X) hs ho (fun z => by
          have : a = (9999, []) := Sum.inl.inj z
          cases ha
          exact ht (congrArg Prod.fst this))
        have h3 : (zput h s X).1[k - zK0]? = some (.inl a) := (zown_lt h2).2.2
        rw [h3]
        exact ha
      · cases ha
theorem zaty_l : z_aty.length ≤ 9999 := by decide
theorem zheap_l (hs : zown h s = some zHid) (hz : zheap xs mi i st h = some (st', h')) : zheap xs mi i st (zput h s X) = some (st', zput h' s X) ∧ zown h' s = some zHid := by
  have inr : ∀ {c : Nat} {fs : List Value}, (Sum.inr (c, fs) : zE) ≠ zHid := fun z => by cases z
  have inl : ∀ {t : Nat} {vs : List Value}, t ≠ 9999 → (Sum.inl (t, vs) : zE) ≠ zHid := fun ht z => ht (congrArg Prod.fst (Sum.inl.inj z))
  have la := zaty_l
  unfold zheap at hz
  split at hz
  · -- getfield
    unfold zheap; dsimp only
    split at hz
    · rename_i h1 h2
      obtain ⟨k1, k2⟩ := zown_l (X := X) hs h2 inr
      (try rw [h1]); (try rw [k2]); (try dsimp only)
      split at hz
      · rename_i q
        rw [if_pos q]
        obtain ⟨v, hv, e1⟩ := Option.map_eq_some_iff.mp hz
        cases e1
        rw [hv]
        exact ⟨rfl, hs⟩
      · cases hz
    · cases hz
  · -- putfield
    unfold zheap; dsimp only
    split at hz
    · rename_i h1 h2
      obtain ⟨k1, k2⟩ := zown_l (X := X) hs h2 inr
      (try rw [h1]); (try rw [k2]); (try dsimp only)
      split at hz
      · rename_i q
        rw [if_pos q]
        cases hz
        obtain ⟨p1, p2⟩ := zput_l (X := X) (e := .inr (_, _)) hs h2 k1
        rw [p1]
        exact ⟨rfl, p2⟩
      · cases hz
    · cases hz
  · -- getstatic
    unfold zheap; dsimp only
    split at hz
    · rename_i h1
      (try rw [h1]); (try dsimp only)
      split at hz
      · rename_i q; rw [if_pos q]; cases hz; exact ⟨rfl, hs⟩
      · cases hz
    · cases hz
  · -- ldc2_w
    unfold zheap; dsimp only
    split at hz
    · rename_i h1
      (try rw [h1]); (try dsimp only)
      split at hz
      · rename_i q; (try rw [q]); cases hz; exact ⟨rfl, hs⟩
      · cases hz
    · cases hz
  · -- arraylength
    unfold zheap; dsimp only
    split at hz
    · rename_i h1
      split at hz
      · rename_i q
        rw [zarr_l (X := X) hs h1 (by omega)]; (try dsimp only)
        rw [if_pos q]; cases hz; exact ⟨rfl, hs⟩
      · cases hz
    · cases hz
  · -- iaload
    unfold zheap; dsimp only
    split at hz
    · rename_i h1
      rw [zarr_l (X := X) hs h1 (by omega)]; (try dsimp only)
      split at hz
      · cases hz
      · rename_i q
        (try change ite _ _ _ = _ ∧ _)
        rw [if_neg q]
        split at hz
        · rename_i hv; (try rw [hv]); cases hz; exact ⟨rfl, hs⟩
        · cases hz
    · cases hz
  · -- baload
    unfold zheap; dsimp only
    split at hz
    · rename_i h1
      obtain ⟨k1, k2⟩ := zown_l (X := X) hs h1 (inl (by omega))
      (try rw [k2]); (try dsimp only)
      split at hz
      · cases hz
      · rename_i q
        (try change ite _ _ _ = _ ∧ _)
        rw [if_neg q]
        split at hz
        · rename_i hv; (try rw [hv]); cases hz; exact ⟨rfl, hs⟩
        · cases hz
    · rename_i h1
      obtain ⟨k1, k2⟩ := zown_l (X := X) hs h1 (inl (by omega))
      (try rw [k2]); (try dsimp only)
      split at hz
      · cases hz
      · rename_i q
        (try change ite _ _ _ = _ ∧ _)
        rw [if_neg q]
        split at hz
        · rename_i hv; (try rw [hv]); cases hz; exact ⟨rfl, hs⟩
        · cases hz
    · cases hz
  · -- saload
    unfold zheap; dsimp only
    split at hz
    · rename_i h1
      obtain ⟨k1, k2⟩ := zown_l (X := X) hs h1 (inl (by omega))
      (try rw [k2]); (try dsimp only)
      split at hz
      · cases hz
      · rename_i q
        (try change ite _ _ _ = _ ∧ _)
        rw [if_neg q]
        split at hz
        · rename_i hv; (try rw [hv]); cases hz; exact ⟨rfl, hs⟩
        · cases hz
    · cases hz
  · -- laload
    unfold zheap; dsimp only
    split at hz
    · rename_i h1
      obtain ⟨k1, k2⟩ := zown_l (X := X) hs h1 (inl (by omega))
      (try rw [k2]); (try dsimp only)
      split at hz
      · cases hz
      · rename_i q
        (try change ite _ _ _ = _ ∧ _)
        rw [if_neg q]
        split at hz
        · rename_i hv; (try rw [hv]); cases hz; exact ⟨rfl, hs⟩
        · cases hz
    · cases hz
  · -- aaload
    unfold zheap; dsimp only
    split at hz
    · rename_i h1
      split at hz
      · cases hz
      · rename_i q
        obtain ⟨k1, k2⟩ := zown_l (X := X) hs h1 (inl (by omega))
        (try rw [k2]); (try dsimp only)
        (try change ite _ _ _ = _ ∧ _)
        rw [if_neg q]
        split at hz
        · rename_i hv; (try rw [hv]); cases hz; exact ⟨rfl, hs⟩
        · rename_i hv; (try rw [hv]); cases hz; exact ⟨rfl, hs⟩
        · cases hz
    · cases hz
  · -- iastore
    unfold zheap; dsimp only
    split at hz
    · rename_i h1
      obtain ⟨k1, k2⟩ := zown_l (X := X) hs h1 (inl (by omega))
      (try rw [k2]); (try dsimp only)
      split at hz
      · cases hz
      · rename_i q
        (try change ite _ _ _ = _ ∧ _)
        rw [if_neg q]
        cases hz
        obtain ⟨p1, p2⟩ := zput_l (X := X) (e := .inl (_, _)) hs h1 k1
        rw [p1]
        exact ⟨rfl, p2⟩
    · cases hz
  · -- bastore
    unfold zheap; dsimp only
    split at hz
    · rename_i h1
      obtain ⟨k1, k2⟩ := zown_l (X := X) hs h1 (inl (by omega))
      (try rw [k2]); (try dsimp only)
      split at hz
      · cases hz
      · rename_i q
        (try change ite _ _ _ = _ ∧ _)
        rw [if_neg q]
        cases hz
        obtain ⟨p1, p2⟩ := zput_l (X := X) (e := .inl (_, _)) hs h1 k1
        rw [p1]
        exact ⟨rfl, p2⟩
    · rename_i h1
      obtain ⟨k1, k2⟩ := zown_l (X := X) hs h1 (inl (by omega))
      (try rw [k2]); (try dsimp only)
      split at hz
      · cases hz
      · rename_i q
        (try change ite _ _ _ = _ ∧ _)
        rw [if_neg q]
        cases hz
        obtain ⟨p1, p2⟩ := zput_l (X := X) (e := .inl (_, _)) hs h1 k1
        rw [p1]
        exact ⟨rfl, p2⟩
    · cases hz
  · -- sastore
    unfold zheap; dsimp only
    split at hz
    · rename_i h1
      obtain ⟨k1, k2⟩ := zown_l (X := X) hs h1 (inl (by omega))
      (try rw [k2]); (try dsimp only)
      split at hz
      · cases hz
      · rename_i q
        (try change ite _ _ _ = _ ∧ _)
        rw [if_neg q]
        cases hz
        obtain ⟨p1, p2⟩ := zput_l (X := X) (e := .inl (_, _)) hs h1 k1
        rw [p1]
        exact ⟨rfl, p2⟩
    · cases hz
  · -- lastore
    unfold zheap; dsimp only
    split at hz
    · rename_i h1
      obtain ⟨k1, k2⟩ := zown_l (X := X) hs h1 (inl (by omega))
      (try rw [k2]); (try dsimp only)
      split at hz
      · cases hz
      · rename_i q
        (try change ite _ _ _ = _ ∧ _)
        rw [if_neg q]
        cases hz
        obtain ⟨p1, p2⟩ := zput_l (X := X) (e := .inl (_, _)) hs h1 k1
        rw [p1]
        exact ⟨rfl, p2⟩
    · cases hz
  · -- aastore null
    unfold zheap; dsimp only
    split at hz
    · rename_i h1
      split at hz
      · cases hz
      · rename_i q
        obtain ⟨k1, k2⟩ := zown_l (X := X) hs h1 (inl (by omega))
        (try rw [k2]); (try dsimp only)
        (try change ite _ _ _ = _ ∧ _)
        rw [if_neg q]
        cases hz
        obtain ⟨p1, p2⟩ := zput_l (X := X) (e := .inl (_, _)) hs h1 k1
        rw [p1]
        exact ⟨rfl, p2⟩
    · cases hz
  · -- aastore ref
    unfold zheap; dsimp only
    split at hz
    · rename_i h1 h2
      split at hz
      · cases hz
      · rename_i q
        obtain ⟨k1, k2⟩ := zown_l (X := X) hs h1 (inl (by omega))
        obtain ⟨m1, m2⟩ := zown_l (X := X) hs h2 inr
        (try rw [k2]); (try rw [m2]); (try dsimp only)
        (try change ite _ _ _ = _ ∧ _)
        rw [if_neg q]
        cases hz
        obtain ⟨p1, p2⟩ := zput_l (X := X) (e := .inl (_, _)) hs h1 k1
        rw [p1]
        exact ⟨rfl, p2⟩
    · cases hz
  · -- newarray
    unfold zheap; dsimp only
    split at hz
    · rename_i h1
      (try rw [h1]); (try dsimp only)
      split at hz
      · cases hz
      · rename_i q
        (try change ite _ _ _ = _ ∧ _)
        rw [if_neg q]
        cases hz
        rw [zref_l, (zadd_l (X := X) hs).1]
        exact ⟨rfl, (zadd_l (X := X) hs).2⟩
    · cases hz
  · -- anewarray
    unfold zheap; dsimp only
    split at hz
    · rename_i h1
      (try rw [h1]); (try dsimp only)
      split at hz
      · cases hz
      · rename_i q
        (try change ite _ _ _ = _ ∧ _)
        rw [if_neg q]
        cases hz
        rw [zref_l, (zadd_l (X := X) hs).1]
        exact ⟨rfl, (zadd_l (X := X) hs).2⟩
    · cases hz
  · -- new
    unfold zheap; dsimp only
    split at hz
    · rename_i h1
      (try rw [h1]); (try dsimp only)
      split at hz
      · rename_i q
        (try rw [q])
        cases hz
        (try dsimp only)
        rw [zref_l, (zadd_l (X := X) hs).1]
        exact ⟨rfl, (zadd_l (X := X) hs).2⟩
      · cases hz
    · cases hz
  · -- invokestatic
    unfold zheap; dsimp only
    split at hz
    · rename_i h1
      (try rw [h1]); (try dsimp only)
      split at hz
      · rename_i q; rw [if_pos q]; cases hz; exact ⟨rfl, hs⟩
      · cases hz
    · cases hz
  · -- invokespecial
    unfold zheap; dsimp only
    split at hz
    · rename_i h1
      (try rw [h1]); (try dsimp only)
      split at hz
      · rename_i q; rw [if_pos q]; cases hz; exact ⟨rfl, hs⟩
      · cases hz
    · cases hz
  · cases hz
end LOC
section LOC2
variable {xs : List Value} {mi s k n d : Nat} {h h' : zH} {X e : zE} {st st' : List Value} {i : ClassFile.Instr} {f : zF}
theorem zstp_l {nL len : Nat} {f' : zF} (hs : zown h s = some zHid) (hz : zstp xs nL i len f h = some (f', h')) : zstp xs nL i len f (zput h s X) = some (f', zput h' s X) ∧ zown h' s = some zHid := by
  unfold zstp at hz ⊢
  cases h1 : zpure i f.2.2.2 with
  | some a => rw [h1] at hz; cases hz; exact ⟨rfl, hs⟩
  | none =>
    rw [h1] at hz
    dsimp only at hz ⊢
    cases h2 : zbr f.2.1 i f.2.2.2 with
    | some a => rw [h2] at hz; cases hz; exact ⟨rfl, hs⟩
    | none =>
      rw [h2] at hz
      dsimp only at hz ⊢
      cases h3 : zloc nL i f.2.2.1 f.2.2.2 with
      | some a => rw [h3] at hz; cases hz; exact ⟨rfl, hs⟩
      | none =>
        rw [h3] at hz
        dsimp only at hz ⊢
        cases h4 : zheap xs f.1 i f.2.2.2 h with
        | none => rw [h4] at hz; cases hz
        | some a =>
          obtain ⟨a1, a2⟩ := a
          rw [h4] at hz
          cases hz
          obtain ⟨r1, r2⟩ := zheap_l (X := X) hs h4
          rw [r1]
          exact ⟨rfl, r2⟩
/-- an instruction that ends, throws or calls does nothing else, in any heap -/
theorem zheap_n {h2 : zH} {ret : Option FieldType} {pc : Nat} (hz : zheap xs mi i st h = none) (hr : (zret ret i st).isSome = true ∨ (zthr mi pc i st).isSome = true ∨ (zcall mi i st h).isSome = true) : zheap xs mi i st h2 = none := by
  have hi : (∃ x, i = .new x) ∨ (∃ x, i = .invokestatic x) ∨ (∃ x, i = .invokespecial x) ∨ (∃ x, i = .invokevirtual x) ∨ i = .ireturn ∨ i = .lreturn ∨ i = .areturn ∨ i = .return_ := by
    rcases hr with hr | hr | hr
    · unfold zret at hr
      split at hr <;> first | exact Or.inr (Or.inr (Or.inr (Or.inr (Or.inl rfl)))) | exact Or.inr (Or.inr (Or.inr (Or.inr (Or.inr (Or.inl rfl))))) | exact Or.inr (Or.inr (Or.inr (Or.inr (Or.inr (Or.inr (Or.inl rfl)))))) | exact Or.inr (Or.inr (Or.inr (Or.inr (Or.inr (Or.inr (Or.inr rfl)))))) | cases hr
    · unfold zthr at hr
      split at hr
      · exact Or.inl ⟨_, rfl⟩
      · cases hr
    · unfold zcall at hr
      split at hr
      · exact Or.inr (Or.inl ⟨_, rfl⟩)
      · exact Or.inr (Or.inr (Or.inr (Or.inl ⟨_, rfl⟩)))
      · exact Or.inr (Or.inr (Or.inl ⟨_, rfl⟩))
      · cases hr
  rcases hi with ⟨x, rfl⟩ | ⟨x, rfl⟩ | ⟨x, rfl⟩ | ⟨x, rfl⟩ | rfl | rfl | rfl | rfl
  · unfold zheap at hz ⊢
    dsimp only at hz ⊢
    split at hz
    · split at hz
      · cases hz
      · first | done | rfl
    · first | done | rfl
  · unfold zheap at hz ⊢
    split at hz
    all_goals first | rfl | skip
    all_goals cases ‹ClassFile.Instr.invokestatic _ = _›
    all_goals (try dsimp only at hz)
    all_goals (try dsimp only)
    all_goals (split at hz <;> first | rfl | skip)
    all_goals (split at hz <;> first | (cases hz; done) | skip)
    all_goals (rename_i q; rw [if_neg q])
  · unfold zheap at hz ⊢
    split at hz
    all_goals first | rfl | skip
    all_goals cases ‹ClassFile.Instr.invokespecial _ = _›
    all_goals (try dsimp only at hz)
    all_goals (try dsimp only)
    all_goals (split at hz <;> first | rfl | skip)
    all_goals (split at hz <;> first | (cases hz; done) | skip)
    all_goals (rename_i q; rw [if_neg q])
  · rfl
  · rfl
  · rfl
  · rfl
  · rfl
theorem zcall_l {c : Nat × List Value × List Value} (hs : zown h s = some zHid) (hz : zcall mi i st h = some c) : zcall mi i st (zput h s X) = some c := by
  unfold zcall at hz ⊢
  split at hz
  · exact hz
  · split at hz
    · rename_i h1 h2
      split at hz
      · rename_i h3
        obtain ⟨k1, k2⟩ := zown_l (X := X) hs h3 (fun z => by cases z)
        (try rw [h1]); (try rw [h2]); (try dsimp only)
        rw [k2]
        exact hz
      · cases hz
    · cases hz
  · split at hz
    · rename_i k r h1 h2
      (try rw [h1]); (try rw [h2]); (try dsimp only)
      have : (zown (zput h s X) k).isSome = (zown h k).isSome := by
        by_cases q : k = s
        · subst q; rw [zown_put hs, hs]; rfl
        · rw [zown_ne hs q]
      rw [this]
      exact hz
    · cases hz
  · cases hz
end LOC2
section LOC3
variable {xs : List Value} {s k d : Nat} {h h' : zH} {X e : zE}
theorem zstp_n {h2 : zH} {nL len : Nat} {i : ClassFile.Instr} {f : zF} {ret : Option FieldType} (hz : zstp xs nL i len f h = none) (hr : (zret ret i f.2.2.2).isSome = true ∨ (zthr f.1 f.2.1 i f.2.2.2).isSome = true ∨ (zcall f.1 i f.2.2.2 h).isSome = true) : zstp xs nL i len f h2 = none := by
  unfold zstp at hz ⊢
  cases h1 : zpure i f.2.2.2 with
  | some a => rw [h1] at hz; cases hz
  | none =>
    rw [h1] at hz
    dsimp only at hz ⊢
    cases h2 : zbr f.2.1 i f.2.2.2 with
    | some a => rw [h2] at hz; cases hz
    | none =>
      rw [h2] at hz
      dsimp only at hz ⊢
      cases h3 : zloc nL i f.2.2.1 f.2.2.2 with
      | some a => rw [h3] at hz; cases hz
      | none =>
        rw [h3] at hz
        dsimp only at hz ⊢
        cases h4 : zheap xs f.1 i f.2.2.2 h with
        | some a => rw [h4] at hz; cases hz
        | none => rw [zheap_n h4 hr]
theorem zrun_l : ∀ (n d : Nat) (f : zF) (h : zH) (o : zO) (h' : zH), zown h s = some zHid → zrun xs n d f h = some (o, h') → zrun xs n d f (zput h s X) = some (o, zput h' s X) ∧ zown h' s = some zHid
  | 0, d, f, h, o, h', hs, hz => by cases hz
  | n + 1, d, f, h, o, h', hs, hz => by
    rw [zrun] at hz ⊢
    split at hz
    · rename_i i len mt hf hm
      (try rw [hf]); (try rw [hm]); (try dsimp only)
      cases h1 : zstp xs mt.2.2.1 i len f h with
      | some a =>
        obtain ⟨f', h1'⟩ := a
        rw [h1] at hz
        obtain ⟨r1, r2⟩ := zstp_l (X := X) hs h1
        rw [r1]
        exact zrun_l n d f' h1' o h' r2 hz
      | none =>
        rw [h1] at hz
        dsimp only at hz
        cases h2 : zret mt.2.2.2.1 i f.2.2.2 with
        | some v =>
          rw [h2] at hz
          cases hz
          rw [zstp_n h1 (Or.inl (by rw [h2]; rfl))]
          exact ⟨rfl, hs⟩
        | none =>
          rw [h2] at hz
          dsimp only at hz
          cases h3 : zthr f.1 f.2.1 i f.2.2.2 with
          | some ex =>
            rw [h3] at hz
            dsimp only at hz
            rw [zstp_n (ret := none) h1 (Or.inr (Or.inl (by rw [h3]; rfl)))]
            dsimp only
            split at hz
            · rename_i q
              cases hz
              rw [if_pos q]
              exact ⟨rfl, hs⟩
            · cases hz
          | none =>
            rw [h3] at hz
            dsimp only at hz
            cases h4 : zcall f.1 i f.2.2.2 h with
            | none => rw [h4] at hz; cases hz
            | some c =>
              obtain ⟨j, as, rest⟩ := c
              rw [zstp_n (ret := none) h1 (Or.inr (Or.inr (by rw [h4]; rfl))), zcall_l (X := X) hs h4]
              rw [h4] at hz
              dsimp only
              cases d with
              | zero => cases hz
              | succ d' =>
                dsimp only at hz ⊢
                split at hz
                · cases hz
                · rename_i q
                  rw [if_neg q]
                  cases h5 : zrun xs n d' (j, 0, lv_args 0 as, []) h with
                  | none => rw [h5] at hz; cases hz
                  | some r =>
                    obtain ⟨o1, h1'⟩ := r
                    obtain ⟨r1, r2⟩ := zrun_l n d' _ h o1 h1' hs h5
                    rw [h5] at hz
                    rw [r1]
                    cases o1 with
                    | inl v => exact zrun_l n (d' + 1) _ h1' o h' r2 hz
                    | inr ex =>
                      dsimp only at hz ⊢
                      split at hz
                      · cases hz
                      · rename_i q2
                        rw [if_neg q2]
                        cases h6 : zcat f.1 f.2.1 ex with
                        | some p =>
                          obtain ⟨pc, kk⟩ := p
                          rw [h6] at hz
                          dsimp only at hz ⊢
                          split at hz
                          · rename_i q3
                            rw [if_pos q3]
                            exact zrun_l n (d' + 1) _ h1' o h' r2 hz
                          · cases hz
                        | none =>
                          rw [h6] at hz
                          dsimp only at hz ⊢
                          split at hz
                          · rename_i q3
                            rw [if_pos q3]
                            cases hz
                            exact ⟨rfl, r2⟩
                          · cases hz
    · cases hz
/-- a run from a heap with a hidden cell is one from the heap where it has what it has -/
theorem zG_hid {f : zF} {Q K : zO → zH → Prop} (hs : zown h s = some zHid) (g : zG xs d f h Q) (k : ∀ o h', zown h' s = some zHid → Q o h' → K o (zput h' s X)) : zG xs d f (zput h s X) K := by
  obtain ⟨n, o, h', hr, hq⟩ := g
  obtain ⟨r1, r2⟩ := zrun_l (X := X) n d f h o h' hs hr
  exact ⟨n, o, _, r1, k o h' r2 hq⟩
end LOC3
