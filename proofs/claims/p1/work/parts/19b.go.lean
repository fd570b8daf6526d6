/-! THE SMALL MACHINE, goal first: zG: from here it ends, with Q -/
def zstep (xs : List Value) (f : zF) (h : zH) : Option (zF × zH) := match zfetch f.1 f.2.1, z_meth[f.1]? with
  | some (i, len), some mt => zstp xs mt.2.2.1 i len f h
  | _, _ => none
def zG (xs : List Value) (d : Nat) (f : zF) (h : zH) (Q : zO → zH → Prop) : Prop := ∃ (n : Nat) (o : zO) (h' : zH), zrun xs n d f h = some (o, h') ∧ Q o h'
theorem zG_st {xs : List Value} {d : Nat} {f f' : zF} {h h' : zH} {Q : zO → zH → Prop} (hs : zstep xs f h = some (f', h')) (k : zG xs d f' h' Q) : zG xs d f h Q := by
  obtain ⟨n, o, h2, hr, hq⟩ := k
  refine ⟨n + 1, o, h2, ?_, hq⟩
  unfold zstep at hs
  rw [zrun]
  split at hs
  · rename_i i len mt hf hm
    rw [hf, hm]
    dsimp only
    rw [hs]
    exact hr
  · cases hs
theorem zrun_more {xs : List Value} : ∀ (n m d : Nat) (f : zF) (h : zH) (r : zO × zH), n ≤ m → zrun xs n d f h = some r → zrun xs m d f h = some r := by
  intro n
  induction n with
  | zero => intro m d f h r _ hr; cases hr
  | succ n ih =>
    intro m d f h r hm hr
    obtain ⟨m, rfl⟩ : ∃ k, m = k + 1 := ⟨m - 1, by omega⟩
    have hm : n ≤ m := by omega
    rw [zrun] at hr ⊢
    split at hr
    · rename_i i len mt hf hmt
      (try rw [hf, hmt])
      (try dsimp only at hr ⊢)
      split at hr
      · rename_i f' h1 hs
        (try rw [hs])
        exact ih _ _ _ _ _ hm hr
      · rename_i hs
        (try rw [hs])
        (try dsimp only at hr ⊢)
        split at hr
        · rename_i v hz
          (try rw [hz])
          exact hr
        · rename_i hz
          (try rw [hz])
          (try dsimp only at hr ⊢)
          split at hr
          · rename_i ev hz2
            (try rw [hz2])
            exact hr
          · rename_i hz2
            (try rw [hz2])
            (try dsimp only at hr ⊢)
            split at hr
            · rename_i j as rest d' hc
              (try rw [hc])
              (try dsimp only at hr ⊢)
              split at hr
              · cases hr
              · rename_i hent
                (try rw [if_neg hent])
                cases hcr : zrun xs n d' (j, 0, lv_args 0 as, []) h with
                | none => rw [hcr] at hr; cases hr
                | some q =>
                  rw [ih m _ _ _ _ hm hcr]
                  rw [hcr] at hr
                  obtain ⟨o1, h1⟩ := q
                  cases o1 with
                  | inl v => exact ih _ _ _ _ _ hm hr
                  | inr e =>
                    (try dsimp only at hr ⊢)
                    split at hr
                    · cases hr
                    · rename_i hsp
                      (try rw [if_neg hsp])
                      split at hr
                      · rename_i pc k hcat
                        (try rw [hcat])
                        (try dsimp only at hr ⊢)
                        split at hr
                        · rename_i hk
                          (try rw [if_pos hk])
                          exact ih _ _ _ _ _ hm hr
                        · cases hr
                      · rename_i hcat
                        (try rw [hcat])
                        exact hr
            · cases hr
    · cases hr
/-! one rule a kind of instruction; the fetch is a row of its own (zfe_m_pc), so that nothing long is computed -/
section ZRULES
variable {xs : List Value} {d mi pc len : Nat} {lv lv' : List (Nat × Value)} {st st' r : List Value} {h h' : zH} {Q : zO → zH → Prop} {i : ClassFile.Instr}
theorem zG_stp {mt : zM} {f' : zF} (hf : zfetch mi pc = some (i, len)) (hm : z_meth[mi]? = some mt) (hs : zstp xs mt.2.2.1 i len (mi, pc, lv, st) h = some (f', h')) (k : zG xs d f' h' Q) : zG xs d (mi, pc, lv, st) h Q := by
  refine zG_st (f' := f') (h' := h') ?_ k
  unfold zstep
  dsimp only
  rw [hf, hm]
  exact hs
theorem zf_m (hf : zfetch mi pc = some (i, len)) : ∃ mt : zM, z_meth[mi]? = some mt := by
  unfold zfetch at hf
  cases hm : z_meth[mi]? with
  | none => rw [hm] at hf; cases hf
  | some mt => exact ⟨mt, rfl⟩
theorem zG_p (hf : zfetch mi pc = some (i, len)) (hp : zpure i st = some st') (k : zG xs d (mi, pc + len, lv, st') h Q) : zG xs d (mi, pc, lv, st) h Q := by
  obtain ⟨mt, hm⟩ := zf_m hf
  refine zG_stp hf hm ?_ k
  unfold zstp
  dsimp only
  rw [hp]
theorem zG_b {t : Nat} (hf : zfetch mi pc = some (i, len)) (h0 : zpure i st = none) (hp : zbr pc i st = some (t, st')) (k : zG xs d (mi, t, lv, st') h Q) : zG xs d (mi, pc, lv, st) h Q := by
  obtain ⟨mt, hm⟩ := zf_m hf
  refine zG_stp hf hm ?_ k
  unfold zstp
  dsimp only
  rw [h0]
  dsimp only
  rw [hp]
theorem zG_l {nL : Nat} (hf : zfetch mi pc = some (i, len)) (hn : (z_meth[mi]?).map (fun m => m.2.2.1) = some nL) (h0 : zpure i st = none) (h1 : zbr pc i st = none) (hp : zloc nL i lv st = some (lv', st')) (k : zG xs d (mi, pc + len, lv', st') h Q) : zG xs d (mi, pc, lv, st) h Q := by
  obtain ⟨mt, hm⟩ := zf_m hf
  rw [hm] at hn
  obtain rfl : mt.2.2.1 = nL := Option.some.inj hn
  refine zG_stp hf hm ?_ k
  unfold zstp
  dsimp only
  rw [h0]
  dsimp only
  rw [h1]
  dsimp only
  rw [hp]
theorem zG_h (hf : zfetch mi pc = some (i, len)) (h0 : zpure i st = none) (h1 : zbr pc i st = none) (h2 : ∀ nL, zloc nL i lv st = none) (hp : zheap xs mi i st h = some (st', h')) (k : zG xs d (mi, pc + len, lv, st') h' Q) : zG xs d (mi, pc, lv, st) h Q := by
  obtain ⟨mt, hm⟩ := zf_m hf
  refine zG_stp hf hm ?_ k
  unfold zstp
  dsimp only
  rw [h0]
  dsimp only
  rw [h1]
  dsimp only
  rw [h2]
  dsimp only
  rw [hp]
theorem zG_get {x t c j k : Nat} {fs : List Value} {v : Value} (hf : zfetch mi pc = some (.getfield x, 3)) (hl : zlink mi x = some (t, c, j)) (ht : t < 2) (hk : zown h k = some (.inr (c, fs))) (hv : fs[j]? = some v) (kk : zG xs d (mi, pc + 3, lv, v :: r) h Q) : zG xs d (mi, pc, lv, .ref k :: r) h Q := by
  refine zG_h hf rfl rfl (fun _ => rfl) ?_ kk
  unfold zheap
  dsimp only
  rw [hl, hk]
  dsimp only
  rw [if_pos ⟨ht, rfl⟩, hv]
  rfl
theorem zG_put {x t c j k : Nat} {fs : List Value} {v : Value} (hf : zfetch mi pc = some (.putfield x, 3)) (hl : zlink mi x = some (t, c, j)) (ht : t < 2) (hk : zown h k = some (.inr (c, fs))) (hj : j < fs.length) (hfit : zfits (zFt c j) v = true) (hfin : (z_fin.getD c []).getD j true = false ∨ (t = 0 ∧ z_ini.getD mi false = true ∧ z_mc.getD mi 0 = c)) (kk : zG xs d (mi, pc + 3, lv, r) (zput h k (.inr (c, fs.set j v))) Q) : zG xs d (mi, pc, lv, v :: .ref k :: r) h Q := by
  refine zG_h hf ?_ ?_ (fun _ => ?_) ?_ kk
  · cases v <;> rfl
  · cases v <;> rfl
  · cases v <;> rfl
  · unfold zheap
    dsimp only
    rw [hl, hk]
    dsimp only
    rw [if_pos ⟨ht, rfl, hj, hfit, hfin⟩]
theorem zG_ret {ret : Option FieldType} {v : Option Value} (hf : zfetch mi pc = some (i, len)) (hr : (z_meth[mi]?).map (fun m => m.2.2.2.1) = some ret) (hs : ∀ nL, zstp xs nL i len (mi, pc, lv, st) h = none) (hz : zret ret i st = some v) (q : Q (.inl v) h) : zG xs d (mi, pc, lv, st) h Q := by
  obtain ⟨mt, hm⟩ := zf_m hf
  rw [hm] at hr
  obtain rfl : mt.2.2.2.1 = ret := Option.some.inj hr
  refine ⟨1, .inl v, h, ?_, q⟩
  rw [zrun]
  dsimp only
  rw [hf, hm]
  dsimp only
  rw [hs]
  dsimp only
  rw [hz]
theorem zG_call {j : Nat} {as rest : List Value} {Q1 : zO → zH → Prop} (hf : zfetch mi pc = some (i, len)) (hs : ∀ nL, zstp xs nL i len (mi, pc, lv, st) h = none) (hz : ∀ ret, zret ret i st = none) (ht : zthr mi pc i st = none) (hc : zcall mi i st h = some (j, as, rest)) (he : zent j as = true) (hcal : zG xs d (j, 0, lv_args 0 as, []) h Q1)
    (kr : ∀ v h1, Q1 (.inl v) h1 → zG xs (d + 1) (mi, pc + 3, lv, v.toList ++ rest) h1 Q) (kx : ∀ e h1, Q1 (.inr e) h1 → zspec i = false ∧ zcat mi pc e = none ∧ zesc mi pc e = true ∧ Q (.inr e) h1) : zG xs (d + 1) (mi, pc, lv, st) h Q := by
  obtain ⟨mt, hm⟩ := zf_m hf
  obtain ⟨n1, o1, h1, hr1, hq1⟩ := hcal
  have hent : ¬ zent j as = false := by rw [he]; decide
  cases o1 with
  | inl v =>
    obtain ⟨n2, o2, h2, hr2, hq2⟩ := kr v h1 hq1
    refine ⟨max n1 n2 + 1, o2, h2, ?_, hq2⟩
    rw [zrun]
    dsimp only
    rw [hf, hm]
    dsimp only
    rw [hs]
    dsimp only
    rw [hz]
    dsimp only
    rw [ht]
    dsimp only
    rw [hc]
    dsimp only
    rw [if_neg hent, zrun_more n1 (max n1 n2) _ _ _ _ (Nat.le_max_left _ _) hr1]
    exact zrun_more n2 (max n1 n2) _ _ _ _ (Nat.le_max_right _ _) hr2
  | inr ev =>
    obtain ⟨k1, k2, k3, k4⟩ := kx ev h1 hq1
    refine ⟨n1 + 1, .inr ev, h1, ?_, k4⟩
    rw [zrun]
    dsimp only
    rw [hf, hm]
    dsimp only
    rw [hs]
    dsimp only
    rw [hz]
    dsimp only
    rw [ht]
    dsimp only
    rw [hc]
    dsimp only
    rw [if_neg hent, hr1]
    dsimp only
    rw [k1, k2]
    dsimp only
    rw [k3]
    rfl
end ZRULES
def zcP (c : ClassFile.Cond) (x y : Int32) : Prop := match c with
  | .eq => x = y
  | .ne => ¬ x = y
  | .lt => x < y
  | .ge => y ≤ x
  | .gt => y < x
  | .le => x ≤ y
theorem zc_iff {c : ClassFile.Cond} {x y : Int32} : zc c x y = true ↔ zcP c x y := by
  cases c <;> exact decide_eq_true_iff
section ZRULES2
variable {xs : List Value} {d mi pc len : Nat} {lv lv' : List (Nat × Value)} {st st' r : List Value} {h h' : zH} {Q : zO → zH → Prop} {i : ClassFile.Instr}
theorem zG_if {c : ClassFile.Cond} {o : Int} {x : Int32} (t : Nat) (hf : zfetch mi pc = some (.ifCond c o, 3)) (ht : ztg pc o = t) (kt : zcP c x 0 → zG xs d (mi, t, lv, r) h Q) (kf : ¬ zcP c x 0 → zG xs d (mi, pc + 3, lv, r) h Q) : zG xs d (mi, pc, lv, .int x :: r) h Q := by
  refine zG_b hf rfl rfl ?_
  by_cases hz : zc c x 0 = true
  · rw [if_pos hz, ht]; exact kt (zc_iff.mp hz)
  · rw [if_neg hz]; exact kf (fun q => hz (zc_iff.mpr q))
theorem zG_ic {c : ClassFile.Cond} {o : Int} {x y : Int32} (t : Nat) (hf : zfetch mi pc = some (.if_icmp c o, 3)) (ht : ztg pc o = t) (kt : zcP c x y → zG xs d (mi, t, lv, r) h Q) (kf : ¬ zcP c x y → zG xs d (mi, pc + 3, lv, r) h Q) : zG xs d (mi, pc, lv, .int y :: .int x :: r) h Q := by
  refine zG_b hf rfl rfl ?_
  by_cases hz : zc c x y = true
  · rw [if_pos hz, ht]; exact kt (zc_iff.mp hz)
  · rw [if_neg hz]; exact kf (fun q => hz (zc_iff.mpr q))
theorem zG_go {o : Int} (t : Nat) (hf : zfetch mi pc = some (.goto o, 3)) (ht : ztg pc o = t) (k : zG xs d (mi, t, lv, r) h Q) : zG xs d (mi, pc, lv, r) h Q := by
  subst ht
  exact zG_b hf rfl rfl k
/-- the length of a made array -/
theorem zG_len {t k : Nat} {vs : List Value} (hf : zfetch mi pc = some (.arraylength, 1)) (hk : zown h k = some (.inl (t, vs))) (ht : t < z_aty.length) (kk : zG xs d (mi, pc + 1, lv, .int (Int32.ofNat vs.length) :: r) h Q) : zG xs d (mi, pc, lv, .ref k :: r) h Q := by
  refine zG_h hf rfl rfl (fun _ => rfl) ?_ kk
  have h0 : zarr xs h k = some (t, vs) := by
    unfold zown at hk
    unfold zarr
    split at hk
    · cases hk
    · rename_i hn
      rw [if_neg (fun q => hn (by rw [q]; exact zK0_pos)), if_neg hn, hk]
  unfold zheap
  dsimp only
  rw [h0]
  dsimp only
  rw [if_pos ht]
theorem zG_aal {t k : Nat} {vs : List Value} {j : Int32} {v : Value} (hf : zfetch mi pc = some (.aaload, 1)) (hk : zown h k = some (.inl (t, vs))) (ht : 5 ≤ t ∧ t < z_aty.length) (hj : ¬ j < 0) (hv : vs[j.toNatClampNeg]? = some v) (hr : (∃ a, v = .ref a) ∨ v = .null) (kk : zG xs d (mi, pc + 1, lv, v :: r) h Q) : zG xs d (mi, pc, lv, .int j :: .ref k :: r) h Q := by
  refine zG_h hf rfl rfl (fun _ => rfl) ?_ kk
  unfold zheap
  dsimp only
  rw [hk]
  dsimp only
  rw [if_neg (fun q => q.elim hj (fun q => q.elim (fun q => by omega) (fun q => by omega)) : ¬ (j < 0 ∨ t < 5 ∨ z_aty.length ≤ t)), hv]
  rcases hr with ⟨a, rfl⟩ | rfl <;> rfl
end ZRULES2
section ZRULES3
variable {xs : List Value} {d mi pc : Nat} {lv : List (Nat × Value)} {st args rest : List Value} {h : zH} {Q Q1 : zO → zH → Prop}
theorem zst_split {a r : List Value} {n : Nat} (hn : a.length = n) : (a.reverse ++ r).take n = a.reverse ∧ (a.reverse ++ r).drop n = r := by
  subst hn
  exact ⟨List.take_left' (by simp), List.drop_left' (by simp)⟩
/-- a call of a static method -/
theorem zG_cs {x j n : Nat} (hf : zfetch mi pc = some (.invokestatic x, 3)) (hl : zlink mi x = some (5, j, n)) (hj : j ≠ zMx) (hst : st = args.reverse ++ rest) (hn : args.length = n) (hcat : (rest.map fun v => v.category).sum ≤ 8) (he : zent j args = true) (hcal : zG xs d (j, 0, lv_args 0 args, []) h Q1)
    (kr : ∀ v h1, Q1 (.inl v) h1 → zG xs (d + 1) (mi, pc + 3, lv, v.toList ++ rest) h1 Q) (kx : ∀ e h1, Q1 (.inr e) h1 → zcat mi pc e = none ∧ zesc mi pc e = true ∧ Q (.inr e) h1) : zG xs (d + 1) (mi, pc, lv, st) h Q := by
  obtain ⟨e1, e2⟩ := zst_split (r := rest) hn
  have hp : zpure (.invokestatic x) st = none := by unfold zpure; split <;> first | rfl | (rename_i hi; cases hi) | skip
  have hs : ∀ nL, zstp xs nL (.invokestatic x) 3 (mi, pc, lv, st) h = none := by
    intro nL
    have h9 : zheap xs mi (.invokestatic x) st h = none := by
      unfold zheap
      split <;> first | rfl | skip
      all_goals first | (rename_i hi; cases hi; done) | (rename_i hi; cases hi; rw [hl]; exact if_neg (fun q => hj q.1))
    unfold zstp
    dsimp only
    rw [show zpure (.invokestatic x) st = none from hp]
    dsimp only
    rw [show zbr pc (.invokestatic x) st = none from rfl]
    dsimp only
    rw [show zloc nL (.invokestatic x) lv st = none from rfl]
    dsimp only
    rw [h9]
  refine zG_call (j := j) (as := args) (rest := rest) hf hs (fun _ => rfl) rfl ?_ he hcal kr (fun e h1 hq => ⟨rfl, kx e h1 hq⟩)
  unfold zcall
  dsimp only
  rw [hl]
  dsimp only
  subst hst
  rw [e1, e2, List.reverse_reverse, if_pos ⟨rfl, by simp; omega, hcat⟩]
/-- a call of a method of an object -/
theorem zG_cv {x j n k c : Nat} {fs : List Value} (hf : zfetch mi pc = some (.invokevirtual x, 3)) (hl : zlink mi x = some (7, j, n)) (hst : st = args.reverse ++ .ref k :: rest) (hn : args.length = n) (hk : zown h k = some (.inr (c, fs))) (hc : c = z_mc.getD j 0) (hcat : (rest.map fun v => v.category).sum ≤ 8) (he : zent j (.ref k :: args) = true) (hcal : zG xs d (j, 0, lv_args 0 (.ref k :: args), []) h Q1)
    (kr : ∀ v h1, Q1 (.inl v) h1 → zG xs (d + 1) (mi, pc + 3, lv, v.toList ++ rest) h1 Q) (kx : ∀ e h1, Q1 (.inr e) h1 → zcat mi pc e = none ∧ zesc mi pc e = true ∧ Q (.inr e) h1) : zG xs (d + 1) (mi, pc, lv, st) h Q := by
  obtain ⟨e1, e2⟩ := zst_split (r := .ref k :: rest) hn
  have hnp : z_np mi x = n := by unfold z_np; rw [hl]
  refine zG_call (j := j) (as := .ref k :: args) (rest := rest) hf (fun _ => rfl) (fun _ => rfl) rfl ?_ he hcal kr (fun e h1 hq => ⟨rfl, kx e h1 hq⟩)
  unfold zcall
  dsimp only
  rw [hl, hnp]
  subst hst
  rw [e2]
  dsimp only
  rw [hk]
  dsimp only
  rw [e1, List.reverse_reverse, if_pos ⟨rfl, rfl, by simp; omega, hcat, hc⟩]
end ZRULES3
