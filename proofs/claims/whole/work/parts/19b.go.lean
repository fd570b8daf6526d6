/-! THE SMALL MACHINE, goal first: zG: from here it ends, with Q -/
def zstep (xs : List Value) (f : zF) (h : zH) : Option (zF × zH) := match zfetch f.1 f.2.1, z_meth[f.1]? with
  | some (i, len), some mt => zstp xs mt.2.2.1 i len f h
  | _, _ => none
def zG (xs : List Value) (d : Nat) (f : zF) (h : zH) (Q : zO → zH → Prop) : Prop := ∃ (n : Nat) (o : zO) (h' : zH), zrun xs n d f h = some (o, h') ∧ Q o h'
theorem zG_st {xs : List Value} {d : Nat} {f f' : zF} {h h' : zH} {Q : zO → zH → Prop} (hs : zstep xs f h = some (f', h')) (k : zG xs d f' h' Q) : zG xs d f h Q := by
  obtain ⟨n, o, h2, hr, hq⟩ := k
  refine ⟨n + 1, o, h2, ?_, hq⟩
  unfold zstep at hs
  rw [zrun]
  split at hs
  · rename_i i len mt hf hm
    rw [hf, hm]
    dsimp only
    rw [hs]
    exact hr
  · cases hs
theorem zrun_more {xs : List Value} : ∀ (n m d : Nat) (f : zF) (h : zH) (r : zO × zH), n ≤ m → zrun xs n d f h = some r → zrun xs m d f h = some r := by
  intro n
  induction n with
  | zero => intro m d f h r _ hr; cases hr
  | succ n ih =>
    intro m d f h r hm hr
    obtain ⟨m, rfl⟩ : ∃ k, m = k + 1 := ⟨m - 1, by omega⟩
    have hm : n ≤ m := by omega
    rw [zrun] at hr ⊢
    split at hr
    · rename_i i len mt hf hmt
      (try rw [hf, hmt])
      (try dsimp only at hr ⊢)
      split at hr
      · rename_i f' h1 hs
        (try rw [hs])
        exact ih _ _ _ _ _ hm hr
      · rename_i hs
        (try rw [hs])
        (try dsimp only at hr ⊢)
        split at hr
        · rename_i v hz
          (try rw [hz])
          exact hr
        · rename_i hz
          (try rw [hz])
          (try dsimp only at hr ⊢)
          split at hr
          · rename_i ev hz2
            (try rw [hz2])
            exact hr
          · rename_i hz2
            (try rw [hz2])
            (try dsimp only at hr ⊢)
            split at hr
            · rename_i j as rest d' hc
              (try rw [hc])
              (try dsimp only at hr ⊢)
              split at hr
              · cases hr
              · rename_i hent
                (try rw [if_neg hent])
                cases hcr : zrun xs n d' (j, 0, lv_args 0 as, []) h with
                | none => rw [hcr] at hr; cases hr
                | some q =>
                  rw [ih m _ _ _ _ hm hcr]
                  rw [hcr] at hr
                  obtain ⟨o1, h1⟩ := q
                  cases o1 with
                  | inl v => exact ih _ _ _ _ _ hm hr
                  | inr e =>
                    (try dsimp only at hr ⊢)
                    split at hr
                    · cases hr
                    · rename_i hsp
                      (try rw [if_neg hsp])
                      split at hr
                      · rename_i pc k hcat
                        (try rw [hcat])
                        (try dsimp only at hr ⊢)
                        split at hr
                        · rename_i hk
                          (try rw [if_pos hk])
                          exact ih _ _ _ _ _ hm hr
                        · cases hr
                      · rename_i hcat
                        (try rw [hcat])
                        exact hr
            · cases hr
    · cases hr
