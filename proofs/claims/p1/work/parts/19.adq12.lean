/-! ADEQUACY, twelfth part: what the small machine answers, the JVM does -/
theorem zlv_tail {ls : Array Slot} {nL : Nat} {q : Nat × Value} {lv : List (Nat × Value)} (h : lv_has ls nL (q :: lv)) : lv_has ls nL lv := ⟨h.1, h.2.1, fun z hz => h.2.2 z (List.mem_cons_of_mem _ hz)⟩
theorem zfil_cl (ad : Nat → Nat) (lv : List (Nat × Value)) (i : Nat) : (zcl ad lv).filter (fun q => !(q.1 == i) && !(q.1 + 1 == i && q.2.category == 2)) = zcl ad (lv.filter (fun q => !(q.1 == i) && !(q.1 + 1 == i && q.2.category == 2))) := by
  have h := zst1_cl ad lv i .null
  unfold zst1 zcl at h
  rw [List.map_cons] at h
  exact (List.cons.inj h).2
theorem zstk {ad : Nat → Nat} {st : List Value} {k : Nat} : st.map (zcv ad) = (((st.take k).reverse).map (zcv ad)).reverse ++ (st.drop k).map (zcv ad) := by
  rw [← List.map_reverse, List.reverse_reverse, ← List.map_append, List.take_append_drop]
theorem zcats (ad : Nat → Nat) (r : List Value) : ((r.map (zcv ad)).map fun v => v.category) = (r.map fun v => v.category) := by
  rw [List.map_map]; exact List.map_congr_left (fun v _ => zcv_cat ad v)
theorem zwS_take {n k : Nat} {st : List Value} (h : zwS n st) : zwS n (st.take k).reverse := fun v hv => h v (List.mem_of_mem_take (List.mem_reverse.mp hv))
theorem zwS_drop {n k : Nat} {st : List Value} (h : zwS n st) : zwS n (st.drop k) := fun v hv => h v (List.mem_of_mem_drop hv)
theorem zret_st {n m : Nat} {ad ad' : Nat → Nat} {v : Option Value} {rest : List Value} (ha : zAg n ad ad') (hw : zwS n rest) : (v.map (zcv ad')).toList ++ rest.map (zcv ad) = (v.toList ++ rest).map (zcv ad') := by
  rw [List.map_append, zst_ad ha hw]
  cases v <;> rfl
theorem zret_ws {n n' : Nat} {v : Option Value} {rest : List Value} (hn : n ≤ n') (hv : ∀ x, v = some x → zwv n' x) (hw : zwS n rest) : zwS n' (v.toList ++ rest) := by
  intro x hx
  rcases List.mem_append.mp hx with h | h
  · cases v with
    | none => cases h
    | some y => rw [List.mem_singleton.mp h]; exact hv y rfl
  · exact zwv_mono hn (hw x h)
set_option maxRecDepth 100000 in
theorem zni_k : z_link.all (fun l => l.all (fun q => !(q.2.1 == 7 || (q.2.1 == 9 || q.2.1 == 10)) || ((q.2.1 == 7 || (match z_meth[q.2.2.1]? with | some m => decide (m.1.name = "<init>" ∧ m.2.2.2.1 = none) | none => false)) && (z_hh.getD q.2.2.1 []).isEmpty))) = true := by decide +kernel
theorem zni {mi x t j k : Nat} {mj : zM} (h : zlink mi x = some (t, j, k)) (hmj : z_meth[j]? = some mj) (ht : t = 7 ∨ t = 9 ∨ t = 10) : ((t = 9 ∨ t = 10) → mj.1.name = "<init>") ∧ ((t = 9 ∨ t = 10) → mj.2.2.2.1 = none) ∧ z_hh.getD j [] = [] := by
  have h1 := zlink_mem h
  rw [List.getD_eq_getElem?_getD] at h1
  cases hc : z_link[z_mc.getD mi 0]? with
  | none => rw [hc] at h1; exact absurd h1 List.not_mem_nil
  | some l =>
    rw [hc] at h1
    have h2 := List.all_eq_true.mp (List.all_eq_true.mp zni_k l (List.mem_of_getElem? hc)) _ h1
    dsimp only at h2
    rw [hmj] at h2
    simp only [Bool.or_eq_true, Bool.and_eq_true, Bool.not_eq_true', Bool.or_eq_false_iff, beq_eq_false_iff_ne, beq_iff_eq, decide_eq_true_eq, List.isEmpty_iff] at h2
    rcases h2 with h2 | ⟨h2, h3⟩
    · rcases ht with rfl | rfl | rfl <;> simp at h2
    · refine ⟨fun q => ?_, fun q => ?_, h3⟩ <;> rcases h2 with h2 | h2
      · rcases q with rfl | rfl <;> cases h2
      · exact h2.1
      · rcases q with rfl | rfl <;> cases h2
      · exact h2.2
set_option maxHeartbeats 8000000 in
theorem zmain_step {l : Launch} (hst : l.stackTraces = false) {n : Nat} (IH : zMain l n) : zMain l (n + 1) := by
  intro B D tys xs d mi mt pc lv st h o h' p e R s m args below meth c H locs cells slots Q ls ad n0 ad0 c0 s0 hrun hm hCx hty hPt hag hn0 hc0 hs0 hRf hRl hRc hRs kr kt kx
  obtain ⟨hx, hb, hml, hown, hts, hin, hret, hlocks, htab⟩ := id hCx
  obtain ⟨hW, ho, hB, hS, hl, hwl, hws⟩ := hPt
  have hmi : mi < 232 := zmeth_lt hm
  rw [zrun] at hrun
  dsimp only at hrun
  split at hrun
  case h_2 => cases hrun
  rename_i i len mt9 hf hm9
  obtain rfl : mt9 = mt := Option.some.inj (hm9.symm.trans hm)
  obtain ⟨hd, hlen, hoff⟩ := zdec hm hf
  split at hrun
  · -- a step
    rename_i f' h1 hs1
    unfold zstp at hs1
    split at hs1
    · rename_i st1 hp
      cases hs1
      exact za_pure hx hb hd hlen hp (IH B D tys xs d mi mt9 _ lv st1 h o h' p e R s m args below meth c H locs cells slots Q ls ad n0 ad0 c0 s0 hrun hm hCx hty ⟨hW, ho, hB, hS, hl, hwl, zwp_pure hp hws⟩ hag hn0 hc0 hs0 hRf hRl hRc hRs kr kt kx)
    · split at hs1
      · rename_i t1 st1 hp
        cases hs1
        exact za_br hx hb hd hlen hoff hp (IH B D tys xs d mi mt9 _ lv st1 h o h' p e R s m args below meth c H locs cells slots Q ls ad n0 ad0 c0 s0 hrun hm hCx hty ⟨hW, ho, hB, hS, hl, hwl, zwp_br hp hws⟩ hag hn0 hc0 hs0 hRf hRl hRc hRs kr kt kx)
      · split at hs1
        · rename_i lv1 st1 hp
          cases hs1
          obtain ⟨w1, w2⟩ := zwp_loc hp hwl hws
          exact za_loc hx hb hd hlen hl hp (fun ls1 hl1 => IH B D tys xs d mi mt9 _ lv1 st1 h o h' p e R s m args below meth c H locs cells slots Q ls1 ad n0 ad0 c0 s0 hrun hm hCx hty ⟨hW, ho, hB, hS, hl1, w1, w2⟩ hag hn0 hc0 hs0 hRf hRl hRc hRs kr kt kx)
        · split at hs1
          · rename_i st1 h2 hp
            cases hs1
            obtain ⟨mo1, mo2, mo3⟩ := zheap_mono hp
            obtain ⟨mp1, mp2, mp3⟩ := zrun_mono _ _ _ _ _ _ hrun
            refine za_heap hx hb hd hlen hown hts hin hty hW ho hB hS hws (hl.1.trans hml.symm) (by omega) (by omega) hp (by omega) (by omega) (fun ad' H' locs' q1 q2 q3 q4 q5 => ?_)
            have hag' : zAg (h.1.length + zK0) ad ad' := q1
            refine IH B D tys xs d mi mt9 _ lv st1 h1 o h' p e R s m args below meth c H' locs' _ _ Q ls ad' n0 ad0 c0 s0 hrun hm hCx hty ⟨q3, zold_ad (by omega) hag' ho, hB, q4, by rw [zcl_ad q1 hwl]; exact hl, fun q hq => zwv_mono (by omega) (hwl q hq), q5⟩ (hag.trans hag' hn0) (by omega) (by omega) (by omega) hRf hRl hRc hRs kr kt kx
          · cases hs1
  · split at hrun
    · -- a return
      rename_i v hz
      cases hrun
      exact kr pc i len ad H locs ls st v cells slots hd hlen hz rfl hag hW hS hws hc0 hs0
    · split at hrun
      · -- a throw
        rename_i ev hz
        split at hrun
        · rename_i hd8
          cases hrun
          unfold zthr at hz
          split at hz
          · rename_i x
            split at hz
            · rename_i e9 ic hlk
              split at hz
              · rename_i hc9
                cases hz
                obtain ⟨f3, f4, f7, hh0, hcat⟩ := hc9
                refine kt pc _ ic ev h ad H locs ls st cells slots ?_ (zdec hm f3).1 (zdec hm f4).1 (zdec hm f7).1 hlk rfl rfl hd8 hh0 hcat hag hW hS hl.1 hc0 hs0
                rcases hlen with hlen | hlen
                · subst hlen; exact hd
                · exact zl0 hlen
              · cases hz
            · cases hz
          · cases hz
        · cases hrun
      · split at hrun
        · -- a call
          rename_i j as rest d' hcall
          split at hrun
          · cases hrun
          · rename_i hent
            have hent : zent j as = true := by simpa using hent
            have hent2 := hent
            unfold zent at hent2
            split at hent2
            case h_2 => cases hent2
            rename_i mj hmj
            have hent2 := of_decide_eq_true hent2
            obtain ⟨ok1, ok2, ok3, ok4, ok5⟩ := zmok_of hmj hent2.2.2
            have hws1 : ∀ w ∈ zcw j :: zTl, ∀ (a' : Array Value) (U : State), s.WarmedH U.vm → w.before a' U = true := by
              intro w hw a' U hWm
              rcases List.mem_cons.mp hw with rfl | hw
              · exact zkw_at hWm (zcw_kw hmj) (hts _ (zcw_in hmj hent2.2.1))
              · exact zkw_at hWm (List.mem_filter.mp hw).2 (hts w hw)
            have hcwj := hts _ (zcw_in hmj hent2.2.1)
            cases hcr : zrun xs n d' (j, 0, lv_args 0 as, []) h with
            | none => rw [hcr] at hrun; cases hrun
            | some r =>
              obtain ⟨o1, h1⟩ := r
              rw [hcr] at hrun
              obtain ⟨mo1, mo2, mo3⟩ := zrun_mono _ _ _ _ _ _ hcr
              have hmo : h1.2.1 ≤ h'.2.1 ∧ h1.2.2 ≤ h'.2.2 := by
                cases o1 with
                | inl v => have h9 := zrun_mono _ _ _ _ _ _ hrun; exact ⟨h9.1, h9.2.1⟩
                | inr ev =>
                  dsimp only at hrun
                  split at hrun
                  · cases hrun
                  · split at hrun
                    · split at hrun
                      · have h9 := zrun_mono _ _ _ _ _ _ hrun; exact ⟨h9.1, h9.2.1⟩
                      · cases hrun
                    · split at hrun
                      · cases hrun; exact ⟨Nat.le_refl _, Nat.le_refl _⟩
                      · cases hrun
              have kret : zwS (h.1.length + zK0) rest → ∀ (v : Option Value) (ad' : Nat → Nat) (H1 : Heap) (locs1 : List Loc), o1 = .inl v → zAg (h.1.length + zK0) ad ad' → zW B D tys ad' h1 s H1 → (∀ x, v = some x → zwv (h1.1.length + zK0) x) → va_S (fun q => B ≤ q) s.heap H1 locs1 → W p l e R s m args below meth c H1 locs1 (cells + (h1.2.1 - h.2.1)) (slots + (h1.2.2 - h.2.2)) Q (F0 m (pc + 3) ls ((v.map (zcv ad')).toList ++ rest.map (zcv ad))) := by
                intro hwr v ad' H1 locs1 ho1 ha1 hW1 hv1 hS1
                subst ho1
                dsimp only at hrun
                rw [zret_st (m := 0) ha1 hwr]
                exact IH B D tys xs (d' + 1) mi mt9 (pc + 3) lv (v.toList ++ rest) h1 o h' p e R s m args below meth c H1 locs1 _ _ Q ls ad' n0 ad0 c0 s0 hrun hm hCx hty ⟨hW1, zold_ad (by omega) ha1 ho, hB, hS1, by rw [zcl_ad ha1 hwl]; exact hl, fun q hq => zwv_mono (by omega) (hwl q hq), zret_ws (by omega) hv1 hwr⟩ (hag.trans ha1 hn0) (by omega) (by omega) (by omega) hRf hRl hRc hRs kr kt kx
              have kthr : zspec i = false → ∀ (ev : Nat) (ad' : Nat → Nat) (H1 : Heap) (locs1 : List Loc) (q : Addr) (ce : Cell), o1 = .inr ev → ev < z_exc.length → zAg (h.1.length + zK0) ad ad' → zW B D tys ad' h1 s H1 → va_S (fun q => B ≤ q) s.heap H1 locs1 → H1[q]? = some ce → ce.vm = .none → s.vm.findClass (zEn ev) = some ce.cls → vx_W p l e R s m args below meth c H1 locs1 (cells + (h1.2.1 - h.2.1)) (slots + (h1.2.2 - h.2.2)) Q (F0 m pc ls (rest.map (zcv ad))) q := by
                intro hsp ev ad' H1 locs1 q ce ho1 hev ha1 hW1 hS1 hq hcv hcl
                subst ho1
                dsimp only at hrun
                rw [hsp] at hrun
                simp only [Bool.false_eq_true, if_false] at hrun
                split at hrun
                · rename_i pc2 k hcat
                  split at hrun
                  · rename_i hk
                    unfold zcat at hcat
                    split at hcat
                    · rename_i q9 hfind
                      obtain ⟨hp9, pre, suf, hsplit, hpre⟩ := List.find?_eq_some_iff_append.mp hfind
                      have hmem : q9 ∈ z_hh.getD mi [] := by rw [hsplit]; exact List.mem_append_right _ List.mem_cons_self
                      simp only [Bool.and_eq_true] at hp9
                      have hcov : covers ⟨q9.1, q9.2.1, q9.2.2.1, q9.2.2.2⟩ pc = true := zcovers.trans hp9.1
                      obtain ⟨hne, a9, b9, hlk9⟩ := zhh hmi hmem
                      have ha9 : a9 = ev := by
                        have h8 := hp9.2
                        rw [hlk9] at h8
                        simpa using h8
                      subst ha9
                      have hlt := zlt hts hlk9
                      have hl1 : lv_has ls mt9.2.2.1 (zcl ad' lv) := by rw [zcl_ad ha1 hwl]; exact hl
                      have go : ∀ (ls1 : Array Slot), lv_has ls1 mt9.2.2.1 (zcl ad' (lv.filter (fun q => !(q.1 == k) && !(q.1 + 1 == k && q.2.category == 2)))) → W p l e R s m args below meth c H1 locs1 (cells + (h1.2.1 - h.2.1)) (slots + (h1.2.2 - h.2.2)) Q (F0 m pc2 ls1 []) := fun ls1 hls1 =>
                        IH B D tys xs (d' + 1) mi mt9 pc2 _ [] h1 o h' p e R s m args below meth c H1 locs1 _ _ Q ls1 ad' n0 ad0 c0 s0 hrun hm hCx hty ⟨hW1, zold_ad (by omega) ha1 ho, hB, hS1, hls1, fun q hq => zwv_mono (by omega) (hwl q (List.mem_filter.mp hq).1), fun v hv => absurd hv List.not_mem_nil⟩ (hag.trans ha1 hn0) (by omega) (by omega) (by omega) hRf hRl hRc hRs kr kt kx
                      refine vx_catch (own := zOwn mi) (name := zEn a9) hown (tableOf pre) ⟨q9.1, q9.2.1, q9.2.2.1, q9.2.2.2⟩ (tableOf suf) (by rw [htab, hsplit]; unfold tableOf; rw [List.map_append]; rfl) ?_ hcov hne (hlt _ List.mem_cons_self) (hts _ (zTl_in (zcas_k a9 hev) rfl)) hq hcv hcl ?_
                      · refine zpass hmi hts ho hev (fun q hq => ⟨by rw [hsplit]; exact List.mem_append_left _ hq, ?_⟩)
                        have h8 := hpre q hq
                        simp only [Bool.not_eq_true', Bool.and_eq_false_iff] at h8
                        rcases h8 with h8 | h8
                        · exact Or.inl h8
                        · refine Or.inr (fun a b hlk8 => ?_)
                          rw [hlk8] at h8
                          simpa using h8
                      · split at hcat
                        · rename_i k8 len8 _ hf8
                          cases hcat
                          obtain ⟨hdA, hlA, -⟩ := zdec hm hf8
                          rcases hlA with hlA | hlA
                          · subst hlA
                            exact lv_astore hx hb hdA hl1 hk rfl (fun ls1 hls1 => go ls1 (by rw [← zfil_cl]; exact zlv_tail hls1))
                          · exact zl0 hlA
                        · rename_i k8 len8 _ hf8
                          cases hcat
                          obtain ⟨hdA, hlA, -⟩ := zdec hm hf8
                          rcases hlA with hlA | hlA
                          · subst hlA
                            exact lv_astore_n hx hb hdA rfl hl1 hk rfl (fun ls1 hls1 => go ls1 (by rw [← zfil_cl]; exact zlv_tail hls1))
                          · exact zl0 hlA
                        · cases hcat
                    · cases hcat
                  · cases hrun
                · split at hrun
                  · rename_i hesc
                    cases hrun
                    exact kx pc ev ad' H1 locs1 ls (rest.map (zcv ad)) q ce _ _ rfl hesc hev (hag.trans ha1 hn0) hW1 hS1 hq hcv hcl (by omega) (by omega)
                  · cases hrun
              have hf9 : cells + (h1.2.1 - h.2.1) ≤ R.cells ∧ slots + (h1.2.2 - h.2.2) ≤ R.slots := ⟨by omega, by omega⟩
              have hi : (∃ x, i = .invokestatic x) ∨ (∃ x, i = .invokevirtual x) ∨ (∃ x, i = .invokespecial x) := by
                unfold zcall at hcall
                split at hcall
                · exact Or.inl ⟨_, rfl⟩
                · exact Or.inr (Or.inl ⟨_, rfl⟩)
                · exact Or.inr (Or.inr ⟨_, rfl⟩)
                · cases hcall
              rcases hi with ⟨x, rfl⟩ | ⟨x, rfl⟩ | ⟨x, rfl⟩
              · -- invokestatic
                unfold zcall at hcall
                dsimp only at hcall
                split at hcall
                · rename_i t9 j9 k9 hlk
                  split at hcall
                  · rename_i hc9
                    obtain ⟨rfl, hk9, hcat⟩ := hc9
                    cases hcall
                    have hlt := zlt hts hlk
                    have hY := zY_of hmj
                    have hpd := zpd hlk ⟨by decide, by decide⟩
                    have w1 := hlt _ List.mem_cons_self
                    have w2 := hlt _ (List.mem_cons_of_mem _ List.mem_cons_self)
                    have w3 := hlt _ (List.mem_cons_of_mem _ (List.mem_cons_of_mem _ List.mem_cons_self))
                    rw [hY] at w1 w2 w3 hpd
                    have hdi : decode mt9.2.1 pc = .ok (.invokestatic x, 3) := by
                      rcases hlen with hlen | hlen
                      · subst hlen; exact hd
                      · exact zl0 hlen
                    have hal : (((st.take k9).reverse).map (zcv ad)).length = k9 := by simp [Nat.min_eq_left hk9]
                    rw [zstk (k := k9)]
                    have M := zmet (B := B) (D := D) (ad := ad) IH hst hty hmj hent hcr
                    have hpp := zpre (B := B) (D := D) (tys := tys) (xs := xs) hB hW ho hS (zwS_take (k := k9) hws)
                    by_cases hh : z_hh.getD j [] = []
                    · have hcw : zcw j = Cond.code mj.1 mj.2.1 mj.2.2.1 mj.2.2.2.1 := by unfold zcw; rw [hmj]; dsimp only; rw [if_pos hh]
                      rw [hcw] at M hcwj hws1
                      exact zcall_go (vx_runS (Ts := zTl) (own := zOwn mi) (cc := mt9.2.1) (nL := mt9.2.2.1) ⟨hx, hb, hml, hown, hts⟩ M ⟨⟨rfl, rfl, by show d' + 1 + 1 ≤ _; omega, by show 8 + (_ + 11) + 100 * (d' + 1) ≤ _; omega, hws1, List.mem_cons_self, hcwj, w3, ok4, hpd, w1⟩, w2⟩ ⟨zPc_blind, hpp⟩ rfl hal hl.1 rfl (lv_room (by rw [zcats]; exact hcat)) hdi hf9) hS (kret (zwS_drop hws)) (kthr rfl)
                    · have hcw : zcw j = Cond.codeWith mj.1 mj.2.1 mj.2.2.1 mj.2.2.2.1 (z_hh.getD j []) := by unfold zcw; rw [hmj]; dsimp only; rw [if_neg hh]
                      rw [hcw] at M hcwj hws1
                      exact zcall_go (vx_runSX (Ts := zTl) (own := zOwn mi) (cc := mt9.2.1) (nL := mt9.2.2.1) ⟨hx, hb, hml, hown, hts⟩ M ⟨⟨rfl, rfl, by show d' + 1 + 1 ≤ _; omega, by show 8 + (_ + 11) + 100 * (d' + 1) ≤ _; omega, hws1, List.mem_cons_self⟩, hcwj, w3, ok4, hpd, w1, w2⟩ ⟨zPc_blind, hpp⟩ rfl hal hl.1 rfl (lv_room (by rw [zcats]; exact hcat)) hdi hf9) hS (kret (zwS_drop hws)) (kthr rfl)
                  · cases hcall
                · cases hcall
              · -- invokevirtual
                unfold zcall at hcall
                dsimp only at hcall
                split at hcall
                · rename_i t9 j9 k9 k r hlk hdr
                  split at hcall
                  · rename_i c9 fs9 hwn
                    split at hcall
                    · rename_i hc9
                      obtain ⟨rfl, rfl, hk9, hcat, rfl⟩ := hc9
                      cases hcall
                      have hlt := zlt hts hlk
                      have hY := zY_of hmj
                      have hpd := zpd hlk ⟨by decide, by decide⟩
                      obtain ⟨-, -, hh⟩ := zni hlk hmj (Or.inl rfl)
                      have w1 := hlt _ List.mem_cons_self
                      have w2 := hlt _ (List.mem_cons_of_mem _ List.mem_cons_self)
                      have w3 := hlt _ (List.mem_cons_of_mem _ (List.mem_cons_of_mem _ List.mem_cons_self))
                      have w4 := hlt _ (List.mem_cons_of_mem _ (List.mem_cons_of_mem _ (List.mem_cons_of_mem _ List.mem_cons_self)))
                      rw [hY] at w1 w2 w3 w4 hpd
                      have hdi : decode mt9.2.1 pc = .ok (.invokevirtual x, 3) := by
                        rcases hlen with hlen | hlen
                        · subst hlen; exact hd
                        · exact zl0 hlen
                      obtain ⟨hwa, -, -⟩ := zown_at hwn (ad := ad) (tys := tys)
                      obtain ⟨rq, hrq, -⟩ := hW.1 _ _ hwa
                      have hc13 : z_mc.getD j 0 < 13 := (List.getElem?_eq_some_iff.mp hrq).1
                      have hal : (((st.take (z_np mi x)).reverse).map (zcv ad)).length = z_np mi x := by simp [Nat.min_eq_left hk9]
                      have hstk : st.map (zcv ad) = (((st.take (z_np mi x)).reverse).map (zcv ad)).reverse ++ .ref (ad k) :: rest.map (zcv ad) := by
                        rw [zstk (k := z_np mi x), hdr]; rfl
                      have hwd : zwS (h.1.length + zK0) (.ref k :: rest) := by rw [← hdr]; exact zwS_drop hws
                      rw [hstk]
                      have M := zmet (B := B) (D := D) (ad := ad) IH hst hty hmj hent hcr
                      have hpp := zpre (B := B) (D := D) (tys := tys) (xs := xs) (as := .ref k :: (st.take (z_np mi x)).reverse) hB hW ho hS (zwS_cons (hwd _ List.mem_cons_self) (zwS_take hws))
                      have hcw : zcw j = Cond.code mj.1 mj.2.1 mj.2.2.1 mj.2.2.2.1 := by unfold zcw; rw [hmj]; dsimp only; rw [if_pos hh]
                      rw [hcw] at M hcwj hws1
                      have hrv := va_recv hW.2.2.1 hW.1 (z_clq _ hc13) hwa
                      rw [ok1] at w3
                      exact zcall_go (vx_runV (Ts := zTl) (own := zOwn mi) (C := zOwn j) (b := ad k) (As := ((st.take (z_np mi x)).reverse).map (zcv ad)) (cc := mt9.2.1) (nL := mt9.2.2.1) ⟨hx, hb, hml, hown, hts⟩ M ⟨⟨rfl, rfl, by show d' + 1 + 1 ≤ _; omega, by show 8 + (_ + 11) + 100 * (d' + 1) ≤ _; omega, hws1, List.mem_cons_self, hcwj, w4, ok4, hpd, w1⟩, w2, w3⟩ ⟨zPc_blind, hrv, hpp⟩ rfl hal hl.1 rfl (lv_room (by rw [zcats]; exact hcat)) hdi hf9) hS (kret (zwS_tail hwd)) (kthr rfl)
                    · cases hcall
                  · cases hcall
                · cases hcall
              · -- a constructor
                unfold zcall at hcall
                dsimp only at hcall
                split at hcall
                · rename_i t9 j9 k9 k r hlk hdr
                  split at hcall
                  · rename_i hc9
                    obtain ⟨ht9, rfl, hk9, hcat, hsome⟩ := hc9
                    cases hcall
                    obtain ⟨v9, rfl⟩ : ∃ v, o1 = .inl v := by
                      cases o1 with
                      | inl v => exact ⟨v, rfl⟩
                      | inr ev => cases hrun
                    have hlt := zlt hts hlk
                    have hY := zY_of hmj
                    have hpd := zpd hlk (by omega)
                    obtain ⟨hi1, hi2, hh⟩ := zni hlk hmj (Or.inr ht9)
                    obtain ⟨hn1, hn2⟩ : mj.1.name = "<init>" ∧ mj.2.2.2.1 = none := ⟨hi1 ht9, hi2 ht9⟩
                    have hdi : decode mt9.2.1 pc = .ok (.invokespecial x, 3) := by
                      rcases hlen with hlen | hlen
                      · subst hlen; exact hd
                      · exact zl0 hlen
                    have hal : (((st.take (z_np mi x)).reverse).map (zcv ad)).length = z_np mi x := by simp [Nat.min_eq_left hk9]
                    have hstk : st.map (zcv ad) = (((st.take (z_np mi x)).reverse).map (zcv ad)).reverse ++ .ref (ad k) :: rest.map (zcv ad) := by
                      rw [zstk (k := z_np mi x), hdr]; rfl
                    have hwd : zwS (h.1.length + zK0) (.ref k :: rest) := by rw [← hdr]; exact zwS_drop hws
                    rw [hstk]
                    have M := zmetI (B := B) (D := D) (ad := ad) IH hst hty hmj hent hcr
                    have hpp := zpre (B := B) (D := D) (tys := tys) (xs := xs) (as := .ref k :: (st.take (z_np mi x)).reverse) hB hW ho hS (zwS_cons (hwd _ List.mem_cons_self) (zwS_take hws))
                    have hcw : zcw j = Cond.code mj.1 mj.2.1 mj.2.2.1 none := by unfold zcw; rw [hmj]; dsimp only; rw [if_pos hh, hn2]
                    rw [hcw] at M hcwj hws1
                    rw [hY] at hpd
                    rcases ht9 with rfl | rfl
                    · have w1 := hlt _ List.mem_cons_self
                      have w2 := hlt _ (List.mem_cons_of_mem _ List.mem_cons_self)
                      have w3 := hlt _ (List.mem_cons_of_mem _ (List.mem_cons_of_mem _ List.mem_cons_self))
                      rw [hY] at w1 w2 w3
                      exact zcall_goI (va_runI (Ts := zTl) (own := zOwn mi) (b := ad k) (As := ((st.take (z_np mi x)).reverse).map (zcv ad)) (cc := mt9.2.1) (nL := mt9.2.2.1) ⟨hx, hb, hml, hown, hts⟩ M ⟨⟨rfl, rfl, by show d' + 1 + 1 ≤ _; omega, by show 8 + (_ + 11) + 100 * (d' + 1) ≤ _; omega, hws1, List.mem_cons_self, hcwj, w3, ok4, hpd, w1⟩, hn1, w2⟩ ⟨zPc_blind, hpp⟩ rfl hal hl.1 rfl (lv_room (by rw [zcats]; exact hcat)) hdi hf9) hS (kret (zwS_tail hwd))
                    · have w1 := hlt _ List.mem_cons_self
                      have w2 := hlt _ (List.mem_cons_of_mem _ List.mem_cons_self)
                      have w3 := hlt _ (List.mem_cons_of_mem _ (List.mem_cons_of_mem _ List.mem_cons_self))
                      rw [hY] at w1 w2 w3
                      exact zcall_goI (va_runIN (Ts := zTl) (own := zOwn mi) (b := ad k) (As := ((st.take (z_np mi x)).reverse).map (zcv ad)) (cc := mt9.2.1) (nL := mt9.2.2.1) ⟨hx, hb, hml, hown, hts⟩ M ⟨⟨⟨rfl, rfl, by show d' + 1 + 1 ≤ _; omega, by show 8 + (_ + 11) + 100 * (d' + 1) ≤ _; omega, hws1, List.mem_cons_self⟩, hcwj, w3, ok4, hpd, w1⟩, hn1, w2⟩ ⟨zPc_blind, hpp⟩ rfl hal hl.1 rfl (lv_room (by rw [zcats]; exact hcat)) hdi hf9) hS (kret (zwS_tail hwd))
                  · cases hcall
                · cases hcall
        · cases hrun
theorem zmain {l : Launch} (hst : l.stackTraces = false) : ∀ n, zMain l n := by
  intro n
  induction n with
  | zero => intro B D tys xs d mi mt pc lv st h o h' p e R s m args below meth c H locs cells slots Q ls ad n0 ad0 c0 s0 hrun; cases hrun
  | succ n ih => exact zmain_step hst ih
