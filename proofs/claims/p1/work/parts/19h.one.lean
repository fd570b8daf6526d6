/-! at most one call on a fresh ledger -/
def zMof (h : zH) : Nat → zE := fun k => (h.1[k - 3]?).getD (.inl (0, []))
theorem zov_self {h : zH} (hl : 50 ≤ h.1.length) : zov h (zMof h) = h := zov_id hl (fun k h1 h2 => by
  unfold zown zMof
  have e3 : zK0 = 3 := rfl
  rw [e3, if_neg (by omega)]
  rw [List.getElem?_eq_getElem (by omega : k - 3 < h.1.length)]
  rfl)
theorem zMof_of {h : zH} {k : Nat} {e : zE} (hk : zown h k = some e) : zMof h k = e := by
  unfold zMof
  rw [show h.1[k - 3]? = some e from (zown_lt hk).2.2]
  rfl
/-- the fields of the reference's fresh object -/
def zF0 : Nat → Value := fun j => [Value.int 0, .ref 11, .ref 12, .int 0, .int 0, .int (-1), .int 0, .int 0, .int 0, .ref 13, .ref 14, .ref 15, .ref 16, .ref 17, .ref 18, .ref 19, .ref 20, .ref 21, .ref 22, .ref 23, .ref 24, .int 0, .ref 25, .ref 26, .ref 27, .ref 28, .ref 29, .int 0, .int 0, .int 0, .ref 30, .ref 31, .ref 32, .ref 33, .ref 34, .ref 35, .ref 36, .ref 37, .ref 38, .ref 39, .ref 40, .ref 41, .ref 42, .ref 43, .ref 44, .ref 45, .ref 46, .ref 47, .ref 48, .int 0, .int 0, .int 0, .int 0, .int 0, .int 0, .int 0, .int 0, .int 0, .int 0, .int 0, .int 0, .ref 49, .ref 50, .ref 51, .ref 52, .long 0, .long 0].getD j .null
theorem z0_3 : zown zh0 3 = some (.inr (0, [.ref 4, .ref 7, .ref 9, .int 0])) := rfl
theorem z0_4 : zown zh0 4 = some (.inr (1, [.ref 5, .ref 6, .int 0, .int (-1), .int 0, .int 0, .int 0])) := rfl
theorem z0_5 : zown zh0 5 = some (.inl (2, List.replicate 240 (.int 0))) := rfl
theorem z0_7 : zown zh0 7 = some (.inr (2, [.ref 8, .int 0])) := rfl
theorem z0_8 : zown zh0 8 = some (.inl (2, List.replicate 2686 (.int 0))) := rfl
theorem z0_9 : zown zh0 9 = some (.inl (5, List.replicate 4 .null)) := rfl
theorem z0_10 : zown zh0 10 = some (zMo zF0) := rfl
theorem z0_11 : zown zh0 11 = some (zAi (List.replicate 8660 0)) := by
  unfold zAi
  rw [List.map_replicate]
  rfl
theorem z0_12 : zown zh0 12 = some (zAi (List.replicate 2800 0)) := by
  unfold zAi
  rw [List.map_replicate]
  rfl
theorem z0_53 : zown zh0 53 = some (.inl (1, [.long 0])) := rfl
theorem z0_l : zh0.1.length = 51 := rfl
section P1
variable {X : List Value} {d : Nat} {Q : zO → zH → Prop} {J : zP → zP → zP → zP → Int32 → zH → Prop}
/-- the reference's heap behind a step of the class -/
theorem zP1_m {h : zH} (hl : 50 ≤ h.1.length) (h10 : zown h 10 = zown zh0 10) (h11 : zown h 11 = zown zh0 11) (h12 : zown h 12 = zown zh0 12) : h = zov h (zMof h) ∧ zMof h 10 = zMo zF0 ∧ zMof h 11 = zAi (List.replicate 8660 0) ∧ zMof h 12 = zAi (List.replicate 2800 0) :=
  ⟨(zov_self hl).symm, zMof_of (by rw [h10]; exact z0_10), zMof_of (by rw [h11]; exact z0_11), zMof_of (by rw [h12]; exact z0_12)⟩
theorem zP1_end {h : zH} (hJ : ∀ h, h.2.1 ≤ 1000 → h.2.2 ≤ 30000 → J (some 0) (some 3) (some 10) (some 53) 4 h) (h1 : h.2.1 ≤ 1000) (h2 : h.2.2 ≤ 30000) : zw_0_524 X d Q J (some 0) (some 3) (some 10) (some 53) 0 h := by
  intro x hx
  have : x = 4 := by rw [hx]; rfl
  subst this
  exact hJ h h1 h2
theorem zP1_x {j : Nat} {a : Int32} {j32 : Int32} {K : Int32 → Prop} {h : zH} (hj : X[j]? = some (.int a)) (h0 : j32 = nI j) (hj2 : j < 2 ^ 31) (k : K a) : zIA X (some 0) j32 h K := by
  subst h0
  exact ⟨0, X, a, rfl, rfl, nI_pos hj2, by rw [nI_clamp hj2]; exact hj, k⟩
theorem zP1_step {a b c e : Int32} (hX : X = [.int a, .int b, .int c, .int e]) (hd : 100 ≤ d) (hJ : ∀ h, h.2.1 ≤ 1000 → h.2.2 ≤ 30000 → J (some 0) (some 3) (some 10) (some 53) 4 h) : zw_0_23 X d Q J (some 0) (some 3) (some 10) (some 53) 0 zh0 := by
  obtain ⟨d, rfl⟩ : ∃ d', d = d' + 80 := ⟨d - 80, by omega⟩
  have x1 : ∀ {K : Int32 → Prop} {h : zH}, K b → zIA X (some 0) (0 + 1) h K := fun k => zP1_x (j := 1) (by rw [hX]; rfl) rfl (by decide) k
  have x2 : ∀ {K : Int32 → Prop} {h : zH}, K c → zIA X (some 0) (0 + 2) h K := fun k => zP1_x (j := 2) (by rw [hX]; rfl) rfl (by decide) k
  have x3 : ∀ {K : Int32 → Prop} {h : zH}, K e → zIA X (some 0) (0 + 3) h K := fun k => zP1_x (j := 3) (by rw [hX]; rfl) rfl (by decide) k
  have l0 := z0_l
  unfold zw_0_23
  refine ⟨0, 0, X, rfl, rfl, by decide, ?_⟩
  rw [hX]
  refine ⟨fun z => absurd z (show ¬ (Int32.ofNat 4 - 4 : Int32) < 0 by decide), fun _ => ?_⟩
  rw [← hX]
  refine zP1_x (j := 0) (a := a) (by rw [hX]; rfl) rfl (by decide) ?_
  refine ⟨fun _ => ?_, fun _ => ?_, fun _ => ?_, fun _ => ?_, fun _ => ?_, fun _ => ?_, fun _ => ?_, fun _ => ?_, fun _ => ?_, fun _ => zP1_end hJ (by decide) (by decide)⟩
  · -- put
    refine x1 (x2 (x3 ⟨d + 79, rfl, zm_17 (zX_cv z0_3 ?_)⟩))
    by_cases hn : e < 1 ∨ 8 < e
    · refine zc18x (len := 0) (e0 := 0) (by omega) z0_3 z0_4 (by rw [if_pos hn]) (hn.elim Or.inl (fun z => Or.inr (Or.inl z))) ⟨fun _ => ?_, fun z => absurd z (by decide), fun z => absurd rfl z.1⟩
      obtain ⟨m1, m2, _, _⟩ := zP1_m (h := (zh0.1, zh0.2.1 + 1, zh0.2.2 + 6)) (by decide) rfl rfl rfl
      refine x1 (x2 (x3 ?_))
      rw [m1]
      refine zM_cv (by decide) m2 (zc154x (f := 0) (by decide) m2 rfl (by rw [if_pos hn]) (hn.elim Or.inl (fun z => Or.inr (Or.inl z))) ?_)
      refine zM_cv (by decide) zub_s (zc153 (by decide) zub_s zub_s ?_)
      exact ⟨fun _ => ⟨fun z => absurd z (by decide), fun _ => zP1_end hJ (by decide) (by decide)⟩, fun z => absurd rfl z⟩
    · have h1 : ¬ e < 1 := fun z => hn (Or.inl z)
      have h2 : ¬ 8 < e := fun z => hn (Or.inr z)
      obtain ⟨j, hj, rfl⟩ := nI_of (x := e) (fun z => h1 (Int32.lt_trans z (by decide)))
      have j1 : 1 ≤ j := by
        have := mt (nI_ltI (a := j) (b := 1) hj (by decide)).mpr h1
        omega
      have j2 : j ≤ 8 := by
        have := mt (nI_ltI (a := 8) (b := j) (by decide) hj).mpr h2
        omega
      refine zc18 (len := 0) (m := j) z0_3 z0_4 z0_5 List.length_replicate ⟨j1, j2⟩ (by omega) ?_
      have g4 : zown (zput zh0 5 (.inl (2, zapp ((b.toInt64 <<< (Int32.toInt64 32 &&& 63)) ||| (c.toInt64 &&& 4294967295)) j (List.replicate 240 (.int 0)) 0))) 4 = some (.inr (1, [.ref 5, .ref 6, .int 0, .int (-1), .int 0, .int 0, .int 0])) := by rw [zown_ne z0_5 (by decide)]; exact z0_4
      refine ⟨53, [.long 0], rfl, ?_, by decide, by decide, ?_⟩
      · rw [zown_ne g4 (by decide), zown_ne z0_5 (by decide)]; exact z0_53
      · refine x1 (x2 (x3 ?_))
        obtain ⟨m1, m2, m3, _⟩ := zP1_m (h := zput (zput (zput zh0 5 (.inl (2, zapp ((b.toInt64 <<< (Int32.toInt64 32 &&& 63)) ||| (c.toInt64 &&& 4294967295)) j (List.replicate 240 (.int 0)) 0))) 4 (.inr (1, [.ref 5, .ref 6, .int (nI (0 + j)), .int (-1), .int 0, .int 0, .int 0]))) 53 (.inl (1, [Value.long 0].set (Int32.toNatClampNeg 0) (Value.long (nI (0 + j)).toInt64)))) (by show 50 ≤ (List.set (List.set (List.set _ _ _) _ _) _ _).length; rw [List.length_set, List.length_set, List.length_set, l0]; decide) rfl rfl rfl
        have hlen : 50 ≤ (zput (zput (zput zh0 5 (.inl (2, zapp ((b.toInt64 <<< (Int32.toInt64 32 &&& 63)) ||| (c.toInt64 &&& 4294967295)) j (List.replicate 240 (.int 0)) 0))) 4 (.inr (1, [.ref 5, .ref 6, .int (nI (0 + j)), .int (-1), .int 0, .int 0, .int 0]))) 53 (.inl (1, [Value.long 0].set (Int32.toNatClampNeg 0) (Value.long (nI (0 + j)).toInt64)))).1.length := by show 50 ≤ (List.set (List.set (List.set _ _ _) _ _) _ _).length; rw [List.length_set, List.length_set, List.length_set, l0]; decide
        rw [m1]
        refine zM_cv hlen m2 (zc154 (f := 0) (n := j) hlen m2 rfl rfl m3 List.length_replicate ⟨j1, j2⟩ (by omega) ?_)
        intro M' F' a1 a2 a3 a4 a5 a6
        refine zM_cv hlen a1 (zc153 hlen a1 a4 ?_)
        refine ⟨fun _ => ⟨fun _ => ?_, fun z => absurd rfl z⟩, fun z => absurd rfl z⟩
        refine ⟨53, [.long (nI (0 + j)).toInt64], _, rfl, ?_, by decide, rfl, ⟨fun _ => zP1_end hJ (show 51 ≤ 1000 by decide) (show 22703 ≤ 30000 by decide), fun z => absurd rfl z⟩⟩
        rw [zov_frame hlen (by decide)]
        refine zown_put (e0 := .inl (1, [.long 0])) ?_
        rw [zown_ne g4 (by decide), zown_ne z0_5 (by decide)]; exact z0_53
  · -- deploy
    refine ⟨d + 79, rfl, zm_20 (zX_cv z0_3 (zc21x (d := d + 73) (by omega) z0_3 z0_9 List.length_replicate z0_4 ?_))⟩
    intro h1 f1 f2 f3 f4
    refine ⟨fun z => absurd z (by decide), fun _ => ?_, fun z => absurd z (by decide), fun z => absurd rfl z.2.1⟩
    have hl : 50 ≤ h1.1.length := by rw [f3, l0]; decide
    have c1 : h1.2.1 = 54 := by rw [f4]; rfl
    have c2 : h1.2.2 = 22719 := by rw [f4]; rfl
    obtain ⟨m1, m2, _, _⟩ := zP1_m hl (f1 10 (by decide) (by rw [z0_10]; exact Option.some_ne_none _)) (f1 11 (by decide) (by rw [z0_11]; exact Option.some_ne_none _)) (f1 12 (by decide) (by rw [z0_12]; exact Option.some_ne_none _))
    rw [m1]
    refine zM_cv hl m2 (zc155x hl m2 rfl rfl ?_)
    intro M' F' a1 a2 a3 a4 a5 a6
    refine zM_cv hl a1 (zc153 hl a1 a3 ⟨fun _ => ⟨fun z => absurd z (by decide), fun _ => zP1_end hJ (by rw [show (zov h1 M').2.1 = h1.2.1 from rfl, c1]; decide) (by rw [show (zov h1 M').2.2 = h1.2.2 from rfl, c2]; decide)⟩, fun z => absurd rfl z⟩)
  · -- wrong
    refine zX_cv z0_3 (zc4 z0_3 z0_4 ?_)
    obtain ⟨m1, m2, _, _⟩ := zP1_m (h := zh0) (by decide) rfl rfl rfl
    rw [m1]
    exact zM_cv (by decide) m2 (zc196 (by decide) m2 rfl ⟨fun _ => zP1_end hJ (by decide) (by decide), fun z => absurd rfl z⟩)
  · -- call
    refine x1 (x2 (x3 ⟨d + 79, rfl, zm_93 (zX_cv z0_3 (zc94x (d := d + 77) (by omega) z0_3 z0_9 List.length_replicate z0_4 z0_7 ?_))⟩))
    refine ⟨fun _ => ?_, fun z => absurd z (by decide), fun z => absurd z (by decide), fun z => absurd z (by decide), fun z => absurd rfl z.1⟩
    refine x1 (x2 (x3 ?_))
    obtain ⟨m1, m2, _, _⟩ := zP1_m (h := zex (zput (zput zh0 7 (.inr (2, [.ref 8, .int 0]))) 4 (.inr (1, [.ref 5, .ref 6, .int 0, .int (-1), .int 0, .int 0, .int 0])))) (by decide) rfl rfl rfl
    rw [m1]
    refine zM_cv (by decide) m2 (zc197x (by decide) m2 rfl rfl ?_)
    exact zM_cv (by decide) zub_s (zc153 (by decide) zub_s zub_s ⟨fun _ => ⟨fun z => absurd z (by decide), fun _ => zP1_end hJ (by decide) (by decide)⟩, fun z => absurd rfl z⟩)
  · -- storage
    refine x1 ⟨d + 79, rfl, zm_146 (zX_cv z0_3 (zc147x (d := d + 77) (by omega) z0_3 z0_9 List.length_replicate ?_))⟩
    refine ⟨fun _ => x1 ?_, fun z => absurd rfl z⟩
    obtain ⟨m1, m2, _, _⟩ := zP1_m (h := zex zh0) (by decide) rfl rfl rfl
    rw [m1]
    refine zM_cv (by decide) m2 (zc227x (by decide) m2 rfl ?_)
    exact zM_cv (by decide) zub_s (zc153 (by decide) zub_s zub_s ⟨fun _ => ⟨fun z => absurd z (by decide), fun _ => zP1_end hJ (by decide) (by decide)⟩, fun z => absurd rfl z⟩)
  · -- find
    refine x1 ⟨d + 79, rfl, zm_149 (zX_cv z0_3 (zc150x (d := d + 77) (by omega) z0_3 z0_9 List.length_replicate z0_4 ?_))⟩
    refine ⟨fun _ => x1 ?_, fun z => absurd rfl z⟩
    obtain ⟨m1, m2, _, _⟩ := zP1_m (h := zex (zput zh0 4 (.inr (1, [.ref 5, .ref 6, .int 0, .int (-1), .int 0, .int 0, .int 0])))) (by decide) rfl rfl rfl
    rw [m1]
    refine zM_cv (by decide) m2 (zc228x (by decide) m2 rfl rfl ?_)
    exact zM_cv (by decide) zub_s (zc153 (by decide) zub_s zub_s ⟨fun _ => ⟨fun z => absurd z (by decide), fun _ => zP1_end hJ (by decide) (by decide)⟩, fun z => absurd rfl z⟩)
  · -- octet
    have hi : b < 0 ∨ nI 0 ≤ b := by
      by_cases h1 : b < 0
      · exact Or.inl h1
      · exact Or.inr (Int32.not_lt.mp h1)
    refine x1 (zX_cv z0_3 (zc5 (m := 0) z0_3 z0_7 z0_8 (by decide) List.length_replicate (fun v hv => ⟨0, List.eq_of_mem_replicate hv⟩) ?_))
    rw [if_pos hi]
    obtain ⟨m1, m2, _, m4⟩ := zP1_m (h := zh0) (by decide) rfl rfl rfl
    refine x1 ?_
    rw [m1]
    refine zM_cv (by decide) m2 (zc229 (n := 0) (by decide) m2 rfl rfl m4 (Nat.zero_le _) List.length_replicate ?_)
    rw [if_pos hi]
    exact ⟨fun _ => zP1_end hJ (by decide) (by decide), fun z => absurd rfl z⟩
  · -- about
    refine x1 (x2 (zX_cv z0_3 (zc7x z0_3 z0_9 List.length_replicate (x1 (x2 ?_)))))
    obtain ⟨m1, m2, _, _⟩ := zP1_m (h := zh0) (by decide) rfl rfl rfl
    rw [m1]
    exact zM_cv (by decide) m2 (zc230x (by decide) m2 rfl ⟨fun _ => zP1_end hJ (by decide) (by decide), fun z => absurd rfl z⟩)
  · -- count
    refine x1 (zX_cv z0_3 (zc16 z0_3 z0_4 z0_7 (x1 ?_)))
    obtain ⟨m1, m2, _, _⟩ := zP1_m (h := zh0) (by decide) rfl rfl rfl
    rw [m1]
    exact zM_cv (by decide) m2 (zc231 (by decide) m2 rfl rfl rfl ⟨fun _ => zP1_end hJ (by decide) (by decide), fun z => absurd rfl z⟩)
end P1
