theorem zt_contractAt {xs : List Value} {d x b o ca : Nat} {c n : Int32} {cs : List Value} {h : zH} {Q : zO → zH → Prop} (hx : zown h x = some (.inr (0, [.ref b, .ref o, .ref ca, .int n]))) (hca : zown h ca = some (.inl (5, cs))) (hl : cs.length = 4) (hcs : ∀ v ∈ cs, (∃ a, v = .ref a) ∨ v = .null)
    (q : Q (.inl (some (if c < 0 ∨ n ≤ c ∨ 4 ≤ c then .null else cs.getD c.toNatClampNeg .null))) h) : zG xs d (8, 0, [(0, .ref x), (1, .int c)], []) h Q := by
  have knull : (c < 0 ∨ n ≤ c ∨ 4 ≤ c) → zG xs d (8, 21, [(0, .ref x), (1, .int c)], []) h Q := by
    intro hc
    rw [if_pos hc] at q
    refine zG_p zfe_8_21 rfl ?_
    refine zG_go 31 zfe_8_22 rfl ?_
    exact zG_ret zfe_8_31 rfl (fun _ => rfl) rfl q
  refine zG_l zfe_8_0 rfl rfl rfl rfl ?_
  refine zG_if 21 zfe_8_1 rfl (fun h1 => knull (Or.inl h1)) (fun h1 => ?_)
  refine zG_l zfe_8_4 rfl rfl rfl rfl ?_
  refine zG_l zfe_8_5 rfl rfl rfl rfl ?_
  refine zG_get zfe_8_6 rfl (by decide) hx rfl ?_
  refine zG_ic 21 zfe_8_9 rfl (fun h2 => knull (Or.inr (Or.inl h2))) (fun h2 => ?_)
  refine zG_l zfe_8_12 rfl rfl rfl rfl ?_
  refine zG_l zfe_8_13 rfl rfl rfl rfl ?_
  refine zG_get zfe_8_14 rfl (by decide) hx rfl ?_
  refine zG_len zfe_8_17 hca (by decide) ?_
  rw [hl]
  refine zG_ic 25 zfe_8_18 rfl (fun h3 => ?_) (fun h3 => knull (Or.inr (Or.inr (Int32.not_lt.mp h3))))
  have h1 : ¬ c < 0 := h1
  have h2 : ¬ n ≤ c := h2
  have h3 : c < 4 := h3
  rw [if_neg (fun z => z.elim h1 (fun z => z.elim h2 (fun z => absurd h3 (Int32.not_lt.mpr z))))] at q
  refine zG_l zfe_8_25 rfl rfl rfl rfl ?_
  refine zG_get zfe_8_26 rfl (by decide) hx rfl ?_
  refine zG_l zfe_8_29 rfl rfl rfl rfl ?_
  obtain ⟨j, hj, rfl⟩ : ∃ j : Nat, j < 4 ∧ c = nI j := by
    obtain ⟨j, hj, rfl⟩ := nI_of h1
    refine ⟨j, ?_, rfl⟩
    exact (nI_ltI hj (by decide)).mp h3
  have hcl : (nI j).toNatClampNeg = j := nI_clamp (by omega)
  obtain ⟨v, hv⟩ : ∃ v, cs[j]? = some v := ⟨_, List.getElem?_eq_getElem (by omega)⟩
  rw [hcl, zgd_of hv] at q
  have hr := hcs v (List.mem_of_getElem? hv)
  refine zG_aal zfe_8_30 hca (by decide) h1 (by rw [hcl]; exact hv) hr ?_
  rcases hr with ⟨a, rfl⟩ | rfl
  · exact zG_ret zfe_8_31 rfl (fun _ => rfl) rfl q
  · exact zG_ret zfe_8_31 rfl (fun _ => rfl) rfl q
