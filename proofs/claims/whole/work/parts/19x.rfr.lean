/-! the reference's frames -/
def zAt (M : Nat → zE) (k i : Nat) : Option Int32 := match M k with
  | .inl (_, vs) => (match vs[i]? with
    | some (.int x) => some x
    | _ => none)
  | _ => none
theorem zAt_i {M : Nat → zE} {k i : Nat} {L : List Int32} (h : M k = zAi L) : zAt M k i = L[i]? := by
  unfold zAt zAi at *
  rw [h]
  dsimp only
  rw [List.getElem?_map]
  cases L[i]? <;> rfl
def zFeq (D : Nat) (M M' : Nat → zE) : Prop := (∀ k ∈ [38, 39, 40, 41, 45, 47], ∀ i, i < D → zAt M' k i = zAt M k i) ∧ (∀ k ∈ [44, 46], ∀ i, i < 12 * D → zAt M' k i = zAt M k i)
theorem zFeq_refl {D : Nat} {M : Nat → zE} : zFeq D M M := ⟨fun _ _ _ _ => rfl, fun _ _ _ _ => rfl⟩
theorem zFeq_t {D : Nat} {M M' M2 : Nat → zE} (h1 : zFeq D M M') (h2 : zFeq D M' M2) : zFeq D M M2 := ⟨fun k hk i hi => (h2.1 k hk i hi).trans (h1.1 k hk i hi), fun k hk i hi => (h2.2 k hk i hi).trans (h1.2 k hk i hi)⟩
theorem zFeq_le {D E : Nat} {M M' : Nat → zE} (h : zFeq E M M') (hd : D ≤ E) : zFeq D M M' := ⟨fun k hk i hi => h.1 k hk i (by omega), fun k hk i hi => h.2 k hk i (by omega)⟩
theorem zFeq_sm {D : Nat} {M M' : Nat → zE} {S : List Nat} (hM : zSm S M M') (hS : (S.all fun q => !([38, 39, 40, 41, 44, 45, 46, 47].contains q)) = true) : zFeq D M M' := by
  have nm : ∀ k, k ∈ ([38, 39, 40, 41, 44, 45, 46, 47] : List Nat) → M' k = M k := fun k hk => hM k (fun z => by
    have := List.all_eq_true.mp hS k z
    rw [List.contains_iff_mem.mpr hk] at this
    cases this)
  refine ⟨fun k hk i _ => ?_, fun k hk i _ => ?_⟩
  · have : k ∈ ([38, 39, 40, 41, 44, 45, 46, 47] : List Nat) := by simp at hk ⊢; omega
    unfold zAt; rw [nm k this]
  · have : k ∈ ([38, 39, 40, 41, 44, 45, 46, 47] : List Nat) := by simp at hk ⊢; omega
    unfold zAt; rw [nm k this]
/-- a stack that is kept in an array -/
def zSv (P : Int32 → Term → Prop) (M : Nat → zE) (l D : Nat) (st : List Term) : Prop := ∀ k T, st[k]? = some T → ∃ x, zAt M l (12 * D + (st.length - 1 - k)) = some x ∧ P x T
section RFR
variable {xs : List Value} {d : Nat} {h : zH} {M0 M M' : Nat → zE} {F0 F F' : Nat → Value} {Q : zO → zH → Prop} {Ts Ts' : List Term} {T U : Term} {N : List zNt} {fr j D l : Nat} {e : zNt} {st sv : List Term} {held most ins c : Nat} {ce ce' : List (Nat × Nat × Nat)} {lo lo' : List (Nat × Nat)} {x y : Int32} {P : Int32 → Term → Prop} {KI : Int32 → zH → Prop} {E : Nat → zH → Prop}
theorem zSv_feq (hs : zSv P M l D sv) (hf : zFeq (D + 1) M M') (hl : l = 44 ∨ l = 46) (h12 : sv.length ≤ 12) : zSv P M' l D sv := fun k T hk => by
  obtain ⟨x, h1, h2⟩ := hs k T hk
  have := (List.getElem?_eq_some_iff.mp hk).1
  exact ⟨x, by rw [hf.2 l (by simp; omega) _ (by omega)]; exact h1, h2⟩
theorem zSv_P {P' : Int32 → Term → Prop} (hs : zSv P M l D sv) (H : ∀ x T, P x T → P' x T) : zSv P' M l D sv := fun k T hk => by
  obtain ⟨x, h1, h2⟩ := hs k T hk
  exact ⟨x, h1, H x T h2⟩
theorem zSt_bot (hs : zSt M F P st held most) {i : Nat} {T : Term} (hi : st.reverse[i]? = some T) : ∃ Sk x, M 48 = zAi Sk ∧ Sk.length = 16 ∧ Sk[i]? = some x ∧ P x T := by
  obtain ⟨a1, a2, a3, a4, Sk, a5, a6, a7⟩ := hs
  have hil : i < st.length := by have := (List.getElem?_eq_some_iff.mp hi).1; rw [List.length_reverse] at this; exact this
  rw [List.getElem?_reverse hil] at hi
  obtain ⟨x, b1, b2⟩ := a7 _ T hi
  rw [show st.length - 1 - (st.length - 1 - i) = i by omega] at b1
  exact ⟨Sk, x, a5, a6, b1, b2⟩
theorem zSv_bot (hs : zSv P M l D sv) {i : Nat} {T : Term} (hi : sv.reverse[i]? = some T) : ∃ x, zAt M l (12 * D + i) = some x ∧ P x T := by
  have hil : i < sv.length := by have := (List.getElem?_eq_some_iff.mp hi).1; rw [List.length_reverse] at this; exact this
  rw [List.getElem?_reverse hil] at hi
  obtain ⟨x, b1, b2⟩ := hs _ T hi
  rw [show sv.length - 1 - (sv.length - 1 - i) = i by omega] at b1
  exact ⟨x, b1, b2⟩
theorem zc171 {L : List Int32} (hl : 50 ≤ h.1.length) (h10 : M 10 = zMo F) (hR : zRf F) (hl1 : 10 ≤ l) (hl2 : l ≤ 52) (hND : zND Ts) (hs : zSt M F (zTi Ts) st held most) (hL : M l = zAi L) (hv : zSv (zTi Ts) M l D sv) (hD : D ≤ 11) (hm : sv.length ≤ st.length) (q : Q (.inl (some (.int (zB (decide (st.drop (st.length - sv.length) = sv)))))) (zov h M)) : zG xs d (171, 0, lv_args 0 [zo (some 10), zo (some l), .int (nI sv.length), .int (nI D)], []) (zov h M) Q := by
  have h16 := hs.2.2.2.1
  refine zm_171 (fun m l0 l1 l2 l3 l4 l5 h1 => h1 = zov h M ∧ l0 = some 10 ∧ l1 = some l ∧ l2 = nI sv.length ∧ l3 = nI D ∧ ∃ k, l5 = nI k ∧ k ≤ sv.length ∧ m = sv.length - k ∧ ((l4 = 1 ∧ ∀ i, i < k → st.reverse[i]? = sv.reverse[i]?) ∨ (l4 = 0 ∧ ¬ st.drop (st.length - sv.length) = sv))) ?_ ?_
  · rintro m l0 l1 l2 l3 l4 l5 h1 ⟨rfl, rfl, rfl, rfl, rfl, k, rfl, hk, rfl, hc⟩
    have rv : ∀ i, i < sv.length → (st.drop (st.length - sv.length)).reverse[i]? = st.reverse[i]? := fun i hi => by
      rw [List.getElem?_reverse (by rw [List.length_drop]; omega), List.getElem?_reverse (by omega), List.getElem?_drop, List.length_drop]
      congr 1
      omega
    refine pk_lt k sv.length (fun hlt => ?_) (fun hge => ?_)
    · rcases hc with ⟨rfl, hc⟩ | ⟨rfl, hc⟩
      · refine ⟨fun z => absurd z (by decide), fun _ => ?_⟩
        obtain ⟨T, hT⟩ : ∃ T, st.reverse[k]? = some T := ⟨_, List.getElem?_eq_getElem (by rw [List.length_reverse]; omega)⟩
        obtain ⟨U, hU⟩ : ∃ T, sv.reverse[k]? = some T := ⟨_, List.getElem?_eq_getElem (by rw [List.length_reverse]; omega)⟩
        obtain ⟨Sk, x, s1, s2, s3, s4⟩ := zSt_bot hs hT
        obtain ⟨y, t1, t2⟩ := zSv_bot hv hU
        rw [zAt_i hL] at t1
        refine zM_gr hl h10 (hR (48, 48) (by decide)) (zM_ia' hl s1 s3 ?_)
        rw [show (12 : Int32) * nI D = nI (12 * D) from pk_mul 12 D, nI_add]
        refine zM_ia' hl hL t1 ⟨fun z => ?_, fun z => ?_⟩ (by omega) hl1 hl2
        · intro x5 hx5
          subst hx5
          refine ⟨_, by omega, rfl, rfl, rfl, rfl, rfl, k + 1, nI_1 k, by omega, rfl, Or.inl ⟨rfl, fun i hi => ?_⟩⟩
          by_cases hik : i = k
          · rw [hik, hT, hU, (zTi_eq hND s4 t2).mp z]
          · exact hc i (by omega)
        · intro x5 hx5
          subst hx5
          refine ⟨_, by omega, rfl, rfl, rfl, rfl, rfl, k + 1, nI_1 k, by omega, rfl, Or.inr ⟨rfl, fun w => z ((zTi_eq hND s4 t2).mpr ?_)⟩⟩
          have := rv k hlt
          rw [w, hU, hT] at this
          exact (Option.some.inj this).symm
      · refine ⟨fun _ => ?_, fun z => absurd rfl z⟩
        intro x5 hx5
        subst hx5
        exact ⟨_, by omega, rfl, rfl, rfl, rfl, rfl, k + 1, nI_1 k, by omega, rfl, Or.inr ⟨rfl, hc⟩⟩
    · rcases hc with ⟨rfl, hc⟩ | ⟨rfl, hc⟩
      · have he : st.drop (st.length - sv.length) = sv := by
          have : (st.drop (st.length - sv.length)).reverse = sv.reverse := List.ext_getElem? (fun i => by
            by_cases hi : i < sv.length
            · rw [rv i hi]; exact hc i (by omega)
            · rw [List.getElem?_eq_none (by rw [List.length_reverse, List.length_drop]; omega), List.getElem?_eq_none (by rw [List.length_reverse]; omega)])
          exact List.reverse_inj.mp this
        rw [decide_eq_true he] at q
        exact ⟨Or.inr rfl, q⟩
      · rw [decide_eq_false hc] at q
        exact ⟨Or.inl rfl, q⟩
  · exact ⟨_, rfl, rfl, rfl, rfl, rfl, 0, rfl, Nat.zero_le _, rfl, Or.inl ⟨rfl, fun i hi => by omega⟩⟩
theorem zc174 {L : List Int32} (hl : 50 ≤ h.1.length) (h10 : M 10 = zMo F) (hR : zRf F) (hl1 : 10 ≤ l) (hl2 : l ≤ 52) (hl3 : l ≠ 48) (hl4 : l ≠ 10) (hs : zSt M F P st held most) (hL : M l = zAi L) (hv : zSv P M l D sv) (hD : D ≤ 11) (hm : sv.length ≤ 12) (q : ∀ M' F', M' 10 = zMo F' → zSm [10, 48] M M' → zSm [49] F F' → zSt M' F' P sv held most → Q (.inl none) (zov h M')) : zG xs d (174, 0, lv_args 0 [zo (some 10), zo (some l), .int (nI sv.length), .int (nI D)], []) (zov h M) Q := by
  obtain ⟨a1, a2, a3, a4, Sk0, a5, a6, a7⟩ := hs
  refine zm_174 (fun m l0 l1 l2 l3 l4 h1 => ∃ Sk k, h1 = zov h (zub (zub M 10 (zMo (zub F 49 (.int (nI sv.length))))) 48 (zAi Sk)) ∧ Sk.length = 16 ∧ l0 = some 10 ∧ l1 = some l ∧ l2 = nI sv.length ∧ l3 = nI D ∧ l4 = nI k ∧ k ≤ sv.length ∧ m = sv.length - k ∧ ∀ i T, i < k → sv.reverse[i]? = some T → ∃ x, Sk[i]? = some x ∧ P x T) ?_ ?_
  · rintro m l0 l1 l2 l3 l4 h1 ⟨Sk, k, rfl, hSk, rfl, rfl, rfl, rfl, rfl, hk, rfl, hc⟩
    have h10' : zub (zub M 10 (zMo (zub F 49 (.int (nI sv.length))))) 48 (zAi Sk) 10 = zMo (zub F 49 (.int (nI sv.length))) := by rw [zub_n (by decide), zub_s]
    have hR' : zRf (zub F 49 (.int (nI sv.length))) := zRf_sm hR (zSm_ub (S := [49]) zSm_refl (by decide)) (by decide)
    refine pk_lt k sv.length (fun hlt => ?_) (fun hge => ?_)
    · obtain ⟨U, hU⟩ : ∃ T, sv.reverse[k]? = some T := ⟨_, List.getElem?_eq_getElem (by rw [List.length_reverse]; omega)⟩
      obtain ⟨y, t1, t2⟩ := zSv_bot hv hU
      rw [zAt_i hL] at t1
      refine zM_gr hl h10' (hR' (48, 48) (by decide)) ?_
      rw [show (12 : Int32) * nI D = nI (12 * D) from pk_mul 12 D, nI_add]
      refine zM_ia' (L := L) hl (by rw [zub_n hl3, zub_n hl4]; exact hL) t1 (zM_st' (L := Sk) hl zub_s (by omega) (by omega) ?_) (by omega) hl1 hl2
      intro x7 hx7
      subst hx7
      refine ⟨_, by omega, Sk.set k y, k + 1, ?_, by rw [List.length_set]; exact hSk, rfl, rfl, rfl, rfl, nI_1 k, by omega, rfl, fun i T hi hT => ?_⟩
      · congr 1
        funext i
        unfold zub
        split <;> rfl
      · by_cases hik : i = k
        · subst hik
          rw [hU] at hT
          cases hT
          exact ⟨y, zset_eq (by omega), t2⟩
        · rw [zset_ne (fun z => hik z.symm)]
          exact hc i T (by omega) hT
    · refine q _ (zub F 49 (.int (nI sv.length))) h10' (zSm_ub (zSm_ub zSm_refl (by decide)) (by decide)) (zSm_ub zSm_refl (by decide)) ⟨zub_s, by rw [zub_n (by decide)]; exact a2, by rw [zub_n (by decide)]; exact a3, by omega, Sk, zub_s, hSk, fun i T hi => ?_⟩
      have hil := (List.getElem?_eq_some_iff.mp hi).1
      exact hc (sv.length - 1 - i) T (by omega) (by rw [List.getElem?_reverse (by omega), show sv.length - 1 - (sv.length - 1 - i) = i by omega]; exact hi)
  · refine zM_pf hl h10 ⟨_, Sk0, 0, ?_, a6, rfl, rfl, rfl, rfl, rfl, Nat.zero_le _, rfl, fun i T hi => by omega⟩
    congr 1
    funext i
    unfold zub
    by_cases hi : i = 48
    · subst hi; rw [if_pos rfl]; rw [if_neg (by decide)]; exact a5
    · rw [if_neg hi]
theorem zc169 {i : Nat} (hl : 50 ≤ h.1.length) (hc : zKC M0 F0 N fr) (hk : zKS M0 M F0 F Ts st held most ins ce lo) (he : N[i]? = some e) (q1 : eS e = 2 → Q (.inl (some (.int 1))) (zov h M)) (q0 : eS e ≠ 2 → ∀ M' F', zKS M0 M' F0 F' Ts st held most ins ce lo → F' 5 = .int (nI (eF e)) → Q (.inl (some (.int 0))) (zov h M')) : zG xs (d + 1) (169, 0, lv_args 0 [zo (some 10), .int (nI i)], []) (zov h M) Q := by
  obtain ⟨h10, hR, hr, hx, h6⟩ := zKS_c hk hc
  have h3 := (hc.2.2.1.1.2 i e he).1
  have hil := (List.getElem?_eq_some_iff.mp he).1
  have := hc.2.2.1.1.1
  refine zm_169 (zM_nS hl h10 hR hr he (pk_eq (eS e) 2 (fun z => ⟨Or.inr rfl, q1 z⟩) (fun z => ?_)))
  exact zbad (d := d) hl hc hk he (fun M' F' a1 a2 => ⟨fun _ => ⟨Or.inl rfl, q0 z M' F' a1 a2⟩, fun w => absurd (by decide) w⟩)
end RFR
/-! the reference's check: a row is opened -/
def zkop (c : Nat) (st : List Term) : List Term := if c = 33 then st.drop 1 else if c = 49 ∨ c = 50 ∨ c = 59 then zkbg c st else zkf1 c st
/-- what a frame keeps -/
def zFR (M M2 : Nat → zE) (D : Nat) (Ts : List Term) (A : Term) (bs : List Term) : Prop := zFeq D M M2 ∧ zAt M2 38 D = zAt M 38 D ∧ zAt M2 39 D = zAt M 39 D ∧ (∃ x, zAt M2 41 D = some x ∧ zTi Ts x A) ∧ zAt M2 40 D = some 0 ∧ zAt M2 45 D = some (nI bs.length) ∧ zSv (zTi Ts) M2 44 D bs
theorem zAt_sm {M M' : Nat → zE} {S : List Nat} {k i : Nat} (hM : zSm S M M') (hS : S.contains k = false) : zAt M' k i = zAt M k i := by
  unfold zAt
  rw [hM k (fun z => by rw [List.contains_iff_mem.mpr z] at hS; cases hS)]
theorem zFR_sm {M M2 M3 : Nat → zE} {D : Nat} {Ts Ts' : List Term} {A : Term} {bs : List Term} {S : List Nat} (hf : zFR M M2 D Ts A bs) (hM : zSm S M2 M3) (hS : (S.all fun q => !([38, 39, 40, 41, 44, 45, 46, 47].contains q)) = true) (hx : ∀ x U, zTi Ts x U → zTi Ts' x U) : zFR M M3 D Ts' A bs := by
  have nc : ∀ k, k ∈ ([38, 39, 40, 41, 44, 45, 46, 47] : List Nat) → S.contains k = false := fun k hk => by
    cases hc : S.contains k with
    | false => rfl
    | true =>
      have := List.all_eq_true.mp hS k (List.contains_iff_mem.mp hc)
      rw [List.contains_iff_mem.mpr hk] at this
      cases this
  obtain ⟨a1, a2, a3, ⟨x, a4, a5⟩, a6, a7, a8⟩ := hf
  refine ⟨zFeq_t a1 (zFeq_sm hM hS), (zAt_sm hM (nc 38 (by decide))).trans a2, (zAt_sm hM (nc 39 (by decide))).trans a3, ⟨x, (zAt_sm hM (nc 41 (by decide))).trans a4, hx _ _ a5⟩, (zAt_sm hM (nc 40 (by decide))).trans a6, (zAt_sm hM (nc 45 (by decide))).trans a7, fun k T hk => ?_⟩
  obtain ⟨y, b1, b2⟩ := a8 k T hk
  exact ⟨y, (zAt_sm hM (nc 44 (by decide))).trans b1, hx _ _ b2⟩
section ROP
variable {xs : List Value} {d : Nat} {h : zH} {M0 M M' : Nat → zE} {F0 F F' : Nat → Value} {Q : zO → zH → Prop} {Ts Ts' : List Term} {T U : Term} {N : List zNt} {fr j D l : Nat} {e : zNt} {st st' sv : List Term} {held most ins c held' most' ins' : Nat} {ce ce' : List (Nat × Nat × Nat)} {lo lo' : List (Nat × Nat)} {x y : Int32} {P : Int32 → Term → Prop} {KI : Int32 → zH → Prop} {KV : zH → Prop} {E : Nat → zH → Prop}
theorem zKS_g {S T : List Nat} (hk : zKS M0 M F0 F Ts st held most ins ce lo) (h10 : M' 10 = zMo F') (hM : zSm S M M') (hF : zSm T F F') (hst : zSt M' F' (zTi Ts) st' held' most') (hin : F' 52 = .int (nI ins')) (hfs : zFsh M') (hS : (S.all fun q => [10, 38, 39, 40, 41, 44, 45, 46, 47, 48].contains q) = true) (hT : (T.all fun q => [5, 49, 50, 51, 52].contains q) = true) : zKS M0 M' F0 F' Ts st' held' most' ins' ce lo := by
  obtain ⟨a1, a2, a3, a4, a5, a6, a7, a8⟩ := hk
  have sM : zSm [10, 38, 39, 40, 41, 44, 45, 46, 47, 48] M M' := zSm_mono hM (fun k hk => List.contains_iff_mem.mp (List.all_eq_true.mp hS k hk))
  have sF : zSm [5, 49, 50, 51, 52] F F' := zSm_mono hF (fun k hk => List.contains_iff_mem.mp (List.all_eq_true.mp hT k hk))
  exact ⟨zPo_sm a1 h10 sM sF (by decide) (by decide), zSm_trans a2 sM (fun _ z => z) (by decide), zSm_trans a3 sF (fun _ z => z) (by decide), zTbl_sm a4 sM (sF 21 (by decide)) (by decide), hst, hin, zSc4_sm a7 sM (by decide), hfs⟩
theorem zFsh_ub {k n : Nat} {L : List Int32} (hf : zFsh M) (hk : (k, n) ∈ zfrl) (hL : L.length = n) : zFsh (zub M k (zAi L)) := fun q hq => by
  by_cases hqk : q.1 = k
  · refine ⟨L, by rw [hqk]; exact zub_s, ?_⟩
    have : ∀ p ∈ zfrl, ∀ r ∈ zfrl, p.1 = r.1 → p.2 = r.2 := by decide
    rw [hL]
    exact (this q hq (k, n) hk hqk).symm
  · obtain ⟨L', h1, h2⟩ := hf q hq
    exact ⟨L', by rw [zub_n hqk]; exact h1, h2⟩
theorem zFsh_at {k n : Nat} (hf : zFsh M) (hk : (k, n) ∈ zfrl) : ∃ L : List Int32, M k = zAi L ∧ L.length = n := hf (k, n) hk
/-- push -/
theorem zpu (hl : 50 ≤ h.1.length) (hk : zKS M0 M F0 F Ts st held most ins ce lo) (hx : zTi Ts x T) (hlen : st.length < 16) (hh : held ≤ 100) (hm : most ≤ 100) (q : ∀ M' F', zKS M0 M' F0 F' Ts (T :: st) held (max most (st.length + 1 + held)) ins ce lo → zSm [10, 48] M M' → KV (zov h M')) : zCV xs (d + 1) 168 12 (some 10) [.int x] (zov h M) (zKV KV E) := by
  refine zM_cv hl hk.1.1 (zc168 hl hk.1.1 hk.1.2.1 hk.2.2.2.2.1 hx hlen hh hm (fun M' F' a1 a2 a3 a4 => zKV_v (q M' F' (zKS_g hk a1 a2 a3 a4 ((a3 52 (by decide)).trans hk.2.2.2.2.2.1) ?_ (by decide) (by decide)) a2)))
  refine fun q hq => ?_
  obtain ⟨L, h1, h2⟩ := hk.2.2.2.2.2.2.2 q hq
  have : ∀ q ∈ zfrl, q.1 ∉ [10, 48] := by decide
  exact ⟨L, (a2 q.1 (this q hq)).trans h1, h2⟩
theorem zc180 (hl : 50 ≤ h.1.length) (hc : zKC M0 F0 N fr) (hk : zKS M0 M F0 F Ts st held most ins ce lo) (hD : D ≤ 11) (hcn : zAt M 38 D = some (nI j)) (he : N[j]? = some e) (hI : zkI e = true) (hnb : zkbk (eC e) = true) (hrd : zkrd (eC e) st held = true) (hok : zkok held st) (hms : st.length + held ≤ most) (hm12 : most ≤ 12) (hB : zns Ts ≤ 200)
    (k1 : ∀ e1, N[j + 1]? = some e1 → eS e1 = 2 → ∀ M' F' Ts', zKS M0 M' F0 F' Ts' (zkop (eC e) st) (if eC e = 33 then held + 1 else held) (max most ((zkop (eC e) st).length + held)) ins ce lo → (∀ x U, zTi Ts x U → zTi Ts' x U) → zns Ts' ≤ zns Ts + 1 → zFeq D M M' → zAt M' 38 D = zAt M 38 D → zAt M' 39 D = zAt M 39 D → (∃ x, zAt M' 41 D = some x ∧ zTi Ts' x (zkat st 0)) → zAt M' 40 D = some 0 → zAt M' 45 D = some (nI (st.length - 1)) → zSv (zTi Ts') M' 44 D (st.drop 1) → Q (.inl (some (.int 1))) (zov h M'))
    (k0 : ∀ e1, N[j + 1]? = some e1 → eS e1 ≠ 2 → ∀ M' F' Ts' held' most', zKS M0 M' F0 F' Ts' (zkop (eC e) st) held' most' ins ce lo → F' 5 = .int (nI (eF e1)) → Q (.inl (some (.int 0))) (zov h M')) :
    zG xs (d + 2) (180, 0, lv_args 0 [zo (some 10), .int (nI D)], []) (zov h M) Q := by
  obtain ⟨i1, i2, i3, i4⟩ := zkI_ok hI
  have hg := hc.2.2.1
  obtain ⟨n1, n2, n3, n4, _⟩ := hg.1.2 j e he
  obtain ⟨h10, hR, hr, hx, h6⟩ := zKS_c hk hc
  have hjl := (List.getElem?_eq_some_iff.mp he).1
  have hN100 := hg.1.1
  have ht := hk.2.2.2.1
  have hs := hk.2.2.2.2.1
  have hfs := hk.2.2.2.2.2.2.2
  have hl12 := hok.1
  have cods : eC e = 33 ∨ eC e = 41 ∨ eC e = 44 ∨ eC e = 47 ∨ eC e = 49 ∨ eC e = 50 ∨ eC e = 58 ∨ eC e = 59 := by
    unfold zkbk at hnb
    simp at hnb
    omega
  have hm : 0 < eM e := by rw [i4]; rcases cods with q | q | q | q | q | q | q | q <;> rw [q] <;> decide
  have hkk := zGd_k hg he
  have hc1 := zchn_lt _ _ _ (j + 1) hkk (List.mem_of_getElem? (zchn_kid (N := N) (i := j) (k := 0) hm (by decide)))
  have hl1 := zful_lt hc1.2.2.1
  obtain ⟨e1, he1⟩ : ∃ e, N[j + 1]? = some e := ⟨_, List.getElem?_eq_getElem hl1.1⟩
  have h0 : 0 < st.length := by
    rcases cods with q | q | q | q | q | q | q | q
    · rw [q] at hrd; exact of_decide_eq_true hrd
    · rw [q] at hrd; exact (zkhs_c (k := 0) (c := 6) hrd).1
    · rw [q] at hrd; exact (zkhs_c (k := 0) (c := 7) hrd).1
    · rw [q] at hrd
      have hr2 : (zkhs st 0 8 && decide (st.length + held < 12)) = true := hrd
      exact (zkhs_c ((Bool.and_eq_true _ _).mp hr2).1).1
    · exact (zkbg_ok hok hrd (by omega)).2
    · exact (zkbg_ok hok hrd (by omega)).2
    · rw [q] at hrd; exact (zkhs_c (k := 0) (c := 1) hrd).1
    · exact (zkbg_ok hok hrd (by omega)).2
  have dl : (st.drop 1).length = st.length - 1 := List.length_drop
  obtain ⟨L38, f38, g38⟩ := zFsh_at hfs (k := 38) (n := 12) (by decide)
  obtain ⟨L40, f40, g40⟩ := zFsh_at hfs (k := 40) (n := 12) (by decide)
  obtain ⟨L41, f41, g41⟩ := zFsh_at hfs (k := 41) (n := 12) (by decide)
  obtain ⟨L44, f44, g44⟩ := zFsh_at hfs (k := 44) (n := 144) (by decide)
  obtain ⟨L45, f45, g45⟩ := zFsh_at hfs (k := 45) (n := 12) (by decide)
  rw [zAt_i f38] at hcn
  obtain ⟨a1, a2, a3, a4, Sk, a5, a6, a7⟩ := hs
  have hs : zSt M F (zTi Ts) st held most := ⟨a1, a2, a3, a4, Sk, a5, a6, a7⟩
  -- the end, with the stack that the row begins with
  have c205 : ∀ {M2 F2 Ts2}, zKS M0 M2 F0 F2 Ts2 (zkop (eC e) st) (if eC e = 33 then held + 1 else held) (max most ((zkop (eC e) st).length + held)) ins ce lo → (∀ x U, zTi Ts x U → zTi Ts2 x U) → zns Ts2 ≤ zns Ts + 1 → zFR M M2 D Ts2 (zkat st 0) (st.drop 1) → ∀ J, zw_180_205 xs (d + 2) Q J (some 10) (nI j) (zov h M2) := by
    intro M2 F2 Ts2 hk2 b1 b2 b3 J
    unfold zw_180_205
    rw [nI_1]
    obtain ⟨c1, c2, c3, c4, c5, c6, c7⟩ := b3
    rw [dl] at c6
    exact zM_cv hl hk2.1.1 (zc169 (d := d) hl hc hk2 he1 (fun z => zKI_v ⟨Or.inr rfl, k1 e1 he1 z M2 F2 Ts2 hk2 b1 b2 c1 c2 c3 c4 c5 c6 c7⟩) (fun z M3 F3 q1 q2 => zKI_v ⟨Or.inl rfl, k0 e1 he1 z M3 F3 Ts2 _ _ q1 q2⟩))
  have dep : ∀ i, ztdep (zkat st i) ≤ 9 := zkdp hok
  -- behind the copy
  have c109 : ∀ {M5 F5} (x : Int32), zTi Ts x (zkat st 0) → zKS M0 M5 F0 F5 Ts (st.drop 1) (if eC e = 33 then held + 1 else held) most ins ce lo → zFR M M5 D Ts (zkat st 0) (st.drop 1) → ∀ J, ((nI (eC e) = (49 : Int32) → zGR (some 10) 12 22 (zov h M5) fun x2 => zIA xs x2 x (zov h M5) fun x4 => ((x4 = (8 : Int32) → zGR (some 10) 12 23 (zov h M5) fun x13 => zIA xs x13 x (zov h M5) fun x15 => zw_180_161 xs (d + 2) Q J (some 10) (nI j) (nI (eC e)) x x15 (some 10) (zov h M5)) ∧ (¬ x4 = (8 : Int32) → zGR (some 10) 12 23 (zov h M5) fun x5 => zIA xs x5 x (zov h M5) fun x7 => zGR (some 10) 12 24 (zov h M5) fun x8 => zIA xs x8 x (zov h M5) fun x10 => zCV xs (d + 2) 165 12 (some 10) [Value.int (5 : Int32), Value.int x7, Value.int x10] (zov h M5) (zKI (fun x11 h12 => zw_180_161 xs (d + 2) Q J (some 10) (nI j) (nI (eC e)) x x11 (some 10) h12) (fun e h => Q (.inr e) h))))) ∧ (¬ nI (eC e) = (49 : Int32) → zw_180_164 xs (d + 2) Q J (some 10) (nI j) (nI (eC e)) x (zov h M5))) := by
    intro M5 F5 x hx hk5 hf5 J
    obtain ⟨h105, hR5, hr5, hx5, h65⟩ := zKS_c hk5 hc
    have ht5 := hk5.2.2.2.1
    refine pk_eq (eC e) 49 (fun z => ?_) (fun z => ?_)
    · -- ITER
      rw [if_neg (by omega)] at hk5 c205
      have hop : zkop (eC e) st = zkbg 49 st := by rw [z]; rfl
      have e49 : zw_180_164 xs (d + 2) Q J (some 10) (nI j) (nI (eC e)) x = zw_180_205 xs (d + 2) Q J (some 10) (nI j) ∨ True := Or.inr trivial
      have c161 : ∀ {M6 F6 Ts6 y6 T6}, zKS M0 M6 F0 F6 Ts6 (st.drop 1) held most ins ce lo → (∀ x U, zTi Ts x U → zTi Ts6 x U) → zns Ts6 ≤ zns Ts + 1 → zFR M M6 D Ts6 (zkat st 0) (st.drop 1) → zTi Ts6 y6 T6 → zkbg 49 st = T6 :: st.drop 1 → zw_180_161 xs (d + 2) Q J (some 10) (nI j) (nI (eC e)) x y6 (some 10) (zov h M6) := by
        intro M6 F6 Ts6 y6 T6 hk6 hx6 hn6 hf6 hy6 hz6
        refine zpu (d := d + 1) hl hk6 hy6 (by omega) (by omega) (by omega) (fun M7 F7 hk7 s7 => ?_)
        refine pk_eq (eC e) 47 (fun q => absurd q (by omega)) (fun _ => pk_eq (eC e) 44 (fun q => absurd q (by omega)) (fun _ => pk_eq (eC e) 47 (fun q => absurd q (by omega)) (fun _ => pk_eq (eC e) 50 (fun q => absurd q (by omega)) (fun _ => ?_))))
        refine c205 (F2 := F7) ?_ hx6 hn6 (zFR_sm hf6 s7 (by decide) (fun _ _ z => z)) J
        rw [hop, hz6, List.length_cons]
        exact hk7
      refine zTi_kind hl h105 hR5 ht5 hx (fun _ => pk_eq (ztc (zkat st 0)) 8 (fun z8 => ?_) (fun z8 => ?_))
      · refine zTi_one hl h105 hR5 ht5 hx (by omega) (fun w hw => c161 hk5 (fun _ _ z => z) (by omega) hf5 hw ?_)
        unfold zkbg
        rw [if_neg (by decide), if_neg (by omega)]
      · have h9 : ztc (zkat st 0) = 9 := by
          rw [z] at hrd
          rcases Bool.or_eq_true _ _ |>.mp hrd with w | w
          · exact absurd (zkhs_c w).2 z8
          · exact (zkhs_c w).2
        have g0 := (zkat_in hok.2 0).1.1
        have := dep 0
        have := zt1_dep (T := zkat st 0)
        have := zt2_dep (T := zkat st 0)
        refine zTi_one hl h105 hR5 ht5 hx (by omega) (fun w hw => zTi_two hl h105 hR5 ht5 hx (by omega) (fun v hv => zmk (.add (.div (.arg 5) (zt1 (zkat st 0))) (zt2 (zkat st 0))) (d := d + 1) hl hk5 (by omega) ⟨by omega, zTok_1 g0, zTok_2 g0⟩ (by show 1 + max _ _ ≤ 200; omega) hw hv (fun M6 F6 Ts6 y6 a1 a2 a3 a4 a5 a6 => c161 a1 a3 a4 (zFR_sm hf5 a6 (by decide) a3) a2 ?_)))
        unfold zkbg
        rw [if_neg (by decide), if_pos h9]
    · -- the others
      have c176 : ∀ {M6 F6 st6 m6}, zKS M0 M6 F0 F6 Ts st6 (if eC e = 33 then held + 1 else held) m6 ins ce lo → zFR M M6 D Ts (zkat st 0) (st.drop 1) → (eC e = 44 ∨ eC e = 47 ∨ eC e = 50 → zkop (eC e) st = zt1 (zkat st 0) :: st6 ∧ max m6 (st6.length + 1 + held) = max most ((zkop (eC e) st).length + held) ∧ st6.length < 16 ∧ m6 ≤ 100) → (¬ (eC e = 44 ∨ eC e = 47 ∨ eC e = 50) → zkop (eC e) st = st6 ∧ m6 = max most ((zkop (eC e) st).length + held)) → zw_180_176 xs (d + 2) Q J (some 10) (nI j) (nI (eC e)) x (zov h M6) := by
        intro M6 F6 st6 m6 hk6 hf6 hy hn
        obtain ⟨h106, hR6, hr6, hx6, h66⟩ := zKS_c hk6 hc
        have yes : (eC e = 44 ∨ eC e = 47 ∨ eC e = 50) → zw_180_194 xs (d + 2) Q J (some 10) (nI j) x (zov h M6) := by
          intro hq
          obtain ⟨q1, q2, q3, q4⟩ := hy hq
          have h5 : 5 ≤ ztc (zkat st 0) := by
            rcases hq with q | q | q
            · rw [q] at hrd; have := (zkhs_c (k := 0) (c := 7) hrd).2; omega
            · rw [q] at hrd
              have hr2 : (zkhs st 0 8 && decide (st.length + held < 12)) = true := hrd
              have := (zkhs_c ((Bool.and_eq_true _ _).mp hr2).1).2; omega
            · rw [q] at hrd; have := (zkhs_c (k := 0) (c := 8) hrd).2; omega
          rw [if_neg (by omega)] at hk6 c205
          refine zTi_one hl h106 hR6 hk6.2.2.2.1 hx h5 (fun w hw => zpu (d := d + 1) hl hk6 hw q3 (by omega) q4 (fun M7 F7 hk7 s7 => c205 (F2 := F7) ?_ (fun _ _ z => z) (by omega) (zFR_sm hf6 s7 (by decide) (fun _ _ z => z)) J))
          rw [← q2, q1]
          exact hk7
        refine pk_eq (eC e) 44 (fun q => yes (by omega)) (fun m44 => pk_eq (eC e) 47 (fun q => yes (by omega)) (fun m47 => pk_eq (eC e) 50 (fun q => yes (by omega)) (fun m50 => ?_)))
        obtain ⟨q1, q2⟩ := hn (by omega)
        refine c205 (F2 := F6) ?_ (fun _ _ z => z) (by omega) hf6 J
        rw [← q2, q1]
        exact hk6
      refine pk_eq (eC e) 47 (fun z47 => ?_) (fun z47 => ?_)
      · have h33 : eC e ≠ 33 := by omega
        have hk5' := hk5
        rw [if_neg h33] at hk5'
        have hop : zkop (eC e) st = zt1 (zkat st 0) :: st := by rw [z47]; rfl
        refine zpu (d := d + 1) hl hk5' hx (by omega) (by omega) (by omega) (fun M6 F6 hk6 s6 => ?_)
        have hcons : zkat st 0 :: st.drop 1 = st := (zdropc (k := 0) h0).symm
        rw [hcons] at hk6
        refine c176 (F6 := F6) (st6 := st) (m6 := max most ((st.drop 1).length + 1 + held)) ?_ (zFR_sm hf5 s6 (by decide) (fun _ _ z => z)) (fun _ => ⟨hop, ?_, by omega, by omega⟩) (fun q => absurd (Or.inr (Or.inl z47)) q)
        · rw [if_neg h33]; exact hk6
        · rw [hop, List.length_cons]; omega
      · refine c176 hk5 hf5 (fun q => ?_) (fun q => ?_)
        · rcases q with q | q | q
          · refine ⟨by rw [q]; rfl, ?_, by omega, by omega⟩
            rw [q]; show _ = max most ((zt1 (zkat st 0) :: st.drop 1).length + held); rw [List.length_cons]
          · omega
          · have h8 : ztc (zkat st 0) = 8 := by rw [q] at hrd; exact (zkhs_c (k := 0) (c := 8) hrd).2
            have hop : zkop (eC e) st = zt1 (zkat st 0) :: st.drop 1 := by
              rw [q]
              show zkbg 50 st = _
              unfold zkbg
              rw [if_neg (by decide), if_neg (by omega)]
            exact ⟨hop, by rw [hop, List.length_cons], by omega, by omega⟩
        · have hop : zkop (eC e) st = st.drop 1 := by
            have : eC e = 33 ∨ eC e = 41 ∨ eC e = 58 ∨ eC e = 59 := by omega
            rcases this with q | q | q | q <;> rw [q] <;> rfl
          exact ⟨hop, by rw [hop]; omega⟩
  refine zm_180
    (fun m l0 l1 l2 l3 l4 l5 h1 => ∃ x L2 k, zTi Ts x (zkat st 0) ∧ h1 = zov h (zub (zub (zub (zub (zub M 10 (zMo (zub F 49 (.int (nI (st.length - 1)))))) 41 (zAi (L41.set D x))) 40 (zAi (L40.set D 0))) 45 (zAi (L45.set D (nI (st.length - 1))))) 44 (zAi L2)) ∧ L2.length = 144 ∧ l0 = some 10 ∧ l1 = nI D ∧ l2 = nI j ∧ l3 = nI (eC e) ∧ l4 = x ∧ l5 = nI k ∧ k ≤ st.length - 1 ∧ m = st.length - 1 - k ∧ (∀ i, i < 12 * D → L2[i]? = L44[i]?) ∧ (∀ i, i < k → L2[12 * D + i]? = Sk[i]?))
    ?_ ?_
  · rintro m l0 l1 l2 l3 l4 l5 h1 ⟨x, L2, k, hx0, rfl, hL2, rfl, rfl, rfl, rfl, rfl, rfl, hk1, rfl, hlow, hcp⟩
    obtain ⟨M4, hM4⟩ : ∃ M4, zub (zub (zub (zub M 10 (zMo (zub F 49 (.int (nI (st.length - 1)))))) 41 (zAi (L41.set D l4))) 40 (zAi (L40.set D 0))) 45 (zAi (L45.set D (nI (st.length - 1)))) = M4 := ⟨_, rfl⟩
    have m4 : ∀ k, k ≠ 10 → k ≠ 41 → k ≠ 40 → k ≠ 45 → M4 k = M k := fun k q1 q2 q3 q4 => by rw [← hM4, zub_n q4, zub_n q3, zub_n q2, zub_n q1]
    have m410 : M4 10 = zMo (zub F 49 (.int (nI (st.length - 1)))) := by rw [← hM4, zub_n (by decide), zub_n (by decide), zub_n (by decide), zub_s]
    have m441 : M4 41 = zAi (L41.set D l4) := by rw [← hM4, zub_n (by decide), zub_n (by decide), zub_s]
    have m440 : M4 40 = zAi (L40.set D 0) := by rw [← hM4, zub_n (by decide), zub_s]
    have m445 : M4 45 = zAi (L45.set D (nI (st.length - 1))) := by rw [← hM4, zub_s]
    rw [hM4]
    have h105 : zub M4 44 (zAi L2) 10 = zMo (zub F 49 (.int (nI (st.length - 1)))) := by rw [zub_n (by decide)]; exact m410
    have hR5 : zRf (zub F 49 (.int (nI (st.length - 1)))) := zRf_sm hR (zSm_ub (S := [49]) zSm_refl (by decide)) (by decide)
    refine zM_gi hl h105 zub_s (pk_lt k (st.length - 1) (fun hlt => ?_) (fun hge => ?_))
    · obtain ⟨v, hv⟩ : ∃ v, Sk[k]? = some v := ⟨_, List.getElem?_eq_getElem (by omega)⟩
      refine zM_gr hl h105 (hR5 (44, 44) (by decide)) (zM_gr hl h105 (hR5 (48, 48) (by decide)) (zM_ia' (L := Sk) hl (by rw [zub_n (by decide), m4 48 (by decide) (by decide) (by decide) (by decide)]; exact a5) hv ?_))
      rw [show (12 : Int32) * nI D = nI (12 * D) from pk_mul 12 D, nI_add]
      refine zM_st' (L := L2) hl zub_s (by omega) (by omega) ?_
      intro x13 hx13
      subst hx13
      refine ⟨_, by omega, l4, L2.set (12 * D + k) v, k + 1, hx0, ?_, by rw [List.length_set]; exact hL2, rfl, rfl, rfl, rfl, rfl, nI_1 k, by omega, rfl, fun i hi => ?_, fun i hi => ?_⟩
      · rw [hM4]
        congr 1
        funext i
        unfold zub
        split <;> rfl
      · rw [zset_ne (by omega)]; exact hlow i hi
      · by_cases hik : i = k
        · subst hik; rw [zset_eq (by omega), hv]
        · rw [zset_ne (by omega)]; exact hcp i (by omega)
    · have hke : k = st.length - 1 := by omega
      subst hke
      refine zM_gi hl h105 (by rw [zub_n (by decide)]; exact a2) ?_
      obtain ⟨held', hh'⟩ : ∃ held', (if eC e = 33 then held + 1 else held) = held' := ⟨_, rfl⟩
      obtain ⟨M6, hM6⟩ : ∃ M6, zub (zub M4 44 (zAi L2)) 10 (zMo (zub (zub F 49 (.int (nI (st.length - 1)))) 50 (.int (nI held')))) = M6 := ⟨_, rfl⟩
      have m6 : ∀ k, k ≠ 10 → k ≠ 44 → M6 k = M4 k := fun k q1 q2 => by rw [← hM6, zub_n q1, zub_n q2]
      have m644 : M6 44 = zAi L2 := by rw [← hM6, zub_n (by decide), zub_s]
      have m610 : M6 10 = zMo (zub (zub F 49 (.int (nI (st.length - 1)))) 50 (.int (nI held'))) := by rw [← hM6, zub_s]
      have sM6 : zSm [10, 40, 41, 44, 45] M M6 := fun k hk => by
        simp at hk
        rw [m6 k hk.1 (by omega), m4 k hk.1 (by omega) (by omega) (by omega)]
      have sF6 : zSm [49, 50] F (zub (zub F 49 (.int (nI (st.length - 1)))) 50 (.int (nI held'))) := zSm_ub (zSm_ub zSm_refl (by decide)) (by decide)
      have fs6 : zFsh M6 := by
        have p1 := zFsh_ub hfs (k := 41) (n := 12) (L := L41.set D l4) (by decide) (by rw [List.length_set]; exact g41)
        have p2 := zFsh_ub p1 (k := 40) (n := 12) (L := L40.set D 0) (by decide) (by rw [List.length_set]; exact g40)
        have p3 := zFsh_ub p2 (k := 45) (n := 12) (L := L45.set D (nI (st.length - 1))) (by decide) (by rw [List.length_set]; exact g45)
        have p4 := zFsh_ub p3 (k := 44) (n := 144) (L := L2) (by decide) hL2
        intro q hq
        obtain ⟨L, r1, r2⟩ := p4 q hq
        refine ⟨L, ?_, r2⟩
        have hne : ∀ q ∈ zfrl, q.1 ≠ 10 := by decide
        have hn := hne q hq
        rw [← r1]
        by_cases h44 : q.1 = 44
        · rw [h44, m644, zub_s]
        · rw [m6 q.1 hn h44, zub_n h44, ← hM4]
          unfold zub
          split
          · rfl
          · split
            · rfl
            · split
              · rfl
              · first | rfl | rw [if_neg hn]
      have st6 : zSt M6 (zub (zub F 49 (.int (nI (st.length - 1)))) 50 (.int (nI held'))) (zTi Ts) (st.drop 1) held' most := by
        have q1 := zSt_drop (n := 1) (M' := M6) (F' := zub F 49 (.int (nI (st.length - 1)))) hs (by omega) (by rw [m6 48 (by decide) (by decide), m4 48 (by decide) (by decide) (by decide) (by decide)]) zub_s (zub_n (by decide)) (zub_n (by decide))
        obtain ⟨w1, w2, w3, w4⟩ := q1
        exact ⟨by rw [zub_n (by decide)]; exact w1, zub_s, by rw [zub_n (by decide)]; exact w3, w4⟩
      have hk6 : zKS M0 M6 F0 (zub (zub F 49 (.int (nI (st.length - 1)))) 50 (.int (nI held'))) Ts (st.drop 1) held' most ins ce lo := zKS_g hk m610 sM6 sF6 st6 ((sF6 52 (by decide)).trans hk.2.2.2.2.2.1) fs6 (by decide) (by decide)
      have at6 : ∀ q i, q ≠ 10 → q ≠ 41 → q ≠ 40 → q ≠ 45 → q ≠ 44 → zAt M6 q i = zAt M q i := fun q i q1 q2 q3 q4 q5 => by unfold zAt; rw [m6 q q1 q5, m4 q q1 q2 q3 q4]
      have m641 : M6 41 = zAi (L41.set D l4) := by rw [m6 41 (by decide) (by decide)]; exact m441
      have m640 : M6 40 = zAi (L40.set D 0) := by rw [m6 40 (by decide) (by decide)]; exact m440
      have m645 : M6 45 = zAi (L45.set D (nI (st.length - 1))) := by rw [m6 45 (by decide) (by decide)]; exact m445
      have fr6 : zFR M M6 D Ts (zkat st 0) (st.drop 1) := by
        refine ⟨⟨fun q hq i hi => ?_, fun q hq i hi => ?_⟩, at6 38 D (by decide) (by decide) (by decide) (by decide) (by decide), at6 39 D (by decide) (by decide) (by decide) (by decide) (by decide), ⟨l4, by rw [zAt_i m641]; exact zset_eq (by omega), hx0⟩, by rw [zAt_i m640]; exact zset_eq (by omega), by rw [zAt_i m645, dl]; exact zset_eq (by omega), fun k T hT => ?_⟩
        · simp at hq
          rcases hq with rfl | rfl | rfl | rfl | rfl | rfl
          · exact at6 38 i (by decide) (by decide) (by decide) (by decide) (by decide)
          · exact at6 39 i (by decide) (by decide) (by decide) (by decide) (by decide)
          · rw [zAt_i m640, zAt_i f40, zset_ne (by omega)]
          · rw [zAt_i m641, zAt_i f41, zset_ne (by omega)]
          · rw [zAt_i m645, zAt_i f45, zset_ne (by omega)]
          · exact at6 47 i (by decide) (by decide) (by decide) (by decide) (by decide)
        · simp at hq
          rcases hq with rfl | rfl
          · rw [zAt_i m644, zAt_i f44]; exact hlow i hi
          · exact at6 46 i (by decide) (by decide) (by decide) (by decide) (by decide)
        · have hkl := (List.getElem?_eq_some_iff.mp hT).1
          rw [List.getElem?_drop] at hT
          obtain ⟨y, b1, b2⟩ := a7 _ T hT
          refine ⟨y, ?_, b2⟩
          rw [zAt_i m644, hcp _ (by omega), dl, show st.length - 1 - 1 - k = st.length - 1 - (1 + k) by omega]
          exact b1
      have fin : ∀ J, ∀ s0 : Int32, nI held + s0 = nI held' → zw_180_109 xs (d + 2) Q J (some 10) (nI j) (nI (eC e)) l4 s0 (nI held) (some 10) (zov h (zub M4 44 (zAi L2))) := by
        intro J s0 hs0
        refine zM_pf hl h105 ?_
        rw [hs0, hM6]
        exact c109 l4 hx0 (by rw [hh']; exact hk6) fr6 J
      refine pk_eq (eC e) 33 (fun z => fin _ 1 ?_) (fun z => fin _ 0 ?_)
      · rw [← hh', if_pos z]; exact nI_1 held
      · rw [← hh', if_neg z]; exact nI_add held 0
  · refine zM_gr hl h10 (hR (38, 38) (by decide)) (zM_ia' hl f38 hcn (zM_nC hl h10 hR hr he (ztop 0 (d := d + 1) hl h10 hR hs (by decide) (fun x tx => zM_gi hl h10 a1 ?_))))
    have hx0 := zTop_at tx h0
    rw [show nI st.length - (1 : Int32) = nI (st.length - 1) from pk_sub (b := 1) (by omega)]
    have hR1 : zRf (zub F 49 (.int (nI (st.length - 1)))) := zRf_sm hR (zSm_ub (S := [49]) zSm_refl (by decide)) (by decide)
    refine zM_pf hl h10 (zM_gr hl zub_s (hR1 (41, 41) (by decide)) (zM_st' (L := L41) hl (by rw [zub_n (by decide)]; exact f41) (by omega) (by omega) ?_))
    refine zM_gr hl (by rw [zub_n (by decide)]; exact zub_s) (hR1 (40, 40) (by decide)) (zM_st' (L := L40) hl (by rw [zub_n (by decide), zub_n (by decide)]; exact f40) (by omega) (by omega) ?_)
    refine zM_gr hl (by rw [zub_n (by decide), zub_n (by decide)]; exact zub_s) (hR1 (45, 45) (by decide)) (zM_gi hl (by rw [zub_n (by decide), zub_n (by decide)]; exact zub_s) zub_s (zM_st' (L := L45) hl (by rw [zub_n (by decide), zub_n (by decide), zub_n (by decide)]; exact f45) (by omega) (by omega) ?_))
    refine ⟨_, x, L44, 0, hx0, ?_, g44, rfl, rfl, rfl, rfl, rfl, rfl, Nat.zero_le _, rfl, fun i _ => rfl, fun i hi => by omega⟩
    congr 1
    funext i
    unfold zub
    by_cases hi : i = 44
    · subst hi
      rw [if_neg (by decide), if_neg (by decide), if_neg (by decide), if_neg (by decide), if_pos rfl]
      exact f44
    · rw [if_neg hi]
end ROP
/-! the reference's check: a row of one is closed -/
def zkc1 (c : Nat) (st0 : List Term) (o : Option (List Term)) : Option (List Term) := match o with
  | none => none
  | some l => if c = 33 then some (zkat st0 0 :: l) else if c = 50 then (if l.length = st0.length ∧ l.drop 1 = st0.drop 1 then some (.div (.arg 8) (zkat l 0) :: st0.drop 1) else none) else if l = (if c = 59 then st0 else st0.drop 1) then some (st0.drop 1) else none
section RCL
variable {xs : List Value} {d : Nat} {h : zH} {M0 M M' : Nat → zE} {F0 F F' : Nat → Value} {Q : zO → zH → Prop} {Ts Ts' : List Term} {T U : Term} {N : List zNt} {fr j D l : Nat} {e : zNt} {st st' sv : List Term} {held most ins c held' most' ins' : Nat} {ce ce' : List (Nat × Nat × Nat)} {lo lo' : List (Nat × Nat)} {x y : Int32} {P : Int32 → Term → Prop} {KI : Int32 → zH → Prop} {KV : zH → Prop} {E : Nat → zH → Prop}
/-- a frame -/
def zFrm (M : Nat → zE) (D : Nat) (Ts : List Term) (j stop : Nat) (A : Term) (bs : List Term) : Prop := zAt M 38 D = some (nI j) ∧ zAt M 39 D = some (nI stop) ∧ (∃ x, zAt M 41 D = some x ∧ zTi Ts x A) ∧ zAt M 45 D = some (nI bs.length) ∧ zSv (zTi Ts) M 44 D bs ∧ bs.length ≤ 12
/-- size and held change, the frames stay -/
theorem zKS_sz {n : Nat} (hk : zKS M0 M F0 F Ts st held most ins ce lo) (hn : n ≤ st.length) : zKS M0 (zub M 10 (zMo (zub F 49 (.int (nI (st.length - n)))))) F0 (zub F 49 (.int (nI (st.length - n)))) Ts (st.drop n) held most ins ce lo := by
  refine zKS_g hk zub_s (zSm_ub (S := [10]) zSm_refl (by decide)) (zSm_ub (S := [49]) zSm_refl (by decide)) (zSt_drop hk.2.2.2.2.1 hn (zub_n (by decide)) zub_s (zub_n (by decide)) (zub_n (by decide))) ((zub_n (by decide)).trans hk.2.2.2.2.2.1) ?_ (by decide) (by decide)
  intro q hq
  obtain ⟨L, h1, h2⟩ := hk.2.2.2.2.2.2.2 q hq
  have : ∀ q ∈ zfrl, q.1 ≠ 10 := by decide
  exact ⟨L, by rw [zub_n (this q hq)]; exact h1, h2⟩
theorem zKS_hd {n : Nat} (hk : zKS M0 M F0 F Ts st held most ins ce lo) : zKS M0 (zub M 10 (zMo (zub F 50 (.int (nI n))))) F0 (zub F 50 (.int (nI n))) Ts st n most ins ce lo := by
  obtain ⟨w1, w2, w3, w4, Sk, w5, w6⟩ := hk.2.2.2.2.1
  refine zKS_g hk zub_s (zSm_ub (S := [10]) zSm_refl (by decide)) (zSm_ub (S := [50]) zSm_refl (by decide)) ⟨by rw [zub_n (by decide)]; exact w1, zub_s, by rw [zub_n (by decide)]; exact w3, w4, Sk, by rw [zub_n (by decide)]; exact w5, w6⟩ ((zub_n (by decide)).trans hk.2.2.2.2.2.1) ?_ (by decide) (by decide)
  intro q hq
  obtain ⟨L, h1, h2⟩ := hk.2.2.2.2.2.2.2 q hq
  have : ∀ q ∈ zfrl, q.1 ≠ 10 := by decide
  exact ⟨L, by rw [zub_n (this q hq)]; exact h1, h2⟩
theorem zc170a {lost : Bool} {l st0 : List Term} {stop : Nat} (hl : 50 ≤ h.1.length) (hc : zKC M0 F0 N fr) (hk : zKS M0 M F0 F Ts l held most ins ce lo) (hD : D ≤ 11) (hf : zFrm M D Ts j stop (zkat st0 0) (st0.drop 1)) (he : N[j]? = some e) (hM1 : eM e = 1) (hcd : eC e = 33 ∨ eC e = 49 ∨ eC e = 50 ∨ eC e = 59) (h0 : 0 < st0.length) (h59 : eC e = 59 → zkat st0 0 = .arg 1) (hok : lost = false → zkok held l) (hll : l.length ≤ 15) (hhd : eC e = 33 → 1 ≤ held) (hms : lost = false → l.length + held ≤ most) (hm12 : most ≤ 12) (hh12 : held ≤ 12) (hB : zns Ts ≤ 200)
    (k0 : zkc1 (eC e) st0 (if lost = true then none else some l) = none → ∀ M' F' Ts' l' held' most', zKS M0 M' F0 F' Ts' l' held' most' ins ce lo → F' 5 = .int (nI (eF e)) → Q (.inl (some (.int (-1)))) (zov h M'))
    (k1 : ∀ l', zkc1 (eC e) st0 (if lost = true then none else some l) = some l' → ∀ M' F' Ts', zKS M0 M' F0 F' Ts' l' (if eC e = 33 then held - 1 else held) (max most (l'.length + (if eC e = 33 then held - 1 else held))) ins ce lo → (∀ x U, zTi Ts x U → zTi Ts' x U) → zns Ts' ≤ zns Ts + 1 → zSm [10, 25, 26, 27, 28, 29, 48] M M' → Q (.inl (some (.int 0))) (zov h M')) :
    zG xs (d + 2) (170, 0, lv_args 0 [zo (some 10), .int (nI D), .int (zB lost)], []) (zov h M) Q := by
  have hg := hc.2.2.1
  obtain ⟨n1, n2, n3, n4, _⟩ := hg.1.2 j e he
  obtain ⟨h10, hR, hr, hx, h6⟩ := zKS_c hk hc
  have hjl := (List.getElem?_eq_some_iff.mp he).1
  have hN100 := hg.1.1
  have ht := hk.2.2.2.1
  have hs := hk.2.2.2.2.1
  have hfs := hk.2.2.2.2.2.2.2
  obtain ⟨f1, f2, ⟨x0, f3, f4⟩, f5, f6, f7⟩ := hf
  have dl : (st0.drop 1).length = st0.length - 1 := List.length_drop
  obtain ⟨L38, f38, g38⟩ := zFsh_at hfs (k := 38) (n := 12) (by decide)
  obtain ⟨L41, f41, g41⟩ := zFsh_at hfs (k := 41) (n := 12) (by decide)
  obtain ⟨L44, f44, g44⟩ := zFsh_at hfs (k := 44) (n := 144) (by decide)
  obtain ⟨L45, f45, g45⟩ := zFsh_at hfs (k := 45) (n := 12) (by decide)
  rw [zAt_i f38] at f1
  rw [zAt_i f41] at f3
  rw [zAt_i f45] at f5
  obtain ⟨more, hmo⟩ : ∃ m, (if eC e = 50 ∨ eC e = 59 then 1 else 0) = m := ⟨_, rfl⟩
  have hmo1 : more ≤ 1 := by rw [← hmo]; split <;> omega
  -- not fine
  have bad : zkc1 (eC e) st0 (if lost = true then none else some l) = none → ∀ J s6, zw_170_119 xs (d + 2) Q J (some 10) (nI j) (nI (eC e)) x0 s6 (zov h M) := by
    intro hn J s6
    exact ⟨fun _ => zbad (d := d + 1) hl hc hk he (fun M' F' a1 a2 => k0 hn M' F' Ts l held most a1 a2), fun z => absurd rfl z⟩
  -- fine
  have good : ∀ l', lost = false → zkc1 (eC e) st0 (some l) = some l' → more ≤ l.length → ∀ J, zw_170_115 xs (d + 2) Q J (some 10) (nI j) (nI (eC e)) x0 (nI more) (zov h M) := by
    intro l' hlo hz hml J
    have hokl := hok hlo
    rw [hlo] at k1
    have k1 := k1 l' hz
    have hms' := hms hlo
    refine ⟨fun z => absurd z (by decide), fun _ => ztop 0 (d := d + 1) hl h10 hR hs (by decide) (fun t tt => zM_gi hl h10 hs.1 ?_)⟩
    rw [pk_sub hml]
    refine zM_pf hl h10 ?_
    have hk1 := zKS_sz hk hml
    have hs1 := hk1.2.2.2.2.1
    have hR1 := hk1.1.2.1
    refine zM_gi hl hk1.1.1 hs1.2.1 ?_
    by_cases h33 : eC e = 33
    · -- DIP
      have hm0 : more = 0 := by rw [← hmo, if_neg (by omega)]
      subst hm0
      rw [List.drop_zero] at hk1
      rw [if_pos h33] at k1
      have hl' : l' = zkat st0 0 :: l := by
        unfold zkc1 at hz
        dsimp only at hz
        rw [if_pos h33] at hz
        exact (Option.some.inj hz).symm
      subst hl'
      have hh := hhd h33
      refine ⟨fun _ => zM_pf hl hk1.1.1 ?_, fun z => absurd (by rw [h33]; rfl) z⟩
      rw [show nI held - (1 : Int32) = nI (held - 1) from pk_sub (b := 1) hh]
      have hk2 := zKS_hd (n := held - 1) hk1
      refine ⟨fun _ => zpu (d := d + 1) hl hk2 f4 (by omega) (by omega) (by omega) (fun M3 F3 hk3 s3 => ⟨fun z => absurd ((nI_eq (a := eC e) (b := 50) (by omega) (by decide)).mp z) (by omega), fun _ => ?_⟩), fun z => absurd (by rw [h33]; rfl) z⟩
      refine k1 M3 F3 Ts ?_ (fun _ _ z => z) (by omega) ?_
      · rw [List.length_cons]; exact hk3
      · exact zSm_trans (zSm_ub (S := [10]) (zSm_ub (S := [10]) zSm_refl (by decide)) (by decide)) s3 (by decide) (by decide)
    · rw [if_neg h33] at k1
      refine ⟨fun z => absurd ((nI_eq (a := eC e) (b := 33) (by omega) (by decide)).mp z) h33, fun _ => zM_pf hl hk1.1.1 ?_⟩
      rw [show nI held - (0 : Int32) = nI held from pk_sub (b := 0) (by omega)]
      have hk2 := zKS_hd (n := held) hk1
      refine ⟨fun z => absurd ((nI_eq (a := eC e) (b := 33) (by omega) (by decide)).mp z) h33, fun _ => ?_⟩
      have s2 : zSm [10] M (zub (zub M 10 (zMo (zub F 49 (.int (nI (l.length - more)))))) 10 (zMo (zub (zub F 49 (.int (nI (l.length - more)))) 50 (.int (nI held))))) := zSm_ub (zSm_ub zSm_refl (by decide)) (by decide)
      refine pk_eq (eC e) 50 (fun h50 => ?_) (fun h50 => ?_)
      · have hm1 : more = 1 := by rw [← hmo, if_pos (by omega)]
        subst hm1
        have hq : (l.length = st0.length ∧ l.drop 1 = st0.drop 1) ∧ l' = .div (.arg 8) (zkat l 0) :: st0.drop 1 := by
          unfold zkc1 at hz
          dsimp only at hz
          rw [if_neg h33, if_pos h50] at hz
          by_cases hq : l.length = st0.length ∧ l.drop 1 = st0.drop 1
          · rw [if_pos hq] at hz; exact ⟨hq, (Option.some.inj hz).symm⟩
          · rw [if_neg hq] at hz; cases hz
        obtain ⟨⟨hq1, hq2⟩, rfl⟩ := hq
        have d0 := (zkat_in hokl.2 0)
        refine zmk (.div (.arg 8) (zkat l 0)) (d := d + 1) hl hk2 (by omega) ⟨by omega, d0.1.1⟩ (by have := d0.2; show 1 + _ ≤ 200; omega) (zTop_at tt (by omega)) rfl (fun M3 F3 Ts3 y3 a1 a2 a3 a4 a5 a6 => zpu (d := d + 1) hl a1 a2 (by rw [List.length_drop]; omega) (by omega) (by omega) (fun M4 F4 hk4 s4 => ?_))
        refine k1 M4 F4 Ts3 ?_ a3 a4 (zSm_trans (zSm_trans (U := [10, 25, 26, 27, 28, 29]) s2 a6 (by decide) (by decide)) s4 (by decide) (by decide))
        rw [List.length_cons, ← hq2]
        exact hk4
      · have hq : l = (if eC e = 59 then st0 else st0.drop 1) ∧ l' = st0.drop 1 := by
          unfold zkc1 at hz
          dsimp only at hz
          rw [if_neg h33, if_neg h50] at hz
          by_cases hq : l = (if eC e = 59 then st0 else st0.drop 1)
          · rw [if_pos hq] at hz; exact ⟨hq, (Option.some.inj hz).symm⟩
          · rw [if_neg hq] at hz; cases hz
        obtain ⟨hq1, rfl⟩ := hq
        have hld : l.drop more = st0.drop 1 := by
          by_cases h59' : eC e = 59
          · rw [if_pos h59'] at hq1
            rw [hq1, ← hmo, if_pos (by omega)]
          · rw [if_neg h59'] at hq1
            rw [hq1, ← hmo, if_neg (by omega)]
            rfl
        refine k1 _ (zub (zub F 49 (.int (nI (l.length - more)))) 50 (.int (nI held))) Ts ?_ (fun _ _ z => z) (by omega) (zSm_mono s2 (by decide))
        rw [hld] at hk2
        have hle : (st0.drop 1).length ≤ l.length := by rw [← hld, List.length_drop]; omega
        rw [show max most ((st0.drop 1).length + held) = most by omega]
        exact hk2
  have hcl : zkc1 (eC e) st0 (some l) = if eC e = 33 then some (zkat st0 0 :: l) else if eC e = 50 then (if l.length = st0.length ∧ l.drop 1 = st0.drop 1 then some (.div (.arg 8) (zkat l 0) :: st0.drop 1) else none) else if l = (if eC e = 59 then st0 else st0.drop 1) then some (st0.drop 1) else none := rfl
  have c52 : ∀ J, zw_170_52 xs (d + 2) Q J (some 10) (nI D) (zB lost) (nI j) (nI (eC e)) x0 (nI more) (zov h M) := by
    intro J
    cases lost with
    | true => exact ⟨fun z => absurd z (by decide), fun _ => bad rfl J _⟩
    | false =>
      have hokl := hok rfl
      refine ⟨fun _ => ?_, fun z => absurd rfl z⟩
      by_cases h33 : eC e = 33
      · rw [if_pos h33] at hcl
        refine ⟨fun _ => ⟨fun z => absurd ((nI_eq (a := eC e) (b := 59) (by omega) (by decide)).mp z) (by omega), fun _ => good _ rfl hcl (by rw [← hmo, if_neg (by omega)]; omega) J⟩, fun z => absurd (by rw [h33]; rfl) z⟩
      · rw [if_neg h33] at hcl
        refine ⟨fun z => absurd ((nI_eq (a := eC e) (b := 33) (by omega) (by decide)).mp z) h33, fun _ => zM_gi hl h10 hs.1 (zM_gr hl h10 (hR (45, 45) (by decide)) (zM_ia' hl f45 f5 ?_))⟩
        rw [nI_add]
        have h50n : eC e = 50 → more = 1 := fun z => by rw [← hmo, if_pos (by omega)]
        have h59n : eC e = 59 → more = 1 := fun z => by rw [← hmo, if_pos (by omega)]
        have h49n : eC e = 49 → more = 0 := fun z => by rw [← hmo, if_neg (by omega)]
        refine pk_eq l.length ((st0.drop 1).length + more) (fun hlen => ?_) (fun hlen => bad ?_ J _)
        · refine zM_gr hl h10 (hR (44, 44) (by decide)) (zM_gr hl h10 (hR (45, 45) (by decide)) (zM_ia' hl f45 f5 (zM_cv hl h10 (zc171 hl h10 hR (by decide) (by decide) ht.2.2.1 hs f44 f6 hD (by omega) (zKI_v ?_)))))
          rw [show l.length - (st0.drop 1).length = more by omega]
          refine ⟨fun z => bad ?_ J _, fun z => ?_⟩
          · have hne := of_decide_eq_false (zB_0.mp z)
            show zkc1 (eC e) st0 (some l) = none
            rw [hcl]
            by_cases h50 : eC e = 50
            · rw [if_pos h50, if_neg (fun q => hne (by rw [h50n h50]; exact q.2))]
            · rw [if_neg h50, if_neg (fun q => hne ?_)]
              by_cases h59' : eC e = 59
              · rw [if_pos h59'] at q; rw [h59n h59', q]
              · rw [if_neg h59'] at q; rw [h49n (by omega), q]; rfl
          · have heq := of_decide_eq_true (zBt z)
            refine pk_eq (eC e) 59 (fun h59' => ?_) (fun h59' => ?_)
            · have hm1 := h59n h59'
              rw [if_neg (by omega), if_pos h59'] at hcl
              refine zis 0 1 (d := d) hl h10 hR ht hs (by decide) (by decide) ⟨fun z2 => bad ?_ J _, fun z2 => ?_⟩
              · show zkc1 (eC e) st0 (some l) = none
                rw [hcl, if_neg (fun q => ?_)]
                have := zB_0.mp z2
                rw [q] at this
                unfold zkhs at this
                rw [h59 h59', decide_eq_true h0] at this
                cases this
              · obtain ⟨q1, q2⟩ := zkhs_c (zBt z2)
                have hq : l = st0 := by
                  have e1 := zdropc (st := l) (k := 0) (by omega)
                  have e2 := zdropc (st := st0) (k := 0) h0
                  rw [List.drop_zero] at e1 e2
                  rw [e1, e2, h59 h59']
                  rw [hm1] at heq
                  rw [heq, zarg_c (zkat_in hokl.2 0).1.1 (by omega), q2]
                rw [if_pos hq] at hcl
                exact good _ rfl hcl (by omega) J
            · by_cases h50 : eC e = 50
              · have hm1 := h50n h50
                rw [hm1] at heq
                rw [if_pos h50, if_pos ⟨by omega, heq⟩] at hcl
                exact good _ rfl hcl (by omega) J
              · have hm0 := h49n (by omega)
                rw [hm0, List.drop_zero] at heq
                rw [if_neg h50, if_neg h59', if_pos heq] at hcl
                exact good _ rfl hcl (by omega) J
        · show zkc1 (eC e) st0 (some l) = none
          rw [hcl]
          by_cases h50 : eC e = 50
          · rw [if_pos h50, if_neg (fun q => hlen (by rw [h50n h50, dl, q.1]; omega))]
          · rw [if_neg h50, if_neg (fun q => hlen ?_)]
            by_cases h59' : eC e = 59
            · rw [if_pos h59'] at q; rw [h59n h59', dl, q]; omega
            · rw [if_neg h59'] at q; rw [h49n (by omega), q]; rfl
  refine zm_170 (fun _ _ _ _ _ _ _ _ => False) (fun _ _ _ _ _ _ _ _ hf => hf.elim) (zM_gr hl h10 (hR (38, 38) (by decide)) (zM_ia' hl f38 f1 (zM_nC hl h10 hR hr he (zM_gr hl h10 (hR (41, 41) (by decide)) (zM_ia' hl f41 f3 (zM_nM hl h10 hR hr he ?_))))))
  rw [hM1]
  refine ⟨fun _ => ?_, fun z => absurd rfl z⟩
  refine pk_eq (eC e) 50 (fun z => ?_) (fun z => pk_eq (eC e) 59 (fun z2 => ?_) (fun z2 => ?_))
  · have : more = 1 := by rw [← hmo, if_pos (by omega)]
    rw [this] at c52
    exact c52 _
  · have : more = 1 := by rw [← hmo, if_pos (by omega)]
    rw [this] at c52
    exact c52 _
  · have : more = 0 := by rw [← hmo, if_neg (by omega)]
    rw [this] at c52
    exact c52 _
end RCL
/-! the reference's check: a row of two is closed -/
/-- the size that is kept of the first row's end -/
def zas (o : Option (List Term)) : Int32 := match o with
  | none => -1
  | some l => nI l.length
section RCL2
variable {xs : List Value} {d : Nat} {h : zH} {M0 M M' : Nat → zE} {F0 F F' : Nat → Value} {Q : zO → zH → Prop} {Ts Ts' : List Term} {T U : Term} {N : List zNt} {fr j D : Nat} {e : zNt} {st st' sv : List Term} {held most ins c held' most' ins' : Nat} {ce ce' : List (Nat × Nat × Nat)} {lo lo' : List (Nat × Nat)} {x y : Int32}
theorem zKS_st {S T : List Nat} (hk : zKS M0 M F0 F Ts st held most ins ce lo) (h10 : M' 10 = zMo F') (hM : zSm S M M') (hF : zSm T F F') (hst : zSt M' F' (zTi Ts) st' held' most') (hS : (S.all fun q => [10, 48].contains q) = true) (hT : (T.all fun q => [49, 50, 51].contains q) = true) : zKS M0 M' F0 F' Ts st' held' most' ins ce lo := by
  have sM : zSm [10, 48] M M' := zSm_mono hM (fun k hk => List.contains_iff_mem.mp (List.all_eq_true.mp hS k hk))
  have sF : zSm [49, 50, 51] F F' := zSm_mono hF (fun k hk => List.contains_iff_mem.mp (List.all_eq_true.mp hT k hk))
  refine zKS_g hk h10 sM sF hst ((sF 52 (by decide)).trans hk.2.2.2.2.2.1) ?_ (by decide) (by decide)
  intro q hq
  obtain ⟨L, h1, h2⟩ := hk.2.2.2.2.2.2.2 q hq
  have : ∀ q ∈ zfrl, q.1 ∉ [10, 48] := by decide
  exact ⟨L, (sM q.1 (this q hq)).trans h1, h2⟩
theorem zc170b {lost : Bool} {l st0 : List Term} {stop : Nat} (hl : 50 ≤ h.1.length) (hc : zKC M0 F0 N fr) (hk : zKS M0 M F0 F Ts l held most ins ce lo) (hD : D ≤ 11) (hf : zFrm M D Ts j stop (zkat st0 0) (st0.drop 1)) (h40 : zAt M 40 D = some 0) (he : N[j]? = some e) (hM2 : eM e = 2) (hcd : eC e = 58 ∨ eC e = 41 ∨ eC e = 44 ∨ eC e = 47) (h41 : eC e = 41 → 5 ≤ ztc (zkat st0 0)) (h44 : eC e = 44 → ztc (zkat st0 0) = 7) (hll : l.length ≤ 12) (hl0 : st0.length ≤ 12) (h0 : 0 < st0.length) (hms : st0.length + held ≤ most) (hm12 : most ≤ 12) (hh12 : held ≤ 12)
    (k1 : ∀ e2, N[znx N (j + 1)]? = some e2 → eS e2 = 2 → ∀ M' F', zKS M0 M' F0 F' Ts (zkf2 (eC e) st0) held (max most ((zkf2 (eC e) st0).length + held)) ins ce lo → zFeq D M M' → zFrm M' D Ts j stop (zkat st0 0) (st0.drop 1) → zAt M' 40 D = some 1 → zAt M' 47 D = some (if lost = true then -1 else nI l.length) → zSv (zTi Ts) M' 46 D l → Q (.inl (some (.int 1))) (zov h M'))
    (k0 : ∀ e2, N[znx N (j + 1)]? = some e2 → eS e2 ≠ 2 → ∀ M' F' l' most', zKS M0 M' F0 F' Ts l' held most' ins ce lo → F' 5 = .int (nI (eF e2)) → Q (.inl (some (.int (-1)))) (zov h M')) :
    zG xs (d + 2) (170, 0, lv_args 0 [zo (some 10), .int (nI D), .int (zB lost)], []) (zov h M) Q := by
  have hg := hc.2.2.1
  obtain ⟨n1, n2, n3, n4, _⟩ := hg.1.2 j e he
  obtain ⟨h10, hR, hr, hx, h6⟩ := zKS_c hk hc
  have hjl := (List.getElem?_eq_some_iff.mp he).1
  have hN100 := hg.1.1
  have ht := hk.2.2.2.1
  have hs := hk.2.2.2.2.1
  have hfs := hk.2.2.2.2.2.2.2
  obtain ⟨f1, f2, ⟨x0, f3, f4⟩, f5, f6, f7⟩ := hf
  have dl : (st0.drop 1).length = st0.length - 1 := List.length_drop
  have hkk := zGd_k hg he
  have hc2 := zchn_lt _ _ _ (znx N (j + 1)) hkk (List.mem_of_getElem? (zchn_kid (N := N) (i := j) (k := 1) (by omega) (by decide)))
  have hl2 := zful_lt hc2.2.2.1
  have hj1 := znx_ge (N := N) (i := j + 1)
  obtain ⟨e2, he2⟩ : ∃ e, N[znx N (j + 1)]? = some e := ⟨_, List.getElem?_eq_getElem hl2.1⟩
  obtain ⟨L38, f38, g38⟩ := zFsh_at hfs (k := 38) (n := 12) (by decide)
  obtain ⟨L40, f40, g40⟩ := zFsh_at hfs (k := 40) (n := 12) (by decide)
  obtain ⟨L41, f41, g41⟩ := zFsh_at hfs (k := 41) (n := 12) (by decide)
  obtain ⟨L44, f44, g44⟩ := zFsh_at hfs (k := 44) (n := 144) (by decide)
  obtain ⟨L45, f45, g45⟩ := zFsh_at hfs (k := 45) (n := 12) (by decide)
  obtain ⟨L46, f46, g46⟩ := zFsh_at hfs (k := 46) (n := 144) (by decide)
  obtain ⟨L47, f47, g47⟩ := zFsh_at hfs (k := 47) (n := 12) (by decide)
  rw [zAt_i f38] at f1
  rw [zAt_i f41] at f3
  rw [zAt_i f45] at f5
  rw [zAt_i f40] at h40
  obtain ⟨a1, a2, a3, a4, Sk, a5, a6, a7⟩ := hs
  have hs : zSt M F (zTi Ts) l held most := ⟨a1, a2, a3, a4, Sk, a5, a6, a7⟩
  obtain ⟨as, has⟩ : ∃ as : Int32, (if lost = true then -1 else nI l.length) = as := ⟨_, rfl⟩
  obtain ⟨M2, hM2'⟩ : ∃ M2, zub (zub M 40 (zAi (L40.set D 1))) 47 (zAi (L47.set D as)) = M2 := ⟨_, rfl⟩
  have m2 : ∀ k, k ≠ 40 → k ≠ 47 → M2 k = M k := fun k q1 q2 => by rw [← hM2', zub_n q2, zub_n q1]
  have m240 : M2 40 = zAi (L40.set D 1) := by rw [← hM2', zub_n (by decide), zub_s]
  have m247 : M2 47 = zAi (L47.set D as) := by rw [← hM2', zub_s]
  -- behind the copy
  have c340 : ∀ {L2 : List Int32} {M4 F4}, L2.length = 144 → (∀ i, i < 12 * D → L2[i]? = L46[i]?) → (∀ i, i < l.length → L2[12 * D + i]? = Sk[i]?) → zSm [10, 48] (zub M2 46 (zAi L2)) M4 → zKS M0 M4 F0 F4 Ts (zkf2 (eC e) st0) held (max most ((zkf2 (eC e) st0).length + held)) ins ce lo → ∀ J, zw_170_340 xs (d + 2) Q J (some 10) (nI j) (zov h M4) := by
    intro L2 M4 F4 hL2 hlow hcp s4 hk4 J
    obtain ⟨h104, hR4, hr4, hx4, h64⟩ := zKS_c hk4 hc
    have m4 : ∀ k, k ≠ 10 → k ≠ 48 → k ≠ 46 → k ≠ 40 → k ≠ 47 → M4 k = M k := fun k q1 q2 q3 q4 q5 => by rw [s4 k (by simp; omega), zub_n q3, m2 k q4 q5]
    have at4 : ∀ k i, k ≠ 10 → k ≠ 48 → k ≠ 46 → k ≠ 40 → k ≠ 47 → zAt M4 k i = zAt M k i := fun k i q1 q2 q3 q4 q5 => by unfold zAt; rw [m4 k q1 q2 q3 q4 q5]
    have m440 : M4 40 = zAi (L40.set D 1) := by rw [s4 40 (by decide), zub_n (by decide)]; exact m240
    have m447 : M4 47 = zAi (L47.set D as) := by rw [s4 47 (by decide), zub_n (by decide)]; exact m247
    have m446 : M4 46 = zAi L2 := by rw [s4 46 (by decide)]; exact zub_s
    refine zM_cv hl h104 (zc164 hl h104 hR4 hx4 (by omega) hN100 (zKI_v (zM_cv hl h104 (zc169 (d := d) hl hc hk4 he2 (fun z => zKI_v ⟨fun w => absurd w (by decide), fun _ => ?_⟩) (fun z M5 F5 q1 q2 => zKI_v ⟨fun _ => k0 e2 he2 z M5 F5 _ _ q1 q2, fun w => absurd rfl w⟩)))))
    refine k1 e2 he2 z M4 F4 hk4 ⟨fun q hq i hi => ?_, fun q hq i hi => ?_⟩ ⟨?_, ?_, ⟨x0, ?_, f4⟩, ?_, fun k T hT => ?_, f7⟩ ?_ ?_ (fun k T hT => ?_)
    · simp at hq
      rcases hq with rfl | rfl | rfl | rfl | rfl | rfl
      · exact at4 38 i (by decide) (by decide) (by decide) (by decide) (by decide)
      · exact at4 39 i (by decide) (by decide) (by decide) (by decide) (by decide)
      · rw [zAt_i m440, zAt_i f40, zset_ne (by omega)]
      · exact at4 41 i (by decide) (by decide) (by decide) (by decide) (by decide)
      · exact at4 45 i (by decide) (by decide) (by decide) (by decide) (by decide)
      · rw [zAt_i m447, zAt_i f47, zset_ne (by omega)]
    · simp at hq
      rcases hq with rfl | rfl
      · exact at4 44 i (by decide) (by decide) (by decide) (by decide) (by decide)
      · rw [zAt_i m446, zAt_i f46]; exact hlow i hi
    · rw [at4 38 D (by decide) (by decide) (by decide) (by decide) (by decide), zAt_i f38]; exact f1
    · rw [at4 39 D (by decide) (by decide) (by decide) (by decide) (by decide)]; exact f2
    · rw [at4 41 D (by decide) (by decide) (by decide) (by decide) (by decide), zAt_i f41]; exact f3
    · rw [at4 45 D (by decide) (by decide) (by decide) (by decide) (by decide), zAt_i f45]; exact f5
    · obtain ⟨y, b1, b2⟩ := f6 k T hT
      exact ⟨y, by rw [at4 44 _ (by decide) (by decide) (by decide) (by decide) (by decide)]; exact b1, b2⟩
    · rw [zAt_i m440]; exact zset_eq (by omega)
    · rw [zAt_i m447, has]; exact zset_eq (by omega)
    · have hkl := (List.getElem?_eq_some_iff.mp hT).1
      obtain ⟨y, b1, b2⟩ := a7 _ T hT
      refine ⟨y, ?_, b2⟩
      rw [zAt_i m446, hcp _ (by omega)]
      exact b1
  refine zm_170
    (fun m l0 l1 l3 l4 l5 l6 h1 => ∃ L2 k, h1 = zov h (zub M2 46 (zAi L2)) ∧ L2.length = 144 ∧ l0 = some 10 ∧ l1 = nI D ∧ l3 = nI j ∧ l4 = nI (eC e) ∧ l5 = x0 ∧ l6 = nI k ∧ k ≤ l.length ∧ m = l.length - k ∧ (∀ i, i < 12 * D → L2[i]? = L46[i]?) ∧ (∀ i, i < k → L2[12 * D + i]? = Sk[i]?))
    ?_ ?_
  · rintro m l0 l1 l3 l4 l5 l6 h1 ⟨L2, k, rfl, hL2, rfl, rfl, rfl, rfl, rfl, rfl, hk1, rfl, hlow, hcp⟩
    have h103 : zub M2 46 (zAi L2) 10 = zMo F := by rw [zub_n (by decide), m2 10 (by decide) (by decide)]; exact h10
    refine zM_gi hl h103 a1 (pk_lt k l.length (fun hlt => ?_) (fun hge => ?_))
    · obtain ⟨v, hv⟩ : ∃ v, Sk[k]? = some v := ⟨_, List.getElem?_eq_getElem (by omega)⟩
      refine zM_gr hl h103 (hR (46, 46) (by decide)) (zM_gr hl h103 (hR (48, 48) (by decide)) (zM_ia' (L := Sk) hl (by rw [zub_n (by decide), m2 48 (by decide) (by decide)]; exact a5) hv ?_))
      rw [show (12 : Int32) * nI D = nI (12 * D) from pk_mul 12 D, nI_add]
      refine zM_st' (L := L2) hl zub_s (by omega) (by omega) ?_
      intro x18 hx18
      subst hx18
      refine ⟨_, by omega, L2.set (12 * D + k) v, k + 1, ?_, by rw [List.length_set]; exact hL2, rfl, rfl, rfl, rfl, rfl, nI_1 k, by omega, rfl, fun i hi => ?_, fun i hi => ?_⟩
      · congr 1
        funext i
        unfold zub
        split <;> rfl
      · rw [zset_ne (by omega)]; exact hlow i hi
      · by_cases hik : i = k
        · subst hik; rw [zset_eq (by omega), hv]
        · rw [zset_ne (by omega)]; exact hcp i (by omega)
    · have hke : k = l.length := by omega
      subst hke
      have hsv3 : zSv (zTi Ts) (zub M2 46 (zAi L2)) 44 D (st0.drop 1) := fun k T hT => by
        obtain ⟨y, b1, b2⟩ := f6 k T hT
        refine ⟨y, ?_, b2⟩
        unfold zAt
        rw [zub_n (by decide), m2 44 (by decide) (by decide)]
        exact b1
      have hs3 : zSt (zub M2 46 (zAi L2)) F (zTi Ts) l held most := ⟨a1, a2, a3, a4, Sk, by rw [zub_n (by decide), m2 48 (by decide) (by decide)]; exact a5, a6, a7⟩
      have fs3 : zFsh (zub M2 46 (zAi L2)) := by
        rw [← hM2']
        exact zFsh_ub (zFsh_ub (zFsh_ub hfs (k := 40) (n := 12) (by decide) (by rw [List.length_set]; exact g40)) (k := 47) (n := 12) (by decide) (by rw [List.length_set]; exact g47)) (k := 46) (n := 144) (by decide) hL2
      have sM3 : zSm [40, 46, 47] M (zub M2 46 (zAi L2)) := fun k hk => by
        simp at hk
        rw [zub_n (by omega), m2 k (by omega) (by omega)]
      have hk3 : zKS M0 (zub M2 46 (zAi L2)) F0 F Ts l held most ins ce lo := zKS_g hk h103 sM3 zSm_refl hs3 hk.2.2.2.2.2.1 fs3 (by decide) (T := []) (by decide)
      refine zM_gr hl h103 (hR (44, 44) (by decide)) (zM_gr hl h103 (hR (45, 45) (by decide)) (zM_ia' (L := L45) hl (by rw [zub_n (by decide), m2 45 (by decide) (by decide)]; exact f45) f5 (zM_cv hl h103 (zc174 (L := L44) hl h103 hR (by decide) (by decide) (by decide) (by decide) hs3 (by rw [zub_n (by decide), m2 44 (by decide) (by decide)]; exact f44) hsv3 hD f7 (fun M4 F4 q1 q2 q3 q4 => zKV_v ?_)))))
      have hk4 : zKS M0 M4 F0 F4 Ts (st0.drop 1) held most ins ce lo := zKS_st hk3 q1 q2 q3 q4 (by decide) (by decide)
      obtain ⟨h104, hR4, hr4, hx4, h64⟩ := zKS_c hk4 hc
      have push : ∀ {T y}, zTi Ts y T → zkf2 (eC e) st0 = T :: st0.drop 1 → ∀ J, zw_170_337 xs (d + 2) Q J (some 10) (nI j) y (some 10) (zov h M4) := by
        intro T y hy hz J
        refine zpu (d := d + 1) hl hk4 hy (by omega) (by omega) (by omega) (fun M5 F5 hk5 s5 => ?_)
        refine c340 (F4 := F5) hL2 hlow (fun i hi => hcp i hi) (zSm_t q2 s5) ?_ J
        rw [hz, List.length_cons]
        exact hk5
      have nopush : zkf2 (eC e) st0 = st0.drop 1 → ∀ J, zw_170_340 xs (d + 2) Q J (some 10) (nI j) (zov h M4) := by
        intro hz J
        refine c340 (F4 := F4) hL2 hlow (fun i hi => hcp i hi) q2 ?_ J
        rw [hz, show max most ((st0.drop 1).length + held) = most by omega]
        exact hk4
      refine pk_eq (eC e) 41 (fun z => pk_eq (eC e) 41 (fun _ => ?_) (fun w => absurd z w)) (fun z => pk_eq (eC e) 44 (fun z2 => pk_eq (eC e) 41 (fun w => absurd w z) (fun _ => ?_)) (fun z2 => nopush ?_ _))
      · exact zTi_one hl h104 hR4 hk4.2.2.2.1 f4 (h41 z) (fun w hw => push hw (by rw [z]; rfl) _)
      · exact zTi_two hl h104 hR4 hk4.2.2.2.1 f4 (by have := h44 z2; omega) (fun w hw => push hw (by rw [z2]; rfl) _)
      · have : eC e = 58 ∨ eC e = 47 := by omega
        rcases this with q | q <;> rw [q] <;> rfl
  · refine zM_gr hl h10 (hR (38, 38) (by decide)) (zM_ia' hl f38 f1 (zM_nC hl h10 hR hr he (zM_gr hl h10 (hR (41, 41) (by decide)) (zM_ia' hl f41 f3 (zM_nM hl h10 hR hr he ?_)))))
    rw [hM2]
    refine ⟨fun z => absurd z (by decide), fun _ => zM_gr hl h10 (hR (40, 40) (by decide)) (zM_ia' hl f40 h40 ⟨fun _ => zM_gr hl h10 (hR (40, 40) (by decide)) (zM_st' (L := L40) hl f40 (by omega) (by omega) ?_), fun z => absurd rfl z⟩)⟩
    have h101 : zub M 40 (zAi (L40.set D 1)) 10 = zMo F := by rw [zub_n (by decide)]; exact h10
    have fin : ∀ J : zP → Int32 → Int32 → Int32 → Int32 → Int32 → zH → Prop, J (some 10) (nI D) (nI j) (nI (eC e)) x0 0 (zov h M2) → ∀ s0, s0 = as → zw_170_245 xs (d + 2) Q J (some 10) (nI D) (nI j) (nI (eC e)) x0 s0 (nI D) (some 47) (zov h (zub M 40 (zAi (L40.set D 1)))) := by
      intro J hJ s0 hs0
      refine zM_st' (L := L47) hl (by rw [zub_n (by decide)]; exact f47) (by omega) (by omega) ?_
      rw [hs0, hM2']
      exact hJ
    have J0 : ∃ n1, ∃ L2 k, zov h M2 = zov h (zub M2 46 (zAi L2)) ∧ L2.length = 144 ∧ (some 10 : zP) = some 10 ∧ nI D = nI D ∧ nI j = nI j ∧ nI (eC e) = nI (eC e) ∧ x0 = x0 ∧ (0 : Int32) = nI k ∧ k ≤ l.length ∧ n1 = l.length - k ∧ (∀ i, i < 12 * D → L2[i]? = L46[i]?) ∧ (∀ i, i < k → L2[12 * D + i]? = Sk[i]?) := by
      refine ⟨_, L46, 0, ?_, g46, rfl, rfl, rfl, rfl, rfl, rfl, Nat.zero_le _, rfl, fun _ _ => rfl, fun i hi => by omega⟩
      congr 1
      funext i
      unfold zub
      by_cases hi : i = 46
      · subst hi; rw [if_pos rfl, m2 46 (by decide) (by decide)]; exact f46
      · rw [if_neg hi]
    refine zM_gr hl h101 (hR (47, 47) (by decide)) ?_
    cases lost with
    | false => exact ⟨fun _ => zM_gi hl h101 a1 (fin _ J0 _ (by rw [← has]; rfl)), fun z => absurd rfl z⟩
    | true => exact ⟨fun z => absurd z (by decide), fun _ => fin _ J0 _ (by rw [← has]; rfl)⟩
theorem zc170c {lost : Bool} {l : List Term} {o1 : Option (List Term)} {stop : Nat} {A : Term} {bs : List Term} (hl : 50 ≤ h.1.length) (hc : zKC M0 F0 N fr) (hk : zKS M0 M F0 F Ts l held most ins ce lo) (hD : D ≤ 11) (hf : zFrm M D Ts j stop A bs) (h40 : zAt M 40 D = some 1) (h47 : zAt M 47 D = some (zas o1)) (h46 : ∀ l1, o1 = some l1 → zSv (zTi Ts) M 46 D l1 ∧ l1.length + held ≤ most) (he : N[j]? = some e) (hM2 : eM e = 2) (hms : lost = false → l.length + held ≤ most) (hll : l.length ≤ 12) (hm12 : most ≤ 12)
    (k0 : (∃ l1, o1 = some l1 ∧ lost = false ∧ l1 ≠ l) → ∀ M' F', zKS M0 M' F0 F' Ts l held most ins ce lo → F' 5 = .int (nI (eF e)) → Q (.inl (some (.int (-1)))) (zov h M'))
    (k1 : ∀ l', (lost = false ∧ l' = l ∧ (o1 = none ∨ o1 = some l)) ∨ (lost = true ∧ o1 = some l') → ∀ M' F', zKS M0 M' F0 F' Ts l' held most ins ce lo → zSm [10, 48] M M' → Q (.inl (some (.int 0))) (zov h M'))
    (k2 : lost = true → o1 = none → Q (.inl (some (.int 2))) (zov h M)) :
    zG xs (d + 2) (170, 0, lv_args 0 [zo (some 10), .int (nI D), .int (zB lost)], []) (zov h M) Q := by
  have hg := hc.2.2.1
  obtain ⟨n1, n2, n3, n4, _⟩ := hg.1.2 j e he
  obtain ⟨h10, hR, hr, hx, h6⟩ := zKS_c hk hc
  have hjl := (List.getElem?_eq_some_iff.mp he).1
  have hN100 := hg.1.1
  have ht := hk.2.2.2.1
  have hs := hk.2.2.2.2.1
  have hfs := hk.2.2.2.2.2.2.2
  obtain ⟨f1, f2, ⟨x0, f3, f4⟩, f5, f6, f7⟩ := hf
  obtain ⟨L38, f38, g38⟩ := zFsh_at hfs (k := 38) (n := 12) (by decide)
  obtain ⟨L40, f40, g40⟩ := zFsh_at hfs (k := 40) (n := 12) (by decide)
  obtain ⟨L41, f41, g41⟩ := zFsh_at hfs (k := 41) (n := 12) (by decide)
  obtain ⟨L46, f46, g46⟩ := zFsh_at hfs (k := 46) (n := 144) (by decide)
  obtain ⟨L47, f47, g47⟩ := zFsh_at hfs (k := 47) (n := 12) (by decide)
  rw [zAt_i f38] at f1
  rw [zAt_i f41] at f3
  rw [zAt_i f40] at h40
  rw [zAt_i f47] at h47
  refine zm_170 (fun _ _ _ _ _ _ _ _ => False) (fun _ _ _ _ _ _ _ _ hf => hf.elim) (zM_gr hl h10 (hR (38, 38) (by decide)) (zM_ia' hl f38 f1 (zM_nC hl h10 hR hr he (zM_gr hl h10 (hR (41, 41) (by decide)) (zM_ia' hl f41 f3 (zM_nM hl h10 hR hr he ?_))))))
  rw [hM2]
  refine ⟨fun z => absurd z (by decide), fun _ => zM_gr hl h10 (hR (40, 40) (by decide)) (zM_ia' hl f40 h40 ⟨fun z => absurd z (by decide), fun _ => zM_gr hl h10 (hR (47, 47) (by decide)) (zM_ia' hl f47 h47 ?_)⟩)⟩
  cases o1 with
  | none =>
    cases lost with
    | false => exact ⟨fun _ => ⟨fun _ => ⟨fun _ => ⟨fun _ => k1 l (Or.inl ⟨rfl, rfl, Or.inl rfl⟩) M F hk zSm_refl, fun z => absurd rfl z⟩, fun z => absurd (by decide) z⟩, fun z => absurd rfl z⟩, fun z => absurd rfl z⟩
    | true => exact ⟨fun z => absurd z (by decide), fun _ => ⟨fun _ => ⟨fun z => absurd z (by decide), fun _ => ⟨fun z => absurd z (by decide), fun _ => ⟨fun _ => k2 rfl rfl, fun z => absurd (by decide) z⟩⟩⟩, fun z => absurd (by decide) z⟩⟩
  | some l1 =>
    obtain ⟨hsv, hl1m⟩ := h46 l1 rfl
    have hl12 : l1.length ≤ 12 := by omega
    cases lost with
    | false =>
      have hms' := hms rfl
      refine ⟨fun _ => ⟨fun _ => ⟨fun z => absurd z (nI_pos (by omega)), fun _ => zM_gi hl h10 hs.1 (pk_eq l.length l1.length (fun hlen => ?_) (fun hlen => ?_))⟩, fun z => absurd rfl z⟩, fun z => absurd rfl z⟩
      · refine zM_gr hl h10 (hR (46, 46) (by decide)) (zM_cv hl h10 (zc171 hl h10 hR (by decide) (by decide) ht.2.2.1 hs f46 hsv hD (by omega) (zKI_v ?_)))
        rw [show l.length - l1.length = 0 by omega, List.drop_zero]
        refine ⟨fun z => ?_, fun z => ?_⟩
        · have hne := of_decide_eq_false (zB_0.mp z)
          exact zbad (d := d + 1) hl hc hk he (fun M' F' q1 q2 => k0 ⟨l1, rfl, rfl, fun q => hne q.symm⟩ M' F' q1 q2)
        · have heq := of_decide_eq_true (zBt z)
          exact ⟨fun _ => k1 l (Or.inl ⟨rfl, rfl, Or.inr (by rw [heq])⟩) M F hk zSm_refl, fun z => absurd rfl z⟩
      · exact zbad (d := d + 1) hl hc hk he (fun M' F' q1 q2 => k0 ⟨l1, rfl, rfl, fun q => hlen (by rw [q])⟩ M' F' q1 q2)
    | true =>
      refine ⟨fun z => absurd z (by decide), fun _ => ⟨fun z => absurd z (nI_pos (by omega)), fun _ => zM_gr hl h10 (hR (46, 46) (by decide)) (zM_cv hl h10 (zc174 hl h10 hR (by decide) (by decide) (by decide) (by decide) hs f46 hsv hD hl12 (fun M4 F4 q1 q2 q3 q4 => zKV_v ?_)))⟩⟩
      refine ⟨fun z => absurd z (by decide), fun _ => ⟨fun z => absurd z (by decide), fun _ => ⟨fun z => absurd z (nI_pos (by omega)), fun _ => ?_⟩⟩⟩
      exact k1 l1 (Or.inr ⟨rfl, rfl⟩) M4 F4 (zKS_st hk q1 q2 q3 q4 (by decide) (by decide)) q2
end RCL2
