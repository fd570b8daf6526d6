/-! settled() -/
def zTv (M : Nat → zE) (F : Nat → Value) (ce : List (Nat × Nat × Nat)) (lo : List (Nat × Nat)) (K : Term) (L : List Term) (kp : Option Term) (hs : List Nat) (M1 : Nat → zE) (F1 : Nat → Value) (l2 l3 l4 l5 : Int32) : Prop := ∃ E R : List (Term × Term), zStl kp L E R ∧ hs.length = E.length ∧ (∀ (i hd : Nat) (e : Term × Term), hs[i]? = some hd → E[i]? = some e → zRc ce lo (zent2 e.1 e.2) (.inl hd)) ∧ zPo M1 F1 (ce ++ (14, 0, 0) :: zlks ce.length (ce.length + 1) hs) lo ∧ zSm [10, 30, 31, 32, 35, 36] M M1 ∧ zSm [27] F F1 ∧ zS35 M1 ∧ l2 = nI (if hs = [] then ce.length else ce.length + 1) ∧ l3 = nI ce.length ∧ l4 = (if hs = [] then -1 else nI (ce.length + hs.length)) ∧ (kp = none ∧ l5 = -1 ∨ ∃ k ck, kp = some k ∧ l5 = nI ck ∧ zRc ce lo k (.inl ck) ∧ zVt K k)
def zTb (ce : List (Nat × Nat × Nat)) (lo : List (Nat × Nat)) (b : Option Term) (l7 : Int32) : Prop := (b = none ∧ l7 = -1) ∨ ∃ x cb hd bd, b = some x ∧ l7 = nI cb ∧ ce[cb]? = some (15 + zgo x, hd, bd) ∧ zRc ce lo x (.inl hd)
section ST2
variable {xs : List Value} {d : Nat} {h : zH} {M M1 : Nat → zE} {F F1 : Nat → Value} {Q : zO → zH → Prop} {ce : List (Nat × Nat × Nat)} {lo : List (Nat × Nat)} {K : Term} {L : List Term} {c : Nat}
theorem zhhd {w hd bd j k2 : Nat} {KI : Int32 → Prop} (hl : 50 ≤ h.1.length) (hp : zPo M F ce lo) (hat : ce[c]? = some (w, hd, bd)) (h1 : ce[hd]? = some (5, j, k2)) (q : KI (nI j)) : zGR (some 10) 12 31 (zov h M) fun x3 => zGR (some 10) 12 31 (zov h M) fun x5 => zSA x5 (nI c) (zov h M) fun x7 => zSA x3 x7 (zov h M) KI := by
  obtain ⟨p1, p2, p3, p4, p5, p6, W, H, B0, U, L0, b1, b2, b3, b4, b5, b6, b7, b8, b9, b10, b11, b12⟩ := hp
  have hcl := (List.getElem?_eq_some_iff.mp hat).1
  have hhl := (List.getElem?_eq_some_iff.mp h1).1
  exact zM_gr hl p1 (p2 (31, 31) (by decide)) (zM_gr hl p1 (p2 (31, 31) (by decide)) (zM_sa (v := nI hd) hl b2 (b11 _ _ hat).2.1 (zM_sa (v := nI j) (j := hd) hl b2 (b11 _ _ h1).2.1 q)))
theorem zbt_c {x : Term} (hx : zbt K x) {hd : Nat} (hc : zRc ce lo x (.inl hd)) : ∃ j k2, ce[hd]? = some (5, j, k2) ∧ zRc ce lo (zv1 x) (.inl j) := by
  obtain ⟨k, v, hv, rfl | rfl⟩ := hx <;> (obtain ⟨j, k2, h1, h2, h3⟩ := hc; exact ⟨j, k2, h1, h2⟩)
theorem zRc_upX {V : Term} {x : Nat ⊕ (Nat × Nat)} {X : List (Nat × Nat × Nat)} (hq : zRc ce lo V x) : zRc (ce ++ X) lo V x := by
  have t := zRc_app (ce' := X) (lo' := []) _ _ hq
  rw [List.append_nil] at t
  exact t
theorem zTv_m {kp : Option Term} {hz : List Nat} {l2 l3 l4 l5 : Int32} {M2 : Nat → zE} (hv : zTv M F ce lo K L kp hz M1 F1 l2 l3 l4 l5) (hp : zPo M2 F1 (ce ++ (14, 0, 0) :: zlks ce.length (ce.length + 1) hz) lo) (hs : zSm [35, 36] M1 M2) (h35 : zS35 M2) : zTv M F ce lo K L kp hz M2 F1 l2 l3 l4 l5 := by
  obtain ⟨E, R, v1, v2, v3, v4, v5, v6, v7, v8⟩ := hv
  exact ⟨E, R, v1, v2, v3, hp, zSm_trans v5 hs (fun _ z => z) (by decide), v6, h35, v8⟩
theorem zlks_at (hs : List Nat) (i : Nat) : (ce ++ (14, 0, 0) :: zlks ce.length (ce.length + 1) hs)[ce.length + 1 + i]? = (zlks ce.length (ce.length + 1) hs)[i]? := by
  rw [List.getElem?_append_right (by omega), show ce.length + 1 + i - ce.length = i + 1 by omega, List.getElem?_cons_succ]
theorem zc209 (hl : 50 ≤ h.1.length) (hp : zPo M F ce lo) (h35 : zS35 M) (hk : zTok K) (hs : ztsim K = true) (hd8 : ztdep K ≤ 8) (hL : ∀ x ∈ L, zbt K x) (hr : zRc ce lo (zenc L) (.inr (c, 14))) (hn : L.length < 200) (hce : ce.length + 1 + (zbm L).length ≤ 1400)
    (q : ∀ M' F' X c', zPo M' F' (ce ++ X) lo → X.length = 1 + (zbm L).length → zSm [10, 30, 31, 32, 35, 36] M M' → zSm [27] F F' → zS35 M' → zRc (ce ++ X) lo (zenc ((zbm L).map fun e => zent2 e.1 e.2)) (.inr (c', 14)) → Q (.inl (some (.int (nI c')))) (zov h M')) : zG xs (d + 2) (209, 0, lv_args 0 [zo (some 10), .int (nI c)], []) (zov h M) Q := by
  have cmp : ∀ {k k' : Term} {j j' : Nat} {KI : Int32 → zH → Prop} {E : Nat → zH → Prop} {M1 : Nat → zE} {F1 : Nat → Value} {cX : List (Nat × Nat × Nat)}, zPo M1 F1 cX lo → zS35 M1 → zVt K k → zVt K k' → zRc cX lo k (.inl j) → zRc cX lo k' (.inl j') → (∀ M2, zPo M2 F1 cX lo → zSm [35, 36] M1 M2 → zS35 M2 → KI (zcmp k k') (zov h M2)) → zCV xs (d + 2) 191 12 (some 10) [Value.int (nI j), Value.int (nI j')] (zov h M1) (zKI KI E) := by
    intro k k' j j' KI E M1 F1 cX p1 s1 t1 t2 c1 c2 g
    obtain ⟨A, B, a1, a2, a3, a4⟩ := s1
    exact zM_cv hl p1.1 (zc191 hl p1 (zSimp_t K k k' hk hs t1 t2) c1 c2 (by have := (zdep_t K k hk hs t1).1; omega) a1 a2 a3 a4 (fun M' A' B' q1 q2 q3 q4 q5 q6 => zKI_v (g M' q1 q2 ⟨A', B', q3, q4, q5, q6⟩)))
  have hbl : (zbm L).length ≤ L.length := (zbm_ok hk hs L hL).2.2
  -- the end
  have fin : ∀ {kp : Option Term} {hz : List Nat} {M1 : Nat → zE} {F1 : Nat → Value} {l2 l3 l4 l5 : Int32}, zTv M F ce lo K L kp hz M1 F1 l2 l3 l4 l5 → zBst kp L none → Q (.inl (some (Value.int l2))) (zov h M1) := by
    intro kp hz M1 F1 l2 l3 l4 l5 hv hb
    obtain ⟨E, R, v1, v2, v3, v4, v5, v6, v7, rfl, v9, v10, v11⟩ := hv
    have hE := zStl_0 hb v1
    subst hE
    refine q M1 F1 _ _ v4 (by rw [List.length_cons, zlks_len, v2]; omega) v5 v6 v7 ?_
    exact zlks_rc (lo := lo) ⟨0, 0, by rw [List.getElem?_append_right (Nat.le_refl _), Nat.sub_self]; rfl⟩ hz (zbm L) (ce.length + 1) v2 (fun i hd e q1 q2 => zRc_upX (v3 i hd e q1 q2)) (fun i c hc => by rw [zlks_at]; exact hc)
  refine zm_209 (fun n l0 l1 l2 l3 l4 l5 l6 h0 => ∃ kp hz M1 F1 turn, n = zleft kp L * 400 + 399 ∧ l0 = some 10 ∧ l1 = nI c ∧ l6 = nI turn ∧ turn + zleft kp L ≤ L.length ∧ h0 = zov h M1 ∧ zTv M F ce lo K L kp hz M1 F1 l2 l3 l4 l5) (fun n l0 l1 l2 l3 l4 l5 l6 l7 l8 l9 h0 => ∃ kp hz M1 F1 turn P rest b at_, n = zleft kp L * 400 + rest.length ∧ l0 = some 10 ∧ l1 = nI c ∧ l6 = nI turn ∧ turn + zleft kp L ≤ L.length ∧ h0 = zov h M1 ∧ zTv M F ce lo K L kp hz M1 F1 l2 l3 l4 l5 ∧ L = P ++ rest ∧ zBst kp P b ∧ zTb ce lo b l7 ∧ l8 = nI at_ ∧ zRc ce lo (zenc rest) (.inr (at_, 14)) ∧ l9 = nI P.length) ?_ ?_ ?_
  · rintro n l0 l1 l2 l3 l4 l5 l6 h0 ⟨kp, hz, M1, F1, turn, rfl, rfl, rfl, rfl, htu, rfl, hv⟩
    have hll : zleft kp L ≤ L.length := zleft_le
    refine pk_lt turn 200 (fun _ => ?_) (fun z => absurd z (by omega))
    exact ⟨zleft kp L * 400 + L.length, by omega, kp, hz, M1, F1, turn, [], L, none, c, rfl, rfl, rfl, rfl, htu, rfl, hv, rfl, (fun y hy => by cases hy), Or.inl ⟨rfl, rfl⟩, rfl, hr, rfl⟩
  · rintro n l0 l1 l2 l3 l4 l5 l6 l7 l8 l9 h0 ⟨kp, hz, M1, F1, turn, P, rest, b, at_, rfl, rfl, rfl, rfl, htu, rfl, hv, hLP, hb, hsb, rfl, hrr, rfl⟩
    have hlen : L.length = P.length + rest.length := by rw [hLP, List.length_append]
    have hv' := hv
    obtain ⟨E, R, v1, v2, v3, v4, v5, v6, v7, rfl, rfl, rfl, v11⟩ := hv
    have hkp : ∀ k, kp = some k → zVt K k := fun k hk' => by
      rcases v11 with ⟨e, _⟩ | ⟨k2, ck, e, _, _, t⟩
      · rw [e] at hk'; cases hk'
      · rw [e] at hk'; cases hk'; exact t
    refine pk_lt P.length 200 (fun _ => ?_) (fun z => absurd z (by omega))
    cases rest with
    | nil =>
      rw [List.append_nil] at hLP
      subst hLP
      obtain ⟨ca, cb, hc⟩ := hrr
      refine zM_cv hl v4.1 (zc204 hl v4 (zget_app hc) (show 14 < 100 by decide) (zKI_v ⟨fun _ => ?_, fun z => absurd (show zB (zlk 14) = 0 from rfl) z⟩))
      rcases hsb with ⟨rfl, rfl⟩ | ⟨x, cb, hd, bd, rfl, rfl, hcb, hcx⟩
      · exact ⟨fun _ => fin hv' hb, fun z => absurd (by decide) z⟩
      · have hxL : x ∈ L := by
          obtain ⟨P1, P2, e, _⟩ := hb
          rw [e]; exact List.mem_append.mpr (Or.inr List.mem_cons_self)
        have hm : zmk1 kp (zv1 x) := by
          obtain ⟨P1, P2, e, hm, _⟩ := hb
          exact hm
        have hxt := hL x hxL
        have hxg := zgo_le x
        have hcbl := (List.getElem?_eq_some_iff.mp hcb).1
        obtain ⟨j, k2, hj, hjk⟩ := zbt_c hxt hcx
        obtain ⟨w1, w2⟩ := zStl_1 hk hs hL hkp hb v1
        have hlt := zleft_lt hk hs hL hkp hxL hm
        have hel : E.length + R.length = (zbm L).length := by rw [← v1.1, List.length_append]
        refine ⟨fun z => absurd z (nI_pos (by omega)), fun _ => zhhd hl v4 (zget_app hcb) (zget_app hj) (zM_what hl v4 (zget_app hcb) ⟨fun z16 => ?_, fun z16 => ?_⟩)⟩
        · have g1 : zgo x = 1 := by
            have := (nI_eq (a := 15 + zgo x) (b := 16) (by omega) (by omega)).mp z16
            omega
          intro x3 hx3
          exact ⟨zleft (some (zv1 x)) L * 400 + 399, by omega, some (zv1 x), hz, M1, F1, turn + 1, rfl, rfl, rfl, by rw [hx3, nI_1], by omega, rfl, E, R, w1 g1, v2, v3, v4, v5, v6, v7, rfl, rfl, rfl, Or.inr ⟨_, j, rfl, rfl, hjk, zbt_k hxt⟩⟩
        · have g1 : zgo x ≠ 1 := fun z => z16 (by rw [z]; rfl)
          obtain ⟨R', hR', w3⟩ := w2 g1
          have hcx' : zRc ce lo (zent2 (zv1 x) (zv2 x)) (.inl hd) := by
            obtain ⟨k, v, _, rfl | rfl⟩ := hxt
            · exact hcx
            · exact absurd rfl g1
          have hhl := (List.getElem?_eq_some_iff.mp hj).1
          have hzl : hz.length + 1 ≤ (zbm L).length := by
            rw [hR', List.length_cons] at hel
            omega
          have hX : (ce ++ (14, 0, 0) :: zlks ce.length (ce.length + 1) hz).length = ce.length + 1 + hz.length := by rw [List.length_append, List.length_cons, zlks_len]; omega
          refine zM_head hl v4 (zget_app hcb) (zM_cv hl v4.1 (zc187 (k := 15) (a := hd) (b := ce.length) hl v4 (by omega) (by decide) (by omega) (by omega) (fun M2 F2 p2 s2 t2 => zKI_v ?_)))
          have v7' : zS35 M2 := by
            obtain ⟨A, B, a1, a2, a3, a4⟩ := v7
            exact ⟨A, B, (s2 35 (by decide)).trans a1, (s2 36 (by decide)).trans a2, a3, a4⟩
          -- on to the next key
          have nxt : ∀ (M3 : Nat → zE) (l2' : Int32), zPo M3 F2 (ce ++ (14, 0, 0) :: zlks ce.length (ce.length + 1) (hz ++ [hd])) lo → zSm [32] M2 M3 → l2' = nI (ce.length + 1) → zw_209_220 xs (d + 2) Q (fun l0 l1 l2 l3 l4 l5 l6 h0 => ∃ n1, n1 < zleft kp L * 400 + ([] : List Term).length ∧ ∃ kp hz M1 F1 turn, n1 = zleft kp L * 400 + 399 ∧ l0 = some 10 ∧ l1 = nI c ∧ l6 = nI turn ∧ turn + zleft kp L ≤ L.length ∧ h0 = zov h M1 ∧ zTv M F ce lo K L kp hz M1 F1 l2 l3 l4 l5) (fun l0 l1 l2 l3 l4 l5 l6 l7 l8 l9 h0 => ∃ n1, n1 < zleft kp L * 400 + ([] : List Term).length ∧ ∃ kp hz M1 F1 turn P rest b at_, n1 = zleft kp L * 400 + rest.length ∧ l0 = some 10 ∧ l1 = nI c ∧ l6 = nI turn ∧ turn + zleft kp L ≤ L.length ∧ h0 = zov h M1 ∧ zTv M F ce lo K L kp hz M1 F1 l2 l3 l4 l5 ∧ L = P ++ rest ∧ zBst kp P b ∧ zTb ce lo b l7 ∧ l8 = nI at_ ∧ zRc ce lo (zenc rest) (.inr (at_, 14)) ∧ l9 = nI P.length) (some 10) (nI c) l2' (nI ce.length) (nI j) (nI turn) (nI (ce ++ (14, 0, 0) :: zlks ce.length (ce.length + 1) hz).length) (zov h M3) := by
            intro M3 l2' p3 s3 hl2
            intro x3 hx3
            have hne : hz ++ [hd] ≠ [] := fun z => by
              have := congrArg List.length z
              rw [List.length_append] at this
              cases this
            refine ⟨zleft (some (zv1 x)) L * 400 + 399, by omega, some (zv1 x), hz ++ [hd], M3, F2, turn + 1, rfl, rfl, rfl, by rw [hx3, nI_1], by omega, rfl, E ++ [(zv1 x, zv2 x)], R', w3, by rw [List.length_append, List.length_append, v2]; rfl, fun i hd' e q1 q2 => ?_, p3, zSm_trans (zSm_trans v5 s2 (fun _ z => z) (by decide)) s3 (fun _ z => z) (by decide), zSm_trans v6 t2 (fun _ z => z) (fun _ z => z), ?_, by rw [if_neg hne]; exact hl2, rfl, by rw [if_neg hne, hX, List.length_append]; congr 1; show _ = ce.length + (hz.length + 1); omega, Or.inr ⟨_, j, rfl, rfl, hjk, zbt_k hxt⟩⟩
            · by_cases hi : i < hz.length
              · rw [List.getElem?_append_left hi] at q1
                rw [List.getElem?_append_left (by omega)] at q2
                exact v3 i hd' e q1 q2
              · rw [List.getElem?_append_right (by omega)] at q1
                rw [List.getElem?_append_right (by omega), ← v2] at q2
                cases hii : i - hz.length with
                | zero => rw [hii] at q1 q2; cases q1; cases q2; exact hcx'
                | succ m => rw [hii] at q1; cases q1
            · obtain ⟨A, B, a1, a2, a3, a4⟩ := v7'
              exact ⟨A, B, (s3 35 (by decide)).trans a1, (s3 36 (by decide)).trans a2, a3, a4⟩
          by_cases hne : hz = []
          · subst hne
            rw [if_pos rfl]
            refine ⟨fun _ => ?_, fun z => absurd (by decide) z⟩
            exact nxt M2 _ (by rw [List.append_assoc] at p2; exact p2) zSm_refl (by rw [hX]; rfl)
          · rw [if_neg hne]
            have hl0 : 0 < hz.length := List.length_pos_iff.mpr hne
            refine ⟨fun z => absurd z (nI_pos (by omega)), fun _ => ?_⟩
            obtain ⟨h0, e1, e2⟩ := zlks_snoc ce.length hd (ce.length + 1) hz hne
            have hat : ((ce ++ (14, 0, 0) :: zlks ce.length (ce.length + 1) hz) ++ [(15, hd, ce.length)])[ce.length + hz.length]? = some (15, h0, ce.length) := by
              refine zget_app ?_
              rw [show ce.length + hz.length = ce.length + 1 + (hz.length - 1) by omega, zlks_at]
              exact e1
            refine zPo_body hl p2 hat (by omega) (fun M3 p3 s3 => ?_)
            refine nxt M3 _ ?_ s3 (by rw [if_neg hne])
            have ee : ((ce ++ (14, 0, 0) :: zlks ce.length (ce.length + 1) hz) ++ [(15, hd, ce.length)]).set (ce.length + hz.length) (15, h0, (ce ++ (14, 0, 0) :: zlks ce.length (ce.length + 1) hz).length) = ce ++ (14, 0, 0) :: zlks ce.length (ce.length + 1) (hz ++ [hd]) := by
              rw [hX, e2, List.append_assoc, List.set_append_right _ _ (by omega), show ce.length + hz.length - ce.length = hz.length - 1 + 1 by omega, List.cons_append, List.set_cons_succ]
            rw [← ee]
            exact p3
    | cons x rest =>
      obtain ⟨hd, bd, hc, hcx, hrr⟩ := hrr
      have hxg := zgo_le x
      have hxL : x ∈ L := by rw [hLP]; exact List.mem_append.mpr (Or.inr List.mem_cons_self)
      have hxt := hL x hxL
      obtain ⟨j, k2, hj, hjk⟩ := zbt_c hxt hcx
      have hLP' : L = (P ++ [x]) ++ rest := by rw [List.append_assoc]; exact hLP
      obtain ⟨n1, n2⟩ := zBst_snoc hk hs (fun y hy => hL y (by rw [hLP']; exact List.mem_append.mpr (Or.inl hy))) hb
      have lk : zlk (14 + 1 + zgo x) = true := by unfold zlk; rw [decide_eq_true (by omega), Bool.or_true]
      refine zM_cv hl v4.1 (zc204 hl v4 (zget_app hc) (show 14 + 1 + zgo x < 100 by omega) (zKI_v ⟨fun z => absurd z (by rw [show ((14 + 1 + zgo x, hd, bd) : Nat × Nat × Nat).1 = 14 + 1 + zgo x from rfl, lk]; decide), fun _ => ?_⟩))
      -- the next link
      have adv : ∀ (M2 : Nat → zE) (b' : Option Term) (l7' : Int32), zPo M2 F1 (ce ++ (14, 0, 0) :: zlks ce.length (ce.length + 1) hz) lo → zSm [35, 36] M1 M2 → zS35 M2 → zBst kp (P ++ [x]) b' → zTb ce lo b' l7' → zw_209_132 xs (d + 2) Q (fun l0 l1 l2 l3 l4 l5 l6 h0 => ∃ n1, n1 < zleft kp L * 400 + (x :: rest).length ∧ ∃ kp hz M1 F1 turn, n1 = zleft kp L * 400 + 399 ∧ l0 = some 10 ∧ l1 = nI c ∧ l6 = nI turn ∧ turn + zleft kp L ≤ L.length ∧ h0 = zov h M1 ∧ zTv M F ce lo K L kp hz M1 F1 l2 l3 l4 l5) (fun l0 l1 l2 l3 l4 l5 l6 l7 l8 l9 h0 => ∃ n1, n1 < zleft kp L * 400 + (x :: rest).length ∧ ∃ kp hz M1 F1 turn P rest b at_, n1 = zleft kp L * 400 + rest.length ∧ l0 = some 10 ∧ l1 = nI c ∧ l6 = nI turn ∧ turn + zleft kp L ≤ L.length ∧ h0 = zov h M1 ∧ zTv M F ce lo K L kp hz M1 F1 l2 l3 l4 l5 ∧ L = P ++ rest ∧ zBst kp P b ∧ zTb ce lo b l7 ∧ l8 = nI at_ ∧ zRc ce lo (zenc rest) (.inr (at_, 14)) ∧ l9 = nI P.length) (some 10) (nI c) (nI (if hz = [] then ce.length else ce.length + 1)) (nI ce.length) (if hz = [] then -1 else nI (ce.length + hz.length)) l5 (nI turn) l7' (nI at_) (nI P.length) (zov h M2) := by
        intro M2 b' l7' p2 s2 h2 hb' ht'
        refine zM_body hl p2 (zget_app hc) ?_
        intro x8 hx8
        exact ⟨zleft kp L * 400 + rest.length, by rw [List.length_cons]; omega, kp, hz, M2, F1, turn, P ++ [x], rest, b', bd, rfl, rfl, rfl, rfl, htu, rfl, zTv_m hv' p2 s2 h2, hLP', hb', ht', rfl, hrr, by rw [hx8, nI_1, List.length_append]; rfl⟩
      have tk : ∀ M2, zPo M2 F1 (ce ++ (14, 0, 0) :: zlks ce.length (ce.length + 1) hz) lo → zSm [35, 36] M1 M2 → zS35 M2 → zmk1 kp (zv1 x) → zw_209_85 xs (d + 2) Q (fun l0 l1 l2 l3 l4 l5 l6 h0 => ∃ n1, n1 < zleft kp L * 400 + (x :: rest).length ∧ ∃ kp hz M1 F1 turn, n1 = zleft kp L * 400 + 399 ∧ l0 = some 10 ∧ l1 = nI c ∧ l6 = nI turn ∧ turn + zleft kp L ≤ L.length ∧ h0 = zov h M1 ∧ zTv M F ce lo K L kp hz M1 F1 l2 l3 l4 l5) (fun l0 l1 l2 l3 l4 l5 l6 l7 l8 l9 h0 => ∃ n1, n1 < zleft kp L * 400 + (x :: rest).length ∧ ∃ kp hz M1 F1 turn P rest b at_, n1 = zleft kp L * 400 + rest.length ∧ l0 = some 10 ∧ l1 = nI c ∧ l6 = nI turn ∧ turn + zleft kp L ≤ L.length ∧ h0 = zov h M1 ∧ zTv M F ce lo K L kp hz M1 F1 l2 l3 l4 l5 ∧ L = P ++ rest ∧ zBst kp P b ∧ zTb ce lo b l7 ∧ l8 = nI at_ ∧ zRc ce lo (zenc rest) (.inr (at_, 14)) ∧ l9 = nI P.length) (some 10) (nI c) (nI (if hz = [] then ce.length else ce.length + 1)) (nI ce.length) (if hz = [] then -1 else nI (ce.length + hz.length)) l5 (nI turn) l7 (nI at_) (nI P.length) 1 (zov h M2) := by
        intro M2 p2 s2 h2 hm
        refine ⟨fun z => absurd z (by decide), fun _ => ?_⟩
        have me : zTb ce lo (some x) (nI at_) := Or.inr ⟨x, at_, hd, bd, rfl, rfl, by rw [show 15 + zgo x = 14 + 1 + zgo x by omega]; exact hc, hcx⟩
        rcases hsb with ⟨rfl, rfl⟩ | ⟨y, cb, hdy, bdy, rfl, rfl, hcb, hcy⟩
        · exact ⟨fun _ => adv M2 (some x) (nI at_) p2 s2 h2 ((n2 hm).1 rfl) me, fun z => absurd (by decide) z⟩
        · have hyL : y ∈ L := by
            obtain ⟨P1, P2, e, _⟩ := hb
            rw [hLP, e]; exact List.mem_append.mpr (Or.inl (List.mem_append.mpr (Or.inr List.mem_cons_self)))
          have hyt := hL y hyL
          have hcbl := (List.getElem?_eq_some_iff.mp hcb).1
          obtain ⟨jy, ky, hjy, hjky⟩ := zbt_c hyt hcy
          obtain ⟨m1, m2⟩ := (n2 hm).2 y rfl
          refine ⟨fun z => absurd z (nI_pos (by omega)), fun _ => zhhd hl p2 (zget_app hc) (zget_app hj) (zhhd hl p2 (zget_app hcb) (zget_app hjy) (cmp p2 h2 (zbt_k hxt) (zbt_k hyt) (zRc_upX hjk) (zRc_upX hjky) (fun M3 p3 s3 h3 => ⟨fun z => ?_, fun z => ?_⟩)))⟩
          · exact adv M3 (some x) (nI at_) p3 (zSm_t s2 s3) h3 (m1 z) me
          · exact adv M3 (some y) (nI cb) p3 (zSm_t s2 s3) h3 (m2 z) (Or.inr ⟨y, cb, hdy, bdy, rfl, rfl, hcb, hcy⟩)
      rcases v11 with ⟨e, rfl⟩ | ⟨k, ck, e, rfl, hck, tkk⟩
      · exact ⟨fun _ => tk M1 v4 zSm_refl v7 (fun k hk' => by rw [e] at hk'; cases hk'), fun z => absurd (by decide) z⟩
      · have hckl := zRc_lt _ _ hck ck (Or.inl rfl)
        refine ⟨fun z => absurd z (nI_pos (by omega)), fun _ => zhhd hl v4 (zget_app hc) (zget_app hj) (cmp v4 v7 (zbt_k hxt) tkk (zRc_upX hjk) (zRc_upX hck) (fun M3 p3 s3 h3 => ⟨fun z => ?_, fun z => ?_⟩))⟩
        · exact tk M3 p3 s3 h3 (fun k' hk' => by rw [e] at hk'; cases hk'; exact z)
        · exact ⟨fun _ => adv M3 b l7 p3 s3 h3 (n1 (fun hm => z (hm k e))) hsb, fun z => absurd rfl z⟩
  · refine zM_cv hl hp.1 (zc187 (k := 14) (a := 0) (b := 0) hl hp (by omega) (by decide) (by decide) (by decide) (fun M1 F1 p1 s1 t1 => zKI_v ?_))
    refine ⟨zleft none L * 400 + 399, none, [], M1, F1, 0, rfl, rfl, rfl, rfl, by have : zleft none L ≤ L.length := zleft_le; omega, rfl, [], zbm L, ⟨rfl, (fun e he => by cases he), (fun e _ k hk' => by cases hk')⟩, rfl, (fun i hd e hi => by cases hi), p1, zSm_mono s1 (by decide), t1, ?_, rfl, rfl, rfl, Or.inl ⟨rfl, rfl⟩⟩
    obtain ⟨A, B, a1, a2, a3, a4⟩ := h35
    exact ⟨A, B, (s1 35 (by decide)).trans a1, (s1 36 (by decide)).trans a2, a3, a4⟩
end ST2
