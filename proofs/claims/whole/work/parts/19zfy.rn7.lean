/-! which instructions a row of code has -/
def zcli (N : List zNt) : Nat → Nat → List Nat
  | 0, _ => []
  | f + 1, i => match N[i]? with
    | none => []
    | some e => (zchn N (eM e) (i + 1)).flatMap fun j => j :: (match N[j]? with
      | none => []
      | some ej => if zkbk (eC ej) = true then (zchn N (eM ej) (j + 1)).flatMap (zcli N f) else [])
def zRin (N : List zNt) (A : List Nat) : Nat → Nat → Prop
  | 0, _ => False
  | f + 1, i => ∃ e, N[i]? = some e ∧ ∀ j, j ∈ zchn N (eM e) (i + 1) → j ∈ A ∧ ∀ ej, N[j]? = some ej → zkbk (eC ej) = true → ∀ r, r ∈ zchn N (eM ej) (j + 1) → zRin N A f r
section RN7
variable {N : List zNt} {A : List Nat}
theorem zHt_up : ∀ (f i : Nat), zHt N f i → zHt N (f + 1) i
  | 0, _, h => h.elim
  | f + 1, i, ⟨e, he, hc⟩ => ⟨e, he, fun j hj => zHt_up f j (hc j hj)⟩
theorem zRin_of : ∀ (f i : Nat), zHt N f i → (∀ j ∈ zcli N f i, j ∈ A) → zRin N A f i
  | 0, _, h, _ => h.elim
  | f + 1, i, ⟨e, he, hc⟩, hA => by
    refine ⟨e, he, fun j hj => ?_⟩
    have mem : ∀ k, k ∈ (j :: (match N[j]? with
      | none => []
      | some ej => if zkbk (eC ej) = true then (zchn N (eM ej) (j + 1)).flatMap (zcli N f) else [])) → k ∈ A := fun k hk => hA k (by
        rw [zcli, he]
        exact List.mem_flatMap.mpr ⟨j, hj, hk⟩)
    refine ⟨mem j List.mem_cons_self, fun ej hej hb r hr => ?_⟩
    have hj2 := hc j hj
    cases f with
    | zero => exact hj2.elim
    | succ f =>
      obtain ⟨e2, he2, hc2⟩ := hj2
      cases hej.symm.trans he2
      refine zRin_of (f + 1) r (zHt_up f r (hc2 r hr)) (fun k hk => mem k ?_)
      rw [hej]
      dsimp only
      rw [if_pos hb]
      exact List.mem_cons_of_mem _ (List.mem_flatMap.mpr ⟨r, hr, hk⟩)
theorem zsum_ch {g : Nat → Nat} : ∀ (c k k' : Nat), zfuls N c k k' → (∀ q, q ∈ zchn N c k → g q ≤ znx N q - q) → ((zchn N c k).map g).sum ≤ k' - k
  | 0, k, k', _, _ => Nat.zero_le _
  | c + 1, k, k', h, hg => by
    have ih := zsum_ch c (znx N k) k' h.2 (fun q hq => hg q (List.mem_cons_of_mem _ hq))
    have h1 := zful_lt h.1
    have h2 := zfuls_le _ _ _ h.2
    have h3 := hg k List.mem_cons_self
    show (g k :: (zchn N c (znx N k)).map g).sum ≤ k' - k
    rw [List.sum_cons]
    omega
theorem zsum_fm {g : Nat → Nat} {f : Nat → List Nat} : ∀ (l : List Nat), ((l.flatMap f).map g).sum = (l.map fun j => ((f j).map g).sum).sum
  | [] => rfl
  | j :: l => by rw [List.flatMap_cons, List.map_append, List.sum_append, zsum_fm l, List.map_cons, List.sum_cons]
theorem zcli_sum (hg : zGd N) : ∀ (f i : Nat), i < N.length → ((zcli N f i).map (zwt N)).sum ≤ znx N i - i
  | 0, _, _ => Nat.zero_le _
  | f + 1, i, hi => by
    obtain ⟨e, he⟩ : ∃ e, N[i]? = some e := ⟨_, List.getElem?_eq_getElem hi⟩
    rw [zcli, he]
    dsimp only
    rw [zsum_fm]
    have hk := zGd_k hg he
    refine Nat.le_trans (zsum_ch _ _ _ hk (fun j hj => ?_)) (by omega)
    have hjl := zchn_lt _ _ _ j hk hj
    have hjf := zful_lt hjl.2.2.1
    obtain ⟨ej, hej⟩ : ∃ e, N[j]? = some e := ⟨_, List.getElem?_eq_getElem hjf.1⟩
    rw [List.map_cons, List.sum_cons, hej]
    dsimp only
    have hz : zwt N j = if eC ej = 34 then znx N j - j else 0 := by unfold zwt; rw [hej]
    by_cases hb : zkbk (eC ej) = true
    · rw [if_pos hb, zsum_fm]
      have h34 : eC ej ≠ 34 := fun z => by rw [z] at hb; cases hb
      rw [hz, if_neg h34]
      have hk2 := zGd_k hg hej
      have := zsum_ch (g := fun r => ((zcli N f r).map (zwt N)).sum) _ _ _ hk2 (fun r hr => zcli_sum hg f r (zful_lt (zchn_lt _ _ _ r hk2 hr).2.2.1).1)
      omega
    · rw [if_neg hb, List.map_nil]
      rw [hz]
      show (if eC ej = 34 then znx N j - j else 0) + 0 ≤ _
      split <;> omega
theorem zpw_sum {pd : List Int32} : ∀ A : List Nat, zpw N A pd ≤ (A.map (zwt N)).sum
  | [] => Nat.le_refl _
  | j :: A => by
    have ih := zpw_sum (pd := pd) A
    unfold zpw at ih ⊢
    rw [List.map_cons, List.sum_cons, List.map_cons, List.sum_cons]
    have : (if pd[j]? = some (-1) then zwt N j else 0) ≤ zwt N j := by split <;> omega
    omega
end RN7
/-! the reference at work: an instruction, up to its doing -/
section RN7B
variable {xs : List Value} {d : Nat} {h : zH} {N : List zNt} {M0 M M' : Nat → zE} {F0 F F' : Nat → Value} {Q : zO → zH → Prop} {ce : List (Nat × Nat × Nat)} {lo : List (Nat × Nat)} {Ts vs st : List Term} {pd : List Int32} {most p bits bound j fr D t stop held : Nat} {e : zNt}
theorem zhead (hl : 50 ≤ h.1.length) (hw : zWC N fr bits bound M0 F0) (hs : zWS N M0 M F0 F Ts vs most pd p ce lo) (hD : D < 12) (he : N[j]? = some e) (hI : zkI e = true) (hok : zkok held st) (hss : zSs bound st vs p) (hrd : zkrd (eC e) st held = true) (hbd : bound ≤ 150) (ht : t < 3000) (hjs : j < stop) (hst : stop ≤ 100)
    (g0 : ¬ p + zcst (eC e) vs ≤ bound → ∀ M' F', zWS N M0 M' F0 F' Ts vs most pd (p + zcst (eC e) vs) ce lo → Q (.inl (some (.int 2))) (zov h M'))
    (g1 : p + zcst (eC e) vs ≤ bound → ∀ M' F', zWS N M0 M' F0 F' Ts vs most pd (p + zcst (eC e) vs) ce lo → zFq D M M' → zAt M' 38 D = some (nI j) → zAt M' 39 D = some (nI stop) → (zkbk (eC e) = false → zw_201_185 xs (d + 9) Q (zC22 xs (d + 9) Q) (some 10) (nI D) (nI (znx N j)) (nI stop) (nI t) (-1) (nI j) (nI (eC e)) (zov h M')) ∧ (zkbk (eC e) = true → zCV xs (d + 9) 206 12 (some 10) [Value.int (nI D)] (zov h M') (zKI (fun x14 h15 => zw_201_185 xs (d + 9) Q (zC22 xs (d + 9) Q) (some 10) (nI D) (nI (znx N j)) (nI stop) (nI t) x14 (nI j) (nI (eC e)) h15) (fun e h => Q (.inr e) h)))) : zC22 xs (d + 9) Q (some 10) (nI D) (nI j) (nI stop) (nI t) (zov h M) := by
  obtain ⟨r1, r2, r3, r4⟩ := zWS_c hs hw
  obtain ⟨i1, i2, i3, i4⟩ := zkI_ok hI
  have hjl := (List.getElem?_eq_some_iff.mp he).1
  have hpb := hss.2.2
  have hC := zcst_ok hok hss hrd
  -- the cost is paid
  have pay : ∀ (c : Nat), c = zcst (eC e) vs → zw_201_138 xs (d + 9) Q (zC22 xs (d + 9) Q) (some 10) (nI D) (nI (znx N j)) (nI stop) (nI t) (-1) (nI j) (nI (eC e)) (nI c) (nI p) (some 10) (zov h M) := by
    intro c hc
    rw [← hc] at g0 g1 hC
    refine zM_pf hl hs.1.1 ?_
    rw [nI_add]
    have ws1 := zWS_p hs (p + c)
    have sM1 : zSm [10] M (zub M 10 (zMo (zub F 59 (.int (nI (p + c)))))) := zSm_ub zSm_refl (by decide)
    refine zM_gi hl ws1.1.1 ws1.2.2.2.2.2.2.1 (zM_gi hl ws1.1.1 (zWS_c ws1 hw).2.2.1 (pk_lt bound (p + c) (fun hgt => g0 (by omega) _ _ ws1) (fun hle => ?_)))
    refine zGRq hl ws1 (q := 38) (by decide) (zfs hl ws1 (by decide) hD (fun M2 ws2 fq2 at2 oth2 => ?_))
    refine zGRq hl ws2 (q := 39) (by decide) (zfs hl ws2 (by decide) hD (fun M3 ws3 fq3 at3 oth3 => ?_))
    obtain ⟨k1, k2⟩ := g1 hle M3 _ ws3 (zFq_t (zFq_t (zFq_sm sM1 (by decide)) fq2) fq3) ((oth3 38 D (by decide)).trans at2) at3
    refine ⟨d + 8, rfl, zc179 (by omega) (zKI_v ?_)⟩
    cases hb : zkbk (eC e) with
    | false => exact ⟨fun _ => k1 hb, fun z => absurd rfl z⟩
    | true => exact ⟨fun z => absurd z (by decide), fun _ => k2 hb⟩
  apply zC22_i
  refine pk_lt t 3000 (fun _ => pk_eq j stop (fun z => absurd z (by omega)) (fun _ => ?_)) (fun z => absurd z (by omega))
  refine zM_nC hl hs.1.1 hs.1.2.1 r1 he (zM_nX hl hs.1.1 hs.1.2.1 r2 hjl r4 (zM_gi hl hs.1.1 hs.2.2.2.2.2.2.1 (pk_eq (eC e) 53 (fun c53 => ?_) (fun c53 => ?_))))
  · have hrd' := hrd
    rw [c53] at hrd'
    have hr : (zkm (zkat st 2) && zt1 (zkat st 2) == zkat st 0 && zkhs st 1 6 && zt2 (zkat st 2) == zt1 (zkat st 1)) = true := hrd'
    simp only [Bool.and_eq_true] at hr
    have h2 := zkm_at hr.1.1.1
    have hT := zkat_g (zkok_g hok) 2 h2
    have hv := zCfo_at 2 hss.1 h2
    have hvl : 2 < vs.length := by rw [← zCfo_len hss.1]; exact h2
    have hmr := zmr_at hss.2.1 2
    have hcc : ztc (zkat st 2) = 9 ∨ ztc (zkat st 2) = 10 := by have := hr.1.1.1; unfold zkm at this; simpa using this
    obtain ⟨p1, p2, p3, p4, p5, p6, W, H, B0, U, L0, b1, b2, b3, b4, b5, b6, b7, b8, b9, b10, b11, b12⟩ := hs.1
    refine zM_gr hl p1 (p2 (30, 30) (by decide)) ?_
    have top2 : ∀ {K : Int32 → zH → Prop} {E : Nat → zH → Prop}, (∀ cu, zRc ce lo (zkat vs 2) (.inl cu) → K (nI cu) (zov h M)) → zCV xs (d + 9) 173 12 (some 10) [Value.int (2 : Int32)] (zov h M) (zKI K E) := fun {K E} k => zM_cv hl p1 (zc173 (d := d + 8) (k := 2) hl p1 p2 hs.2.2.2.2.1 (by decide) (fun U y hU hy => zKI_v (by
      obtain ⟨cu, rfl, hcu⟩ := hy
      rw [zkat_lt hvl, (List.getElem?_eq_some_iff.mp hU).2] at k
      exact k cu hcu)) (fun z => absurd z (by omega)))
    refine top2 (fun cu hcu => ?_)
    have cul := zRc_lt _ _ hcu cu (Or.inl rfl)
    rcases hcc with hc | hc
    · obtain ⟨es, z, _⟩ := zVt_map hT.1 hc hv
      rw [z] at hcu hmr
      have hmr : max (zels (zenc (es.map fun e => zent2 e.1 e.2))).length _ ≤ 40 + p := hmr
      rw [zels_enc, List.length_map] at hmr
      have hk : ∃ k x y, ce[cu]? = some (k, x, y) ∧ k < 14 := by
        cases es with
        | nil => obtain ⟨a, b, h1⟩ := hcu; exact ⟨12, a, b, h1, by decide⟩
        | cons q es => obtain ⟨hd, bd, h1, _⟩ := hcu; exact ⟨13, hd, bd, h1, by decide⟩
      obtain ⟨k, x, y, hcell, k14⟩ := hk
      refine zM_ba hl b1 (b11 cu _ hcell).1 (pk_lt k 14 (fun _ => ?_) (fun q => absurd q (by omega))) (by omega)
      refine top2 (fun cu2 hcu2 => ?_)
      rw [z] at hcu2
      refine zM_cv hl p1 (zc205 (d := d + 7) (L := es.map fun e : Term × Term => zent2 e.1 e.2) (k := 12) hl hs.1 hcu2 ⟨Or.inr (Or.inl rfl), fun _ x hx => by obtain ⟨y, _, rfl⟩ := List.mem_map.mp hx; rfl⟩ (by rw [List.length_map]; omega) (zKI_v ?_))
      rw [show (1 : Int32) + nI (es.map fun e => zent2 e.1 e.2).length = nI (1 + (es.map fun e => zent2 e.1 e.2).length) from nI_add 1 _]
      refine pay _ ?_
      unfold zcst
      rw [if_pos c53, z]
      show _ = 1 + (zels (zenc _)).length
      rw [zels_enc]
    · obtain ⟨L, z, _⟩ := zVt_big hT.1 hc hv
      rw [z] at hcu
      have hk : ∃ k x y, ce[cu]? = some (k, x, y) ∧ 14 ≤ k ∧ k < 100 := by
        cases L with
        | nil => obtain ⟨a, b, h1⟩ := hcu; exact ⟨14, a, b, h1, by decide, by decide⟩
        | cons q es =>
          obtain ⟨hd, bd, h1, _⟩ := hcu
          have := zgo_le q
          exact ⟨_, hd, bd, h1, by omega, by omega⟩
      obtain ⟨k, x, y, hcell, k14, k100⟩ := hk
      refine zM_ba hl b1 (b11 cu _ hcell).1 (pk_lt k 14 (fun q => absurd q (by omega)) (fun _ => ?_)) (by omega)
      refine pay 1 ?_
      unfold zcst
      rw [if_pos c53, z]
  · refine pay 1 ?_
    unfold zcst
    rw [if_neg c53]
end RN7B
