theorem zkb_6 (st : List Value) : zpure (.bipush 6) st = some (Value.int (6 : Int32) :: st) := rfl
theorem zkb_7 (st : List Value) : zpure (.bipush 7) st = some (Value.int (7 : Int32) :: st) := rfl
theorem zkb_8 (st : List Value) : zpure (.bipush 8) st = some (Value.int (8 : Int32) :: st) := rfl
theorem zkb_9 (st : List Value) : zpure (.bipush 9) st = some (Value.int (9 : Int32) :: st) := rfl
theorem zkb_10 (st : List Value) : zpure (.bipush 10) st = some (Value.int (10 : Int32) :: st) := rfl
theorem zkb_12 (st : List Value) : zpure (.bipush 12) st = some (Value.int (12 : Int32) :: st) := rfl
theorem zkb_15 (st : List Value) : zpure (.bipush 15) st = some (Value.int (15 : Int32) :: st) := rfl
theorem zkb_16 (st : List Value) : zpure (.bipush 16) st = some (Value.int (16 : Int32) :: st) := rfl
theorem zkb_23 (st : List Value) : zpure (.bipush 23) st = some (Value.int (23 : Int32) :: st) := rfl
theorem zkb_24 (st : List Value) : zpure (.bipush 24) st = some (Value.int (24 : Int32) :: st) := rfl
theorem zkb_32 (st : List Value) : zpure (.bipush 32) st = some (Value.int (32 : Int32) :: st) := rfl
theorem zkb_40 (st : List Value) : zpure (.bipush 40) st = some (Value.int (40 : Int32) :: st) := rfl
theorem zkb_60 (st : List Value) : zpure (.bipush 60) st = some (Value.int (60 : Int32) :: st) := rfl
theorem zkb_100 (st : List Value) : zpure (.bipush 100) st = some (Value.int (100 : Int32) :: st) := rfl
theorem zkb_120 (st : List Value) : zpure (.bipush 120) st = some (Value.int (120 : Int32) :: st) := rfl
theorem zki_m1 (st : List Value) : zpure (.iconst (-1)) st = some (Value.int (-1 : Int32) :: st) := rfl
theorem zki_0 (st : List Value) : zpure (.iconst 0) st = some (Value.int (0 : Int32) :: st) := rfl
theorem zki_1 (st : List Value) : zpure (.iconst 1) st = some (Value.int (1 : Int32) :: st) := rfl
theorem zki_2 (st : List Value) : zpure (.iconst 2) st = some (Value.int (2 : Int32) :: st) := rfl
theorem zki_3 (st : List Value) : zpure (.iconst 3) st = some (Value.int (3 : Int32) :: st) := rfl
theorem zki_4 (st : List Value) : zpure (.iconst 4) st = some (Value.int (4 : Int32) :: st) := rfl
theorem zki_5 (st : List Value) : zpure (.iconst 5) st = some (Value.int (5 : Int32) :: st) := rfl
theorem zkn_1 : Int32.ofInt (-1) = (-1 : Int32) := rfl
theorem zkn1 : Int32.ofInt 1 = (1 : Int32) := rfl
theorem zkn4 : Int32.ofInt 4 = (4 : Int32) := rfl
theorem zks_144 (st : List Value) : zpure (.sipush 144) st = some (Value.int (144 : Int32) :: st) := rfl
theorem zks_150 (st : List Value) : zpure (.sipush 150) st = some (Value.int (150 : Int32) :: st) := rfl
theorem zks_220 (st : List Value) : zpure (.sipush 220) st = some (Value.int (220 : Int32) :: st) := rfl
theorem zks_240 (st : List Value) : zpure (.sipush 240) st = some (Value.int (240 : Int32) :: st) := rfl
theorem zks_255 (st : List Value) : zpure (.sipush 255) st = some (Value.int (255 : Int32) :: st) := rfl
theorem zks_300 (st : List Value) : zpure (.sipush 300) st = some (Value.int (300 : Int32) :: st) := rfl
theorem zks_600 (st : List Value) : zpure (.sipush 600) st = some (Value.int (600 : Int32) :: st) := rfl
theorem zks_1200 (st : List Value) : zpure (.sipush 1200) st = some (Value.int (1200 : Int32) :: st) := rfl
theorem zks_1400 (st : List Value) : zpure (.sipush 1400) st = some (Value.int (1400 : Int32) :: st) := rfl
theorem zks_1860 (st : List Value) : zpure (.sipush 1860) st = some (Value.int (1860 : Int32) :: st) := rfl
theorem zks_2686 (st : List Value) : zpure (.sipush 2686) st = some (Value.int (2686 : Int32) :: st) := rfl
theorem zks_2800 (st : List Value) : zpure (.sipush 2800) st = some (Value.int (2800 : Int32) :: st) := rfl
theorem zks_8660 (st : List Value) : zpure (.sipush 8660) st = some (Value.int (8660 : Int32) :: st) := rfl
theorem zft_0_0 : zFt 0 0 = .object "PactLedger$Buffer" := rfl
theorem zft_0_1 : zFt 0 1 = .object "PactLedger$Output" := rfl
theorem zft_0_2 : zFt 0 2 = .array (.object "PactLedger$Contract") := rfl
theorem zft_0_3 : zFt 0 3 = .int := rfl
theorem zft_1_0 : zFt 1 0 = .array .byte := rfl
theorem zft_1_1 : zFt 1 1 = .array (.object "PactLedger$Node") := rfl
theorem zft_1_2 : zFt 1 2 = .int := rfl
theorem zft_1_3 : zFt 1 3 = .int := rfl
theorem zft_1_4 : zFt 1 4 = .int := rfl
theorem zft_1_5 : zFt 1 5 = .int := rfl
theorem zft_1_6 : zFt 1 6 = .int := rfl
theorem zft_2_0 : zFt 2 0 = .array .byte := rfl
theorem zft_2_1 : zFt 2 1 = .int := rfl
theorem zft_10_3 : zFt 10 3 = .object "PactLedger$Value" := rfl
theorem zft_10_4 : zFt 10 4 = .int := rfl
theorem zft_10_5 : zFt 10 5 = .int := rfl
theorem zft_10_6 : zFt 10 6 = .int := rfl
theorem zft_10_7 : zFt 10 7 = .int := rfl
theorem zft_12_0 : zFt 12 0 = .int := rfl
theorem zft_12_1 : zFt 12 1 = .array .int := rfl
theorem zft_12_2 : zFt 12 2 = .array .int := rfl
theorem zft_12_3 : zFt 12 3 = .int := rfl
theorem zft_12_4 : zFt 12 4 = .int := rfl
theorem zft_12_5 : zFt 12 5 = .int := rfl
theorem zft_12_6 : zFt 12 6 = .int := rfl
theorem zft_12_7 : zFt 12 7 = .int := rfl
theorem zft_12_8 : zFt 12 8 = .int := rfl
theorem zft_12_9 : zFt 12 9 = .array .int := rfl
theorem zft_12_10 : zFt 12 10 = .array .int := rfl
theorem zft_12_11 : zFt 12 11 = .array .int := rfl
theorem zft_12_12 : zFt 12 12 = .array .int := rfl
theorem zft_12_13 : zFt 12 13 = .array .int := rfl
theorem zft_12_14 : zFt 12 14 = .array .int := rfl
theorem zft_12_15 : zFt 12 15 = .array .int := rfl
theorem zft_12_16 : zFt 12 16 = .array .int := rfl
theorem zft_12_17 : zFt 12 17 = .array .long := rfl
theorem zft_12_18 : zFt 12 18 = .array .long := rfl
theorem zft_12_19 : zFt 12 19 = .array .int := rfl
theorem zft_12_20 : zFt 12 20 = .array .int := rfl
theorem zft_12_22 : zFt 12 22 = .array .int := rfl
theorem zft_12_23 : zFt 12 23 = .array .int := rfl
theorem zft_12_24 : zFt 12 24 = .array .int := rfl
theorem zft_12_25 : zFt 12 25 = .array .int := rfl
theorem zft_12_26 : zFt 12 26 = .array .boolean := rfl
theorem zft_12_30 : zFt 12 30 = .array .byte := rfl
theorem zft_12_31 : zFt 12 31 = .array .short := rfl
theorem zft_12_32 : zFt 12 32 = .array .short := rfl
theorem zft_12_33 : zFt 12 33 = .array .long := rfl
theorem zft_12_34 : zFt 12 34 = .array .long := rfl
theorem zft_12_35 : zFt 12 35 = .array .int := rfl
theorem zft_12_36 : zFt 12 36 = .array .int := rfl
theorem zft_12_37 : zFt 12 37 = .array .int := rfl
theorem zft_12_38 : zFt 12 38 = .array .int := rfl
theorem zft_12_39 : zFt 12 39 = .array .int := rfl
theorem zft_12_40 : zFt 12 40 = .array .int := rfl
theorem zft_12_41 : zFt 12 41 = .array .int := rfl
theorem zft_12_42 : zFt 12 42 = .array .int := rfl
theorem zft_12_43 : zFt 12 43 = .array .int := rfl
theorem zft_12_44 : zFt 12 44 = .array .int := rfl
theorem zft_12_45 : zFt 12 45 = .array .int := rfl
theorem zft_12_46 : zFt 12 46 = .array .int := rfl
theorem zft_12_47 : zFt 12 47 = .array .int := rfl
theorem zft_12_48 : zFt 12 48 = .array .int := rfl
theorem zft_12_49 : zFt 12 49 = .int := rfl
theorem zft_12_50 : zFt 12 50 = .int := rfl
theorem zft_12_53 : zFt 12 53 = .int := rfl
theorem zft_12_58 : zFt 12 58 = .int := rfl
theorem zft_12_59 : zFt 12 59 = .int := rfl
theorem zft_12_60 : zFt 12 60 = .int := rfl
theorem zft_12_61 : zFt 12 61 = .array .int := rfl
theorem zft_12_62 : zFt 12 62 = .array .int := rfl
theorem zft_12_63 : zFt 12 63 = .array .int := rfl
theorem zft_12_64 : zFt 12 64 = .array .int := rfl
theorem zcase {P A G : Prop} (w : P → A) (k1 : P → A → G) (k2 : ¬ P → G) : G := (Classical.em P).elim (fun p => k1 p (w p)) k2
theorem zi_ne {x y : Int32} {v : Int} (h : ¬ x = y) (e : y.toInt = v) : ¬ v = x.toInt := fun z => h (Int32.toInt_inj.mp (z.symm.trans e.symm))
-- 0: PactLedgerLaw.law([I)Z
def zw_0_524 (xs : List Value) (d : Nat) (Q : zO → zH → Prop) (J23 : zP → zP → zP → zP → Int32 → zH → Prop) (l0 : zP) (l1 : zP) (l2 : zP) (l3 : zP) (l4 : Int32) (h : zH) : Prop := ∀ x3 : Int32, x3 = (l4 + (4 : Int32)) → J23 l0 l1 l2 l3 x3 h
theorem zs_0_524 {xs : List Value} {d : Nat} {Q : zO → zH → Prop} {J23 : zP → zP → zP → zP → Int32 → zH → Prop} {l0 : zP} {l1 : zP} {l2 : zP} {l3 : zP} {l4 : Int32} {h : zH} {lv : List (Nat × Value)} (HJ23 : ∀ (l0 : zP) (l1 : zP) (l2 : zP) (l3 : zP) (l4 : Int32)  (h : zH) (lv : List (Nat × Value)), zgetl lv 0 = some (zo l0) → zgetl lv 1 = some (zo l1) → zgetl lv 2 = some (zo l2) → zgetl lv 3 = some (zo l3) → zgetl lv 4 = some (Value.int l4) → J23 l0 l1 l2 l3 l4 h → zG xs d (0, 23, lv, []) h Q) (g0 : zgetl lv 0 = some (zo l0)) (g1 : zgetl lv 1 = some (zo l1)) (g2 : zgetl lv 2 = some (zo l2)) (g3 : zgetl lv 3 = some (zo l3)) (g4 : zgetl lv 4 = some (Value.int l4)) (w : zw_0_524 xs d Q J23 l0 l1 l2 l3 l4 h) : zG xs d (0, 524, lv, []) h Q := by
  unfold zw_0_524 at w
  refine zR_inc zfe_0_524 znl_0 (by decide) zkn4 g4 (fun lv2 e1 => ?_)
  replace g0 := zgl_n1 e1 g0 rfl (Or.inl (zo_c _))
  replace g1 := zgl_n1 e1 g1 rfl (Or.inl (zo_c _))
  replace g2 := zgl_n1 e1 g2 rfl (Or.inl (zo_c _))
  replace g3 := zgl_n1 e1 g3 rfl (Or.inl (zo_c _))
  have g4 := zgl_s1 e1
  have w := w _ rfl
  refine zG_go 23 zfe_0_527 rfl ?_
  exact HJ23 _ _ _ _ _ _ _ g0 g1 g2 g3 g4 w
def zw_0_185 (xs : List Value) (d : Nat) (Q : zO → zH → Prop) (J23 : zP → zP → zP → zP → Int32 → zH → Prop) (l0 : zP) (l1 : zP) (l2 : zP) (l3 : zP) (l4 : Int32) (h : zH) : Prop := zw_0_524 xs d Q J23 l0 l1 l2 l3 l4 h
theorem zs_0_185 {xs : List Value} {d : Nat} {Q : zO → zH → Prop} {J23 : zP → zP → zP → zP → Int32 → zH → Prop} {l0 : zP} {l1 : zP} {l2 : zP} {l3 : zP} {l4 : Int32} {h : zH} {lv : List (Nat × Value)} (HJ23 : ∀ (l0 : zP) (l1 : zP) (l2 : zP) (l3 : zP) (l4 : Int32)  (h : zH) (lv : List (Nat × Value)), zgetl lv 0 = some (zo l0) → zgetl lv 1 = some (zo l1) → zgetl lv 2 = some (zo l2) → zgetl lv 3 = some (zo l3) → zgetl lv 4 = some (Value.int l4) → J23 l0 l1 l2 l3 l4 h → zG xs d (0, 23, lv, []) h Q) (g0 : zgetl lv 0 = some (zo l0)) (g1 : zgetl lv 1 = some (zo l1)) (g2 : zgetl lv 2 = some (zo l2)) (g3 : zgetl lv 3 = some (zo l3)) (g4 : zgetl lv 4 = some (Value.int l4)) (w : zw_0_185 xs d Q J23 l0 l1 l2 l3 l4 h) : zG xs d (0, 185, lv, []) h Q := by
  unfold zw_0_185 at w
  refine zG_go 524 zfe_0_185 rfl ?_
  exact zs_0_524 HJ23 g0 g1 g2 g3 g4 w
def zw_0_229 (xs : List Value) (d : Nat) (Q : zO → zH → Prop) (J23 : zP → zP → zP → zP → Int32 → zH → Prop) (l0 : zP) (l1 : zP) (l2 : zP) (l3 : zP) (l4 : Int32) (h : zH) : Prop := zw_0_524 xs d Q J23 l0 l1 l2 l3 l4 h
theorem zs_0_229 {xs : List Value} {d : Nat} {Q : zO → zH → Prop} {J23 : zP → zP → zP → zP → Int32 → zH → Prop} {l0 : zP} {l1 : zP} {l2 : zP} {l3 : zP} {l4 : Int32} {h : zH} {lv : List (Nat × Value)} (HJ23 : ∀ (l0 : zP) (l1 : zP) (l2 : zP) (l3 : zP) (l4 : Int32)  (h : zH) (lv : List (Nat × Value)), zgetl lv 0 = some (zo l0) → zgetl lv 1 = some (zo l1) → zgetl lv 2 = some (zo l2) → zgetl lv 3 = some (zo l3) → zgetl lv 4 = some (Value.int l4) → J23 l0 l1 l2 l3 l4 h → zG xs d (0, 23, lv, []) h Q) (g0 : zgetl lv 0 = some (zo l0)) (g1 : zgetl lv 1 = some (zo l1)) (g2 : zgetl lv 2 = some (zo l2)) (g3 : zgetl lv 3 = some (zo l3)) (g4 : zgetl lv 4 = some (Value.int l4)) (w : zw_0_229 xs d Q J23 l0 l1 l2 l3 l4 h) : zG xs d (0, 229, lv, []) h Q := by
  unfold zw_0_229 at w
  refine zG_go 524 zfe_0_229 rfl ?_
  exact zs_0_524 HJ23 g0 g1 g2 g3 g4 w
def zw_0_322 (xs : List Value) (d : Nat) (Q : zO → zH → Prop) (J23 : zP → zP → zP → zP → Int32 → zH → Prop) (l0 : zP) (l1 : zP) (l2 : zP) (l3 : zP) (l4 : Int32) (h : zH) : Prop := zw_0_524 xs d Q J23 l0 l1 l2 l3 l4 h
theorem zs_0_322 {xs : List Value} {d : Nat} {Q : zO → zH → Prop} {J23 : zP → zP → zP → zP → Int32 → zH → Prop} {l0 : zP} {l1 : zP} {l2 : zP} {l3 : zP} {l4 : Int32} {h : zH} {lv : List (Nat × Value)} (HJ23 : ∀ (l0 : zP) (l1 : zP) (l2 : zP) (l3 : zP) (l4 : Int32)  (h : zH) (lv : List (Nat × Value)), zgetl lv 0 = some (zo l0) → zgetl lv 1 = some (zo l1) → zgetl lv 2 = some (zo l2) → zgetl lv 3 = some (zo l3) → zgetl lv 4 = some (Value.int l4) → J23 l0 l1 l2 l3 l4 h → zG xs d (0, 23, lv, []) h Q) (g0 : zgetl lv 0 = some (zo l0)) (g1 : zgetl lv 1 = some (zo l1)) (g2 : zgetl lv 2 = some (zo l2)) (g3 : zgetl lv 3 = some (zo l3)) (g4 : zgetl lv 4 = some (Value.int l4)) (w : zw_0_322 xs d Q J23 l0 l1 l2 l3 l4 h) : zG xs d (0, 322, lv, []) h Q := by
  unfold zw_0_322 at w
  refine zG_go 524 zfe_0_322 rfl ?_
  exact zs_0_524 HJ23 g0 g1 g2 g3 g4 w
def zw_0_378 (xs : List Value) (d : Nat) (Q : zO → zH → Prop) (J23 : zP → zP → zP → zP → Int32 → zH → Prop) (l0 : zP) (l1 : zP) (l2 : zP) (l3 : zP) (l4 : Int32) (h : zH) : Prop := zw_0_524 xs d Q J23 l0 l1 l2 l3 l4 h
theorem zs_0_378 {xs : List Value} {d : Nat} {Q : zO → zH → Prop} {J23 : zP → zP → zP → zP → Int32 → zH → Prop} {l0 : zP} {l1 : zP} {l2 : zP} {l3 : zP} {l4 : Int32} {h : zH} {lv : List (Nat × Value)} (HJ23 : ∀ (l0 : zP) (l1 : zP) (l2 : zP) (l3 : zP) (l4 : Int32)  (h : zH) (lv : List (Nat × Value)), zgetl lv 0 = some (zo l0) → zgetl lv 1 = some (zo l1) → zgetl lv 2 = some (zo l2) → zgetl lv 3 = some (zo l3) → zgetl lv 4 = some (Value.int l4) → J23 l0 l1 l2 l3 l4 h → zG xs d (0, 23, lv, []) h Q) (g0 : zgetl lv 0 = some (zo l0)) (g1 : zgetl lv 1 = some (zo l1)) (g2 : zgetl lv 2 = some (zo l2)) (g3 : zgetl lv 3 = some (zo l3)) (g4 : zgetl lv 4 = some (Value.int l4)) (w : zw_0_378 xs d Q J23 l0 l1 l2 l3 l4 h) : zG xs d (0, 378, lv, []) h Q := by
  unfold zw_0_378 at w
  refine zG_go 524 zfe_0_378 rfl ?_
  exact zs_0_524 HJ23 g0 g1 g2 g3 g4 w
def zw_0_434 (xs : List Value) (d : Nat) (Q : zO → zH → Prop) (J23 : zP → zP → zP → zP → Int32 → zH → Prop) (l0 : zP) (l1 : zP) (l2 : zP) (l3 : zP) (l4 : Int32) (h : zH) : Prop := zw_0_524 xs d Q J23 l0 l1 l2 l3 l4 h
theorem zs_0_434 {xs : List Value} {d : Nat} {Q : zO → zH → Prop} {J23 : zP → zP → zP → zP → Int32 → zH → Prop} {l0 : zP} {l1 : zP} {l2 : zP} {l3 : zP} {l4 : Int32} {h : zH} {lv : List (Nat × Value)} (HJ23 : ∀ (l0 : zP) (l1 : zP) (l2 : zP) (l3 : zP) (l4 : Int32)  (h : zH) (lv : List (Nat × Value)), zgetl lv 0 = some (zo l0) → zgetl lv 1 = some (zo l1) → zgetl lv 2 = some (zo l2) → zgetl lv 3 = some (zo l3) → zgetl lv 4 = some (Value.int l4) → J23 l0 l1 l2 l3 l4 h → zG xs d (0, 23, lv, []) h Q) (g0 : zgetl lv 0 = some (zo l0)) (g1 : zgetl lv 1 = some (zo l1)) (g2 : zgetl lv 2 = some (zo l2)) (g3 : zgetl lv 3 = some (zo l3)) (g4 : zgetl lv 4 = some (Value.int l4)) (w : zw_0_434 xs d Q J23 l0 l1 l2 l3 l4 h) : zG xs d (0, 434, lv, []) h Q := by
  unfold zw_0_434 at w
  refine zG_go 524 zfe_0_434 rfl ?_
  exact zs_0_524 HJ23 g0 g1 g2 g3 g4 w
def zw_0_23 (xs : List Value) (d : Nat) (Q : zO → zH → Prop) (J23 : zP → zP → zP → zP → Int32 → zH → Prop) (l0 : zP) (l1 : zP) (l2 : zP) (l3 : zP) (l4 : Int32) (h : zH) : Prop := zLN xs l0 h fun x1 => (((x1 - (4 : Int32)) < l4 → (((1 : Int32) = 0 ∨ (1 : Int32) = 1) ∧ Q (.inl (some (Value.int (1 : Int32)))) h)) ∧ (¬ (x1 - (4 : Int32)) < l4 → zIA xs l0 l4 h fun x2 => (((x2 &&& (15 : Int32)) = (0 : Int32) → zIA xs l0 (l4 + (1 : Int32)) h fun x3 => zIA xs l0 (l4 + (2 : Int32)) h fun x4 => zIA xs l0 (l4 + (3 : Int32)) h fun x5 => zCall xs d 17 [zo l1, Value.long (((x3).toInt64 <<< (((32 : Int32)).toInt64 &&& 63)) ||| ((x4).toInt64 &&& (4294967295 : Int64))), Value.int x5, zo l3] h (zKI (fun x6 h7 => zIA xs l0 (l4 + (1 : Int32)) h7 fun x10 => zIA xs l0 (l4 + (2 : Int32)) h7 fun x11 => zIA xs l0 (l4 + (3 : Int32)) h7 fun x12 => zCV xs d 154 12 l2 [Value.long (((x10).toInt64 <<< (((32 : Int32)).toInt64 &&& 63)) ||| ((x11).toInt64 &&& (4294967295 : Int64))), Value.int x12] h7 (zKI (fun x13 h14 => zCV xs d 153 12 l2 [] h14 (zKI (fun x17 h18 => ((x17 = x6 → ((x6 = 0 → zLA l3 (0 : Int32) h18 fun x19 => ((x19 = (x13).toInt64 → zw_0_185 xs d Q J23 l0 l1 l2 l3 l4 h18) ∧ (¬ x19 = (x13).toInt64 → (((0 : Int32) = 0 ∨ (0 : Int32) = 1) ∧ Q (.inl (some (Value.int (0 : Int32)))) h18)))) ∧ (¬ x6 = 0 → zw_0_185 xs d Q J23 l0 l1 l2 l3 l4 h18))) ∧ (¬ x17 = x6 → (((0 : Int32) = 0 ∨ (0 : Int32) = 1) ∧ Q (.inl (some (Value.int (0 : Int32)))) h18)))) (fun e h => Q (.inr e) h))) (fun e h => Q (.inr e) h))) (fun e h => Q (.inr e) h))) ∧ ((x2 &&& (15 : Int32)) = (1 : Int32) → zCall xs d 20 [zo l1, zo l3] h (zKI (fun x20 h21 => zCV xs d 155 12 l2 [] h21 (zKI (fun x24 h25 => zCV xs d 153 12 l2 [] h25 (zKI (fun x28 h29 => ((x28 = x20 → ((x20 = 0 → zLA l3 (0 : Int32) h29 fun x30 => ((x30 = (x24).toInt64 → zw_0_229 xs d Q J23 l0 l1 l2 l3 l4 h29) ∧ (¬ x30 = (x24).toInt64 → (((0 : Int32) = 0 ∨ (0 : Int32) = 1) ∧ Q (.inl (some (Value.int (0 : Int32)))) h29)))) ∧ (¬ x20 = 0 → zw_0_229 xs d Q J23 l0 l1 l2 l3 l4 h29))) ∧ (¬ x28 = x20 → (((0 : Int32) = 0 ∨ (0 : Int32) = 1) ∧ Q (.inl (some (Value.int (0 : Int32)))) h29)))) (fun e h => Q (.inr e) h))) (fun e h => Q (.inr e) h))) (fun e h => Q (.inr e) h))) ∧ ((x2 &&& (15 : Int32)) = (2 : Int32) → zCV xs d 4 0 l1 [] h (zKI (fun x31 h32 => zCV xs d 196 12 l2 [] h32 (zKI (fun x33 h34 => ((x31 = x33 → zw_0_524 xs d Q J23 l0 l1 l2 l3 l4 h34) ∧ (¬ x31 = x33 → (((0 : Int32) = 0 ∨ (0 : Int32) = 1) ∧ Q (.inl (some (Value.int (0 : Int32)))) h34)))) (fun e h => Q (.inr e) h))) (fun e h => Q (.inr e) h))) ∧ ((x2 &&& (15 : Int32)) = (3 : Int32) → zIA xs l0 (l4 + (1 : Int32)) h fun x35 => zIA xs l0 (l4 + (2 : Int32)) h fun x36 => zIA xs l0 (l4 + (3 : Int32)) h fun x37 => zCall xs d 93 [zo l1, Value.int x35, Value.int x36, Value.int x37, zo l3] h (zKI (fun x38 h39 => zIA xs l0 (l4 + (1 : Int32)) h39 fun x42 => zIA xs l0 (l4 + (2 : Int32)) h39 fun x43 => zIA xs l0 (l4 + (3 : Int32)) h39 fun x44 => zCV xs d 197 12 l2 [Value.int x42, Value.int x43, Value.int x44] h39 (zKI (fun x45 h46 => zCV xs d 153 12 l2 [] h46 (zKI (fun x49 h50 => ((x49 = x38 → ((x38 = 0 → zLA l3 (0 : Int32) h50 fun x51 => ((x51 = (x45).toInt64 → zw_0_322 xs d Q J23 l0 l1 l2 l3 l4 h50) ∧ (¬ x51 = (x45).toInt64 → (((0 : Int32) = 0 ∨ (0 : Int32) = 1) ∧ Q (.inl (some (Value.int (0 : Int32)))) h50)))) ∧ (¬ x38 = 0 → zw_0_322 xs d Q J23 l0 l1 l2 l3 l4 h50))) ∧ (¬ x49 = x38 → (((0 : Int32) = 0 ∨ (0 : Int32) = 1) ∧ Q (.inl (some (Value.int (0 : Int32)))) h50)))) (fun e h => Q (.inr e) h))) (fun e h => Q (.inr e) h))) (fun e h => Q (.inr e) h))) ∧ ((x2 &&& (15 : Int32)) = (4 : Int32) → zIA xs l0 (l4 + (1 : Int32)) h fun x52 => zCall xs d 146 [zo l1, Value.int x52, zo l3] h (zKI (fun x53 h54 => zIA xs l0 (l4 + (1 : Int32)) h54 fun x57 => zCV xs d 227 12 l2 [Value.int x57] h54 (zKI (fun x58 h59 => zCV xs d 153 12 l2 [] h59 (zKI (fun x62 h63 => ((x62 = x53 → ((x53 = 0 → zLA l3 (0 : Int32) h63 fun x64 => ((x64 = (x58).toInt64 → zw_0_378 xs d Q J23 l0 l1 l2 l3 l4 h63) ∧ (¬ x64 = (x58).toInt64 → (((0 : Int32) = 0 ∨ (0 : Int32) = 1) ∧ Q (.inl (some (Value.int (0 : Int32)))) h63)))) ∧ (¬ x53 = 0 → zw_0_378 xs d Q J23 l0 l1 l2 l3 l4 h63))) ∧ (¬ x62 = x53 → (((0 : Int32) = 0 ∨ (0 : Int32) = 1) ∧ Q (.inl (some (Value.int (0 : Int32)))) h63)))) (fun e h => Q (.inr e) h))) (fun e h => Q (.inr e) h))) (fun e h => Q (.inr e) h))) ∧ ((x2 &&& (15 : Int32)) = (5 : Int32) → zIA xs l0 (l4 + (1 : Int32)) h fun x65 => zCall xs d 149 [zo l1, Value.int x65, zo l3] h (zKI (fun x66 h67 => zIA xs l0 (l4 + (1 : Int32)) h67 fun x70 => zCV xs d 228 12 l2 [Value.int x70] h67 (zKI (fun x71 h72 => zCV xs d 153 12 l2 [] h72 (zKI (fun x75 h76 => ((x75 = x66 → ((x66 = 0 → zLA l3 (0 : Int32) h76 fun x77 => ((x77 = (x71).toInt64 → zw_0_434 xs d Q J23 l0 l1 l2 l3 l4 h76) ∧ (¬ x77 = (x71).toInt64 → (((0 : Int32) = 0 ∨ (0 : Int32) = 1) ∧ Q (.inl (some (Value.int (0 : Int32)))) h76)))) ∧ (¬ x66 = 0 → zw_0_434 xs d Q J23 l0 l1 l2 l3 l4 h76))) ∧ (¬ x75 = x66 → (((0 : Int32) = 0 ∨ (0 : Int32) = 1) ∧ Q (.inl (some (Value.int (0 : Int32)))) h76)))) (fun e h => Q (.inr e) h))) (fun e h => Q (.inr e) h))) (fun e h => Q (.inr e) h))) ∧ ((x2 &&& (15 : Int32)) = (6 : Int32) → zIA xs l0 (l4 + (1 : Int32)) h fun x78 => zCV xs d 5 0 l1 [Value.int x78] h (zKI (fun x79 h80 => zIA xs l0 (l4 + (1 : Int32)) h80 fun x81 => zCV xs d 229 12 l2 [Value.int x81] h80 (zKI (fun x82 h83 => ((x79 = x82 → zw_0_524 xs d Q J23 l0 l1 l2 l3 l4 h83) ∧ (¬ x79 = x82 → (((0 : Int32) = 0 ∨ (0 : Int32) = 1) ∧ Q (.inl (some (Value.int (0 : Int32)))) h83)))) (fun e h => Q (.inr e) h))) (fun e h => Q (.inr e) h))) ∧ ((x2 &&& (15 : Int32)) = (7 : Int32) → zIA xs l0 (l4 + (1 : Int32)) h fun x84 => zIA xs l0 (l4 + (2 : Int32)) h fun x85 => zCV xs d 7 0 l1 [Value.int x84, Value.int x85] h (zKI (fun x86 h87 => zIA xs l0 (l4 + (1 : Int32)) h87 fun x88 => zIA xs l0 (l4 + (2 : Int32)) h87 fun x89 => zCV xs d 230 12 l2 [Value.int x88, Value.int x89] h87 (zKI (fun x90 h91 => ((x86 = x90 → zw_0_524 xs d Q J23 l0 l1 l2 l3 l4 h91) ∧ (¬ x86 = x90 → (((0 : Int32) = 0 ∨ (0 : Int32) = 1) ∧ Q (.inl (some (Value.int (0 : Int32)))) h91)))) (fun e h => Q (.inr e) h))) (fun e h => Q (.inr e) h))) ∧ ((x2 &&& (15 : Int32)) = (8 : Int32) → zIA xs l0 (l4 + (1 : Int32)) h fun x92 => zCV xs d 16 0 l1 [Value.int x92] h (zKI (fun x93 h94 => zIA xs l0 (l4 + (1 : Int32)) h94 fun x95 => zCV xs d 231 12 l2 [Value.int x95] h94 (zKI (fun x96 h97 => ((x93 = x96 → zw_0_524 xs d Q J23 l0 l1 l2 l3 l4 h97) ∧ (¬ x93 = x96 → (((0 : Int32) = 0 ∨ (0 : Int32) = 1) ∧ Q (.inl (some (Value.int (0 : Int32)))) h97)))) (fun e h => Q (.inr e) h))) (fun e h => Q (.inr e) h))) ∧ (¬ ((x2 &&& (15 : Int32)) = (0 : Int32)) ∧ ¬ ((x2 &&& (15 : Int32)) = (1 : Int32)) ∧ ¬ ((x2 &&& (15 : Int32)) = (2 : Int32)) ∧ ¬ ((x2 &&& (15 : Int32)) = (3 : Int32)) ∧ ¬ ((x2 &&& (15 : Int32)) = (4 : Int32)) ∧ ¬ ((x2 &&& (15 : Int32)) = (5 : Int32)) ∧ ¬ ((x2 &&& (15 : Int32)) = (6 : Int32)) ∧ ¬ ((x2 &&& (15 : Int32)) = (7 : Int32)) ∧ ¬ ((x2 &&& (15 : Int32)) = (8 : Int32)) → zw_0_524 xs d Q J23 l0 l1 l2 l3 l4 h))))
theorem zsw_0_39 {x : Int32} (st : List Value) (q0 : ¬ (x = (0 : Int32))) (q1 : ¬ (x = (1 : Int32))) (q2 : ¬ (x = (2 : Int32))) (q3 : ¬ (x = (3 : Int32))) (q4 : ¬ (x = (4 : Int32))) (q5 : ¬ (x = (5 : Int32))) (q6 : ¬ (x = (6 : Int32))) (q7 : ¬ (x = (7 : Int32))) (q8 : ¬ (x = (8 : Int32))) : zbr 39 (.tableswitch 485 0 8 #[49, 149, 193, 206, 286, 342, 398, 423, 460]) (.int x :: st) = some (524, st) := by
  rcases zts_all (0 : Int) (8 : Int) x with z | ⟨j, hj, z⟩
  · unfold zbr; dsimp only; rw [if_pos z]; rfl
  · have hj : j < 9 := hj
    have hj2 : j = 0 ∨ j = 1 ∨ j = 2 ∨ j = 3 ∨ j = 4 ∨ j = 5 ∨ j = 6 ∨ j = 7 ∨ j = 8 := by omega
    rcases hj2 with rfl | rfl | rfl | rfl | rfl | rfl | rfl | rfl | rfl
    · exact absurd (z.trans rfl) q0
    · exact absurd (z.trans rfl) q1
    · exact absurd (z.trans rfl) q2
    · exact absurd (z.trans rfl) q3
    · exact absurd (z.trans rfl) q4
    · exact absurd (z.trans rfl) q5
    · exact absurd (z.trans rfl) q6
    · exact absurd (z.trans rfl) q7
    · exact absurd (z.trans rfl) q8
theorem zs_0_23 {xs : List Value} {d : Nat} {Q : zO → zH → Prop} {J23 : zP → zP → zP → zP → Int32 → zH → Prop} {l0 : zP} {l1 : zP} {l2 : zP} {l3 : zP} {l4 : Int32} {h : zH} {lv : List (Nat × Value)} (HJ23 : ∀ (l0 : zP) (l1 : zP) (l2 : zP) (l3 : zP) (l4 : Int32)  (h : zH) (lv : List (Nat × Value)), zgetl lv 0 = some (zo l0) → zgetl lv 1 = some (zo l1) → zgetl lv 2 = some (zo l2) → zgetl lv 3 = some (zo l3) → zgetl lv 4 = some (Value.int l4) → J23 l0 l1 l2 l3 l4 h → zG xs d (0, 23, lv, []) h Q) (g0 : zgetl lv 0 = some (zo l0)) (g1 : zgetl lv 1 = some (zo l1)) (g2 : zgetl lv 2 = some (zo l2)) (g3 : zgetl lv 3 = some (zo l3)) (g4 : zgetl lv 4 = some (Value.int l4)) (w : zw_0_23 xs d Q J23 l0 l1 l2 l3 l4 h) : zG xs d (0, 23, lv, []) h Q := by
  unfold zw_0_23 at w
  refine zR_il zfe_0_23 g4 ?_
  refine zR_aln zfe_0_25 g0 ?_
  obtain ⟨_, _, _, hp, ho, ht, w⟩ := w
  refine zR_len zfe_0_26 hp ho ht ?_
  refine zG_p zfe_0_27 (zki_4 _) ?_
  refine zG_p zfe_0_28 rfl ?_
  refine zG_ic 530 zfe_0_29 rfl (fun q => ?_) (fun q => ?_)
  · have w := w.1 q
    refine zG_p zfe_0_530 (zki_1 _) ?_
    exact zR_rb zfe_0_531 zrt_0 w.1 w.2
  · have w := w.2 q
    refine zR_aln zfe_0_32 g0 ?_
    refine zR_il zfe_0_33 g4 ?_
    obtain ⟨_, _, _, hp, ho, hj, hv, w⟩ := w
    refine zR_ia zfe_0_35 hp ho hj hv ?_
    refine zG_p zfe_0_36 (zkb_15 _) ?_
    refine zG_p zfe_0_38 rfl ?_
    refine zcase w.1 (fun q w => ?_) (fun q0 => ?_)
    · refine zR_sw (t := 88) zfe_0_39 rfl (by rw [q]; rfl) ?_
      refine zR_aln zfe_0_88 g1 ?_
      refine zR_aln zfe_0_89 g0 ?_
      refine zR_il zfe_0_90 g4 ?_
      refine zG_p zfe_0_92 (zki_1 _) ?_
      refine zG_p zfe_0_93 rfl ?_
      obtain ⟨_, _, _, hp, ho, hj, hv, w⟩ := w
      refine zR_ia zfe_0_94 hp ho hj hv ?_
      refine zG_p zfe_0_95 rfl ?_
      refine zG_p zfe_0_96 (zkb_32 _) ?_
      refine zG_p zfe_0_98 rfl ?_
      refine zR_aln zfe_0_99 g0 ?_
      refine zR_il zfe_0_100 g4 ?_
      refine zG_p zfe_0_102 (zki_2 _) ?_
      refine zG_p zfe_0_103 rfl ?_
      obtain ⟨_, _, _, hp, ho, hj, hv, w⟩ := w
      refine zR_ia zfe_0_104 hp ho hj hv ?_
      refine zG_p zfe_0_105 rfl ?_
      refine zR_ldc zfe_0_106 zlk_0_40 (v := 4294967295) rfl ?_
      refine zG_p zfe_0_109 rfl ?_
      refine zG_p zfe_0_110 rfl ?_
      refine zR_aln zfe_0_111 g0 ?_
      refine zR_il zfe_0_112 g4 ?_
      refine zG_p zfe_0_114 (zki_3 _) ?_
      refine zG_p zfe_0_115 rfl ?_
      obtain ⟨_, _, _, hp, ho, hj, hv, w⟩ := w
      refine zR_ia zfe_0_116 hp ho hj hv ?_
      refine zR_aln zfe_0_117 g3 ?_
      refine zR_cs (args := [_, _, _, _]) (rest := []) zfe_0_118 zlk_0_42 (by decide) rfl rfl (by decide) (zent_of znl_17 (by simp only [List.map_cons, List.map_nil, List.sum_cons, List.sum_nil, zo_c, zci, zcJ]; decide) (by decide)) (zCall_mono w (zA_i (fun x6 h7 w => ?_) (fun e h w => zA_x rfl w)))
      refine zR_is zfe_0_121 znl_0 (by decide) (fun lv9 e8 => ?_)
      replace g0 := zgl_n1 e8 g0 rfl (Or.inl (zo_c _))
      replace g1 := zgl_n1 e8 g1 rfl (Or.inl (zo_c _))
      replace g2 := zgl_n1 e8 g2 rfl (Or.inl (zo_c _))
      replace g3 := zgl_n1 e8 g3 rfl (Or.inl (zo_c _))
      replace g4 := zgl_n1 e8 g4 rfl (Or.inl rfl)
      have g5 := zgl_s1 e8
      refine zR_aln zfe_0_123 g2 ?_
      refine zR_aln zfe_0_124 g0 ?_
      refine zR_il zfe_0_125 g4 ?_
      refine zG_p zfe_0_127 (zki_1 _) ?_
      refine zG_p zfe_0_128 rfl ?_
      obtain ⟨_, _, _, hp, ho, hj, hv, w⟩ := w
      refine zR_ia zfe_0_129 hp ho hj hv ?_
      refine zG_p zfe_0_130 rfl ?_
      refine zG_p zfe_0_131 (zkb_32 _) ?_
      refine zG_p zfe_0_133 rfl ?_
      refine zR_aln zfe_0_134 g0 ?_
      refine zR_il zfe_0_135 g4 ?_
      refine zG_p zfe_0_137 (zki_2 _) ?_
      refine zG_p zfe_0_138 rfl ?_
      obtain ⟨_, _, _, hp, ho, hj, hv, w⟩ := w
      refine zR_ia zfe_0_139 hp ho hj hv ?_
      refine zG_p zfe_0_140 rfl ?_
      refine zR_ldc zfe_0_141 zlk_0_40 (v := 4294967295) rfl ?_
      refine zG_p zfe_0_144 rfl ?_
      refine zG_p zfe_0_145 rfl ?_
      refine zR_aln zfe_0_146 g0 ?_
      refine zR_il zfe_0_147 g4 ?_
      refine zG_p zfe_0_149 (zki_3 _) ?_
      refine zG_p zfe_0_150 rfl ?_
      obtain ⟨_, _, _, hp, ho, hj, hv, w⟩ := w
      refine zR_ia zfe_0_151 hp ho hj hv ?_
      obtain ⟨_, _, hp, ho, w⟩ := w
      refine zR_cv (args := [_, _]) (rest := []) zfe_0_152 zlk_0_47 rfl rfl hp ho rfl (by decide) (zent_of znl_154 (by simp only [List.map_cons, List.map_nil, List.sum_cons, List.sum_nil, zo_c, zci, zcJ]; decide) (by decide)) (zCall_mono w (zA_i (fun x13 h14 w => ?_) (fun e h w => zA_x rfl w)))
      refine zR_is zfe_0_155 znl_0 (by decide) (fun lv16 e15 => ?_)
      replace g0 := zgl_n1 e15 g0 rfl (Or.inl (zo_c _))
      replace g1 := zgl_n1 e15 g1 rfl (Or.inl (zo_c _))
      replace g2 := zgl_n1 e15 g2 rfl (Or.inl (zo_c _))
      replace g3 := zgl_n1 e15 g3 rfl (Or.inl (zo_c _))
      replace g4 := zgl_n1 e15 g4 rfl (Or.inl rfl)
      replace g5 := zgl_n1 e15 g5 rfl (Or.inl rfl)
      have g6 := zgl_s1 e15
      refine zR_aln zfe_0_157 g2 ?_
      obtain ⟨_, _, hp, ho, w⟩ := w
      refine zR_cv (args := []) (rest := []) zfe_0_158 zlk_0_48 rfl rfl hp ho rfl (by decide) (zent_of znl_153 (by simp only [List.map_cons, List.map_nil, List.sum_cons, List.sum_nil, zo_c, zci, zcJ]; decide) (by decide)) (zCall_mono w (zA_i (fun x17 h18 w => ?_) (fun e h w => zA_x rfl w)))
      refine zR_il zfe_0_161 g5 ?_
      refine zG_ic 168 zfe_0_163 rfl (fun q => ?_) (fun q => ?_)
      · have w := w.1 q
        refine zR_il zfe_0_168 g5 ?_
        refine zG_if 185 zfe_0_170 rfl (fun q => ?_) (fun q => ?_)
        · have w := w.2 q
          exact zs_0_185 HJ23 g0 g1 g2 g3 g4 w
        · have w := w.1 (Decidable.not_not.mp q)
          refine zR_aln zfe_0_173 g3 ?_
          refine zG_p zfe_0_174 (zki_0 _) ?_
          obtain ⟨_, _, _, hp, ho, hj, hv, w⟩ := w
          refine zR_la zfe_0_175 hp ho hj hv ?_
          refine zR_il zfe_0_176 g6 ?_
          refine zG_p zfe_0_178 rfl ?_
          refine zG_p zfe_0_179 rfl ?_
          refine zG_if 185 zfe_0_180 rfl (fun q => ?_) (fun q => ?_)
          · have w := w.1 (zlc_eq.mp q)
            exact zs_0_185 HJ23 g0 g1 g2 g3 g4 w
          · have w := w.2 (fun z => q (zlc_eq.mpr z))
            refine zG_p zfe_0_183 (zki_0 _) ?_
            exact zR_rb zfe_0_184 zrt_0 w.1 w.2
      · have w := w.2 q
        refine zG_p zfe_0_166 (zki_0 _) ?_
        exact zR_rb zfe_0_167 zrt_0 w.1 w.2
    refine zcase w.2.1 (fun q w => ?_) (fun q1 => ?_)
    · refine zR_sw (t := 188) zfe_0_39 rfl (by rw [q]; rfl) ?_
      refine zR_aln zfe_0_188 g1 ?_
      refine zR_aln zfe_0_189 g3 ?_
      refine zR_cs (args := [_, _]) (rest := []) zfe_0_190 zlk_0_51 (by decide) rfl rfl (by decide) (zent_of znl_20 (by simp only [List.map_cons, List.map_nil, List.sum_cons, List.sum_nil, zo_c, zci, zcJ]; decide) (by decide)) (zCall_mono w (zA_i (fun x20 h21 w => ?_) (fun e h w => zA_x rfl w)))
      refine zR_is zfe_0_193 znl_0 (by decide) (fun lv23 e22 => ?_)
      replace g0 := zgl_n1 e22 g0 rfl (Or.inl (zo_c _))
      replace g1 := zgl_n1 e22 g1 rfl (Or.inl (zo_c _))
      replace g2 := zgl_n1 e22 g2 rfl (Or.inl (zo_c _))
      replace g3 := zgl_n1 e22 g3 rfl (Or.inl (zo_c _))
      replace g4 := zgl_n1 e22 g4 rfl (Or.inl rfl)
      have g5 := zgl_s1 e22
      refine zR_aln zfe_0_195 g2 ?_
      obtain ⟨_, _, hp, ho, w⟩ := w
      refine zR_cv (args := []) (rest := []) zfe_0_196 zlk_0_54 rfl rfl hp ho rfl (by decide) (zent_of znl_155 (by simp only [List.map_cons, List.map_nil, List.sum_cons, List.sum_nil, zo_c, zci, zcJ]; decide) (by decide)) (zCall_mono w (zA_i (fun x24 h25 w => ?_) (fun e h w => zA_x rfl w)))
      refine zR_is zfe_0_199 znl_0 (by decide) (fun lv27 e26 => ?_)
      replace g0 := zgl_n1 e26 g0 rfl (Or.inl (zo_c _))
      replace g1 := zgl_n1 e26 g1 rfl (Or.inl (zo_c _))
      replace g2 := zgl_n1 e26 g2 rfl (Or.inl (zo_c _))
      replace g3 := zgl_n1 e26 g3 rfl (Or.inl (zo_c _))
      replace g4 := zgl_n1 e26 g4 rfl (Or.inl rfl)
      replace g5 := zgl_n1 e26 g5 rfl (Or.inl rfl)
      have g6 := zgl_s1 e26
      refine zR_aln zfe_0_201 g2 ?_
      obtain ⟨_, _, hp, ho, w⟩ := w
      refine zR_cv (args := []) (rest := []) zfe_0_202 zlk_0_48 rfl rfl hp ho rfl (by decide) (zent_of znl_153 (by simp only [List.map_cons, List.map_nil, List.sum_cons, List.sum_nil, zo_c, zci, zcJ]; decide) (by decide)) (zCall_mono w (zA_i (fun x28 h29 w => ?_) (fun e h w => zA_x rfl w)))
      refine zR_il zfe_0_205 g5 ?_
      refine zG_ic 212 zfe_0_207 rfl (fun q => ?_) (fun q => ?_)
      · have w := w.1 q
        refine zR_il zfe_0_212 g5 ?_
        refine zG_if 229 zfe_0_214 rfl (fun q => ?_) (fun q => ?_)
        · have w := w.2 q
          exact zs_0_229 HJ23 g0 g1 g2 g3 g4 w
        · have w := w.1 (Decidable.not_not.mp q)
          refine zR_aln zfe_0_217 g3 ?_
          refine zG_p zfe_0_218 (zki_0 _) ?_
          obtain ⟨_, _, _, hp, ho, hj, hv, w⟩ := w
          refine zR_la zfe_0_219 hp ho hj hv ?_
          refine zR_il zfe_0_220 g6 ?_
          refine zG_p zfe_0_222 rfl ?_
          refine zG_p zfe_0_223 rfl ?_
          refine zG_if 229 zfe_0_224 rfl (fun q => ?_) (fun q => ?_)
          · have w := w.1 (zlc_eq.mp q)
            exact zs_0_229 HJ23 g0 g1 g2 g3 g4 w
          · have w := w.2 (fun z => q (zlc_eq.mpr z))
            refine zG_p zfe_0_227 (zki_0 _) ?_
            exact zR_rb zfe_0_228 zrt_0 w.1 w.2
      · have w := w.2 q
        refine zG_p zfe_0_210 (zki_0 _) ?_
        exact zR_rb zfe_0_211 zrt_0 w.1 w.2
    refine zcase w.2.2.1 (fun q w => ?_) (fun q2 => ?_)
    · refine zR_sw (t := 232) zfe_0_39 rfl (by rw [q]; rfl) ?_
      refine zR_aln zfe_0_232 g1 ?_
      obtain ⟨_, _, hp, ho, w⟩ := w
      refine zR_cv (args := []) (rest := []) zfe_0_233 zlk_0_55 rfl rfl hp ho rfl (by decide) (zent_of znl_4 (by simp only [List.map_cons, List.map_nil, List.sum_cons, List.sum_nil, zo_c, zci, zcJ]; decide) (by decide)) (zCall_mono w (zA_i (fun x31 h32 w => ?_) (fun e h w => zA_x rfl w)))
      refine zR_aln zfe_0_236 g2 ?_
      obtain ⟨_, _, hp, ho, w⟩ := w
      refine zR_cv (args := []) (rest := [_]) zfe_0_237 zlk_0_58 rfl rfl hp ho rfl (by simp only [List.map_cons, List.map_nil, List.sum_cons, List.sum_nil, zo_c, zci, zcJ]; decide) (zent_of znl_196 (by simp only [List.map_cons, List.map_nil, List.sum_cons, List.sum_nil, zo_c, zci, zcJ]; decide) (by decide)) (zCall_mono w (zA_i (fun x33 h34 w => ?_) (fun e h w => zA_x rfl w)))
      refine zG_ic 524 zfe_0_240 rfl (fun q => ?_) (fun q => ?_)
      · have w := w.1 q
        exact zs_0_524 HJ23 g0 g1 g2 g3 g4 w
      · have w := w.2 q
        refine zG_p zfe_0_243 (zki_0 _) ?_
        exact zR_rb zfe_0_244 zrt_0 w.1 w.2
    refine zcase w.2.2.2.1 (fun q w => ?_) (fun q3 => ?_)
    · refine zR_sw (t := 245) zfe_0_39 rfl (by rw [q]; rfl) ?_
      refine zR_aln zfe_0_245 g1 ?_
      refine zR_aln zfe_0_246 g0 ?_
      refine zR_il zfe_0_247 g4 ?_
      refine zG_p zfe_0_249 (zki_1 _) ?_
      refine zG_p zfe_0_250 rfl ?_
      obtain ⟨_, _, _, hp, ho, hj, hv, w⟩ := w
      refine zR_ia zfe_0_251 hp ho hj hv ?_
      refine zR_aln zfe_0_252 g0 ?_
      refine zR_il zfe_0_253 g4 ?_
      refine zG_p zfe_0_255 (zki_2 _) ?_
      refine zG_p zfe_0_256 rfl ?_
      obtain ⟨_, _, _, hp, ho, hj, hv, w⟩ := w
      refine zR_ia zfe_0_257 hp ho hj hv ?_
      refine zR_aln zfe_0_258 g0 ?_
      refine zR_il zfe_0_259 g4 ?_
      refine zG_p zfe_0_261 (zki_3 _) ?_
      refine zG_p zfe_0_262 rfl ?_
      obtain ⟨_, _, _, hp, ho, hj, hv, w⟩ := w
      refine zR_ia zfe_0_263 hp ho hj hv ?_
      refine zR_aln zfe_0_264 g3 ?_
      refine zR_cs (args := [_, _, _, _, _]) (rest := []) zfe_0_265 zlk_0_59 (by decide) rfl rfl (by decide) (zent_of znl_93 (by simp only [List.map_cons, List.map_nil, List.sum_cons, List.sum_nil, zo_c, zci, zcJ]; decide) (by decide)) (zCall_mono w (zA_i (fun x38 h39 w => ?_) (fun e h w => zA_x rfl w)))
      refine zR_is zfe_0_268 znl_0 (by decide) (fun lv41 e40 => ?_)
      replace g0 := zgl_n1 e40 g0 rfl (Or.inl (zo_c _))
      replace g1 := zgl_n1 e40 g1 rfl (Or.inl (zo_c _))
      replace g2 := zgl_n1 e40 g2 rfl (Or.inl (zo_c _))
      replace g3 := zgl_n1 e40 g3 rfl (Or.inl (zo_c _))
      replace g4 := zgl_n1 e40 g4 rfl (Or.inl rfl)
      have g5 := zgl_s1 e40
      refine zR_aln zfe_0_270 g2 ?_
      refine zR_aln zfe_0_271 g0 ?_
      refine zR_il zfe_0_272 g4 ?_
      refine zG_p zfe_0_274 (zki_1 _) ?_
      refine zG_p zfe_0_275 rfl ?_
      obtain ⟨_, _, _, hp, ho, hj, hv, w⟩ := w
      refine zR_ia zfe_0_276 hp ho hj hv ?_
      refine zR_aln zfe_0_277 g0 ?_
      refine zR_il zfe_0_278 g4 ?_
      refine zG_p zfe_0_280 (zki_2 _) ?_
      refine zG_p zfe_0_281 rfl ?_
      obtain ⟨_, _, _, hp, ho, hj, hv, w⟩ := w
      refine zR_ia zfe_0_282 hp ho hj hv ?_
      refine zR_aln zfe_0_283 g0 ?_
      refine zR_il zfe_0_284 g4 ?_
      refine zG_p zfe_0_286 (zki_3 _) ?_
      refine zG_p zfe_0_287 rfl ?_
      obtain ⟨_, _, _, hp, ho, hj, hv, w⟩ := w
      refine zR_ia zfe_0_288 hp ho hj hv ?_
      obtain ⟨_, _, hp, ho, w⟩ := w
      refine zR_cv (args := [_, _, _]) (rest := []) zfe_0_289 zlk_0_62 rfl rfl hp ho rfl (by decide) (zent_of znl_197 (by simp only [List.map_cons, List.map_nil, List.sum_cons, List.sum_nil, zo_c, zci, zcJ]; decide) (by decide)) (zCall_mono w (zA_i (fun x45 h46 w => ?_) (fun e h w => zA_x rfl w)))
      refine zR_is zfe_0_292 znl_0 (by decide) (fun lv48 e47 => ?_)
      replace g0 := zgl_n1 e47 g0 rfl (Or.inl (zo_c _))
      replace g1 := zgl_n1 e47 g1 rfl (Or.inl (zo_c _))
      replace g2 := zgl_n1 e47 g2 rfl (Or.inl (zo_c _))
      replace g3 := zgl_n1 e47 g3 rfl (Or.inl (zo_c _))
      replace g4 := zgl_n1 e47 g4 rfl (Or.inl rfl)
      replace g5 := zgl_n1 e47 g5 rfl (Or.inl rfl)
      have g6 := zgl_s1 e47
      refine zR_aln zfe_0_294 g2 ?_
      obtain ⟨_, _, hp, ho, w⟩ := w
      refine zR_cv (args := []) (rest := []) zfe_0_295 zlk_0_48 rfl rfl hp ho rfl (by decide) (zent_of znl_153 (by simp only [List.map_cons, List.map_nil, List.sum_cons, List.sum_nil, zo_c, zci, zcJ]; decide) (by decide)) (zCall_mono w (zA_i (fun x49 h50 w => ?_) (fun e h w => zA_x rfl w)))
      refine zR_il zfe_0_298 g5 ?_
      refine zG_ic 305 zfe_0_300 rfl (fun q => ?_) (fun q => ?_)
      · have w := w.1 q
        refine zR_il zfe_0_305 g5 ?_
        refine zG_if 322 zfe_0_307 rfl (fun q => ?_) (fun q => ?_)
        · have w := w.2 q
          exact zs_0_322 HJ23 g0 g1 g2 g3 g4 w
        · have w := w.1 (Decidable.not_not.mp q)
          refine zR_aln zfe_0_310 g3 ?_
          refine zG_p zfe_0_311 (zki_0 _) ?_
          obtain ⟨_, _, _, hp, ho, hj, hv, w⟩ := w
          refine zR_la zfe_0_312 hp ho hj hv ?_
          refine zR_il zfe_0_313 g6 ?_
          refine zG_p zfe_0_315 rfl ?_
          refine zG_p zfe_0_316 rfl ?_
          refine zG_if 322 zfe_0_317 rfl (fun q => ?_) (fun q => ?_)
          · have w := w.1 (zlc_eq.mp q)
            exact zs_0_322 HJ23 g0 g1 g2 g3 g4 w
          · have w := w.2 (fun z => q (zlc_eq.mpr z))
            refine zG_p zfe_0_320 (zki_0 _) ?_
            exact zR_rb zfe_0_321 zrt_0 w.1 w.2
      · have w := w.2 q
        refine zG_p zfe_0_303 (zki_0 _) ?_
        exact zR_rb zfe_0_304 zrt_0 w.1 w.2
    refine zcase w.2.2.2.2.1 (fun q w => ?_) (fun q4 => ?_)
    · refine zR_sw (t := 325) zfe_0_39 rfl (by rw [q]; rfl) ?_
      refine zR_aln zfe_0_325 g1 ?_
      refine zR_aln zfe_0_326 g0 ?_
      refine zR_il zfe_0_327 g4 ?_
      refine zG_p zfe_0_329 (zki_1 _) ?_
      refine zG_p zfe_0_330 rfl ?_
      obtain ⟨_, _, _, hp, ho, hj, hv, w⟩ := w
      refine zR_ia zfe_0_331 hp ho hj hv ?_
      refine zR_aln zfe_0_332 g3 ?_
      refine zR_cs (args := [_, _, _]) (rest := []) zfe_0_333 zlk_0_63 (by decide) rfl rfl (by decide) (zent_of znl_146 (by simp only [List.map_cons, List.map_nil, List.sum_cons, List.sum_nil, zo_c, zci, zcJ]; decide) (by decide)) (zCall_mono w (zA_i (fun x53 h54 w => ?_) (fun e h w => zA_x rfl w)))
      refine zR_is zfe_0_336 znl_0 (by decide) (fun lv56 e55 => ?_)
      replace g0 := zgl_n1 e55 g0 rfl (Or.inl (zo_c _))
      replace g1 := zgl_n1 e55 g1 rfl (Or.inl (zo_c _))
      replace g2 := zgl_n1 e55 g2 rfl (Or.inl (zo_c _))
      replace g3 := zgl_n1 e55 g3 rfl (Or.inl (zo_c _))
      replace g4 := zgl_n1 e55 g4 rfl (Or.inl rfl)
      have g5 := zgl_s1 e55
      refine zR_aln zfe_0_338 g2 ?_
      refine zR_aln zfe_0_339 g0 ?_
      refine zR_il zfe_0_340 g4 ?_
      refine zG_p zfe_0_342 (zki_1 _) ?_
      refine zG_p zfe_0_343 rfl ?_
      obtain ⟨_, _, _, hp, ho, hj, hv, w⟩ := w
      refine zR_ia zfe_0_344 hp ho hj hv ?_
      obtain ⟨_, _, hp, ho, w⟩ := w
      refine zR_cv (args := [_]) (rest := []) zfe_0_345 zlk_0_66 rfl rfl hp ho rfl (by decide) (zent_of znl_227 (by simp only [List.map_cons, List.map_nil, List.sum_cons, List.sum_nil, zo_c, zci, zcJ]; decide) (by decide)) (zCall_mono w (zA_i (fun x58 h59 w => ?_) (fun e h w => zA_x rfl w)))
      refine zR_is zfe_0_348 znl_0 (by decide) (fun lv61 e60 => ?_)
      replace g0 := zgl_n1 e60 g0 rfl (Or.inl (zo_c _))
      replace g1 := zgl_n1 e60 g1 rfl (Or.inl (zo_c _))
      replace g2 := zgl_n1 e60 g2 rfl (Or.inl (zo_c _))
      replace g3 := zgl_n1 e60 g3 rfl (Or.inl (zo_c _))
      replace g4 := zgl_n1 e60 g4 rfl (Or.inl rfl)
      replace g5 := zgl_n1 e60 g5 rfl (Or.inl rfl)
      have g6 := zgl_s1 e60
      refine zR_aln zfe_0_350 g2 ?_
      obtain ⟨_, _, hp, ho, w⟩ := w
      refine zR_cv (args := []) (rest := []) zfe_0_351 zlk_0_48 rfl rfl hp ho rfl (by decide) (zent_of znl_153 (by simp only [List.map_cons, List.map_nil, List.sum_cons, List.sum_nil, zo_c, zci, zcJ]; decide) (by decide)) (zCall_mono w (zA_i (fun x62 h63 w => ?_) (fun e h w => zA_x rfl w)))
      refine zR_il zfe_0_354 g5 ?_
      refine zG_ic 361 zfe_0_356 rfl (fun q => ?_) (fun q => ?_)
      · have w := w.1 q
        refine zR_il zfe_0_361 g5 ?_
        refine zG_if 378 zfe_0_363 rfl (fun q => ?_) (fun q => ?_)
        · have w := w.2 q
          exact zs_0_378 HJ23 g0 g1 g2 g3 g4 w
        · have w := w.1 (Decidable.not_not.mp q)
          refine zR_aln zfe_0_366 g3 ?_
          refine zG_p zfe_0_367 (zki_0 _) ?_
          obtain ⟨_, _, _, hp, ho, hj, hv, w⟩ := w
          refine zR_la zfe_0_368 hp ho hj hv ?_
          refine zR_il zfe_0_369 g6 ?_
          refine zG_p zfe_0_371 rfl ?_
          refine zG_p zfe_0_372 rfl ?_
          refine zG_if 378 zfe_0_373 rfl (fun q => ?_) (fun q => ?_)
          · have w := w.1 (zlc_eq.mp q)
            exact zs_0_378 HJ23 g0 g1 g2 g3 g4 w
          · have w := w.2 (fun z => q (zlc_eq.mpr z))
            refine zG_p zfe_0_376 (zki_0 _) ?_
            exact zR_rb zfe_0_377 zrt_0 w.1 w.2
      · have w := w.2 q
        refine zG_p zfe_0_359 (zki_0 _) ?_
        exact zR_rb zfe_0_360 zrt_0 w.1 w.2
    refine zcase w.2.2.2.2.2.1 (fun q w => ?_) (fun q5 => ?_)
    · refine zR_sw (t := 381) zfe_0_39 rfl (by rw [q]; rfl) ?_
      refine zR_aln zfe_0_381 g1 ?_
      refine zR_aln zfe_0_382 g0 ?_
      refine zR_il zfe_0_383 g4 ?_
      refine zG_p zfe_0_385 (zki_1 _) ?_
      refine zG_p zfe_0_386 rfl ?_
      obtain ⟨_, _, _, hp, ho, hj, hv, w⟩ := w
      refine zR_ia zfe_0_387 hp ho hj hv ?_
      refine zR_aln zfe_0_388 g3 ?_
      refine zR_cs (args := [_, _, _]) (rest := []) zfe_0_389 zlk_0_67 (by decide) rfl rfl (by decide) (zent_of znl_149 (by simp only [List.map_cons, List.map_nil, List.sum_cons, List.sum_nil, zo_c, zci, zcJ]; decide) (by decide)) (zCall_mono w (zA_i (fun x66 h67 w => ?_) (fun e h w => zA_x rfl w)))
      refine zR_is zfe_0_392 znl_0 (by decide) (fun lv69 e68 => ?_)
      replace g0 := zgl_n1 e68 g0 rfl (Or.inl (zo_c _))
      replace g1 := zgl_n1 e68 g1 rfl (Or.inl (zo_c _))
      replace g2 := zgl_n1 e68 g2 rfl (Or.inl (zo_c _))
      replace g3 := zgl_n1 e68 g3 rfl (Or.inl (zo_c _))
      replace g4 := zgl_n1 e68 g4 rfl (Or.inl rfl)
      have g5 := zgl_s1 e68
      refine zR_aln zfe_0_394 g2 ?_
      refine zR_aln zfe_0_395 g0 ?_
      refine zR_il zfe_0_396 g4 ?_
      refine zG_p zfe_0_398 (zki_1 _) ?_
      refine zG_p zfe_0_399 rfl ?_
      obtain ⟨_, _, _, hp, ho, hj, hv, w⟩ := w
      refine zR_ia zfe_0_400 hp ho hj hv ?_
      obtain ⟨_, _, hp, ho, w⟩ := w
      refine zR_cv (args := [_]) (rest := []) zfe_0_401 zlk_0_69 rfl rfl hp ho rfl (by decide) (zent_of znl_228 (by simp only [List.map_cons, List.map_nil, List.sum_cons, List.sum_nil, zo_c, zci, zcJ]; decide) (by decide)) (zCall_mono w (zA_i (fun x71 h72 w => ?_) (fun e h w => zA_x rfl w)))
      refine zR_is zfe_0_404 znl_0 (by decide) (fun lv74 e73 => ?_)
      replace g0 := zgl_n1 e73 g0 rfl (Or.inl (zo_c _))
      replace g1 := zgl_n1 e73 g1 rfl (Or.inl (zo_c _))
      replace g2 := zgl_n1 e73 g2 rfl (Or.inl (zo_c _))
      replace g3 := zgl_n1 e73 g3 rfl (Or.inl (zo_c _))
      replace g4 := zgl_n1 e73 g4 rfl (Or.inl rfl)
      replace g5 := zgl_n1 e73 g5 rfl (Or.inl rfl)
      have g6 := zgl_s1 e73
      refine zR_aln zfe_0_406 g2 ?_
      obtain ⟨_, _, hp, ho, w⟩ := w
      refine zR_cv (args := []) (rest := []) zfe_0_407 zlk_0_48 rfl rfl hp ho rfl (by decide) (zent_of znl_153 (by simp only [List.map_cons, List.map_nil, List.sum_cons, List.sum_nil, zo_c, zci, zcJ]; decide) (by decide)) (zCall_mono w (zA_i (fun x75 h76 w => ?_) (fun e h w => zA_x rfl w)))
      refine zR_il zfe_0_410 g5 ?_
      refine zG_ic 417 zfe_0_412 rfl (fun q => ?_) (fun q => ?_)
      · have w := w.1 q
        refine zR_il zfe_0_417 g5 ?_
        refine zG_if 434 zfe_0_419 rfl (fun q => ?_) (fun q => ?_)
        · have w := w.2 q
          exact zs_0_434 HJ23 g0 g1 g2 g3 g4 w
        · have w := w.1 (Decidable.not_not.mp q)
          refine zR_aln zfe_0_422 g3 ?_
          refine zG_p zfe_0_423 (zki_0 _) ?_
          obtain ⟨_, _, _, hp, ho, hj, hv, w⟩ := w
          refine zR_la zfe_0_424 hp ho hj hv ?_
          refine zR_il zfe_0_425 g6 ?_
          refine zG_p zfe_0_427 rfl ?_
          refine zG_p zfe_0_428 rfl ?_
          refine zG_if 434 zfe_0_429 rfl (fun q => ?_) (fun q => ?_)
          · have w := w.1 (zlc_eq.mp q)
            exact zs_0_434 HJ23 g0 g1 g2 g3 g4 w
          · have w := w.2 (fun z => q (zlc_eq.mpr z))
            refine zG_p zfe_0_432 (zki_0 _) ?_
            exact zR_rb zfe_0_433 zrt_0 w.1 w.2
      · have w := w.2 q
        refine zG_p zfe_0_415 (zki_0 _) ?_
        exact zR_rb zfe_0_416 zrt_0 w.1 w.2
    refine zcase w.2.2.2.2.2.2.1 (fun q w => ?_) (fun q6 => ?_)
    · refine zR_sw (t := 437) zfe_0_39 rfl (by rw [q]; rfl) ?_
      refine zR_aln zfe_0_437 g1 ?_
      refine zR_aln zfe_0_438 g0 ?_
      refine zR_il zfe_0_439 g4 ?_
      refine zG_p zfe_0_441 (zki_1 _) ?_
      refine zG_p zfe_0_442 rfl ?_
      obtain ⟨_, _, _, hp, ho, hj, hv, w⟩ := w
      refine zR_ia zfe_0_443 hp ho hj hv ?_
      obtain ⟨_, _, hp, ho, w⟩ := w
      refine zR_cv (args := [_]) (rest := []) zfe_0_444 zlk_0_70 rfl rfl hp ho rfl (by decide) (zent_of znl_5 (by simp only [List.map_cons, List.map_nil, List.sum_cons, List.sum_nil, zo_c, zci, zcJ]; decide) (by decide)) (zCall_mono w (zA_i (fun x79 h80 w => ?_) (fun e h w => zA_x rfl w)))
      refine zR_aln zfe_0_447 g2 ?_
      refine zR_aln zfe_0_448 g0 ?_
      refine zR_il zfe_0_449 g4 ?_
      refine zG_p zfe_0_451 (zki_1 _) ?_
      refine zG_p zfe_0_452 rfl ?_
      obtain ⟨_, _, _, hp, ho, hj, hv, w⟩ := w
      refine zR_ia zfe_0_453 hp ho hj hv ?_
      obtain ⟨_, _, hp, ho, w⟩ := w
      refine zR_cv (args := [_]) (rest := [_]) zfe_0_454 zlk_0_73 rfl rfl hp ho rfl (by simp only [List.map_cons, List.map_nil, List.sum_cons, List.sum_nil, zo_c, zci, zcJ]; decide) (zent_of znl_229 (by simp only [List.map_cons, List.map_nil, List.sum_cons, List.sum_nil, zo_c, zci, zcJ]; decide) (by decide)) (zCall_mono w (zA_i (fun x82 h83 w => ?_) (fun e h w => zA_x rfl w)))
      refine zG_ic 524 zfe_0_457 rfl (fun q => ?_) (fun q => ?_)
      · have w := w.1 q
        exact zs_0_524 HJ23 g0 g1 g2 g3 g4 w
      · have w := w.2 q
        refine zG_p zfe_0_460 (zki_0 _) ?_
        exact zR_rb zfe_0_461 zrt_0 w.1 w.2
    refine zcase w.2.2.2.2.2.2.2.1 (fun q w => ?_) (fun q7 => ?_)
    · refine zR_sw (t := 462) zfe_0_39 rfl (by rw [q]; rfl) ?_
      refine zR_aln zfe_0_462 g1 ?_
      refine zR_aln zfe_0_463 g0 ?_
      refine zR_il zfe_0_464 g4 ?_
      refine zG_p zfe_0_466 (zki_1 _) ?_
      refine zG_p zfe_0_467 rfl ?_
      obtain ⟨_, _, _, hp, ho, hj, hv, w⟩ := w
      refine zR_ia zfe_0_468 hp ho hj hv ?_
      refine zR_aln zfe_0_469 g0 ?_
      refine zR_il zfe_0_470 g4 ?_
      refine zG_p zfe_0_472 (zki_2 _) ?_
      refine zG_p zfe_0_473 rfl ?_
      obtain ⟨_, _, _, hp, ho, hj, hv, w⟩ := w
      refine zR_ia zfe_0_474 hp ho hj hv ?_
      obtain ⟨_, _, hp, ho, w⟩ := w
      refine zR_cv (args := [_, _]) (rest := []) zfe_0_475 zlk_0_74 rfl rfl hp ho rfl (by decide) (zent_of znl_7 (by simp only [List.map_cons, List.map_nil, List.sum_cons, List.sum_nil, zo_c, zci, zcJ]; decide) (by decide)) (zCall_mono w (zA_i (fun x86 h87 w => ?_) (fun e h w => zA_x rfl w)))
      refine zR_aln zfe_0_478 g2 ?_
      refine zR_aln zfe_0_479 g0 ?_
      refine zR_il zfe_0_480 g4 ?_
      refine zG_p zfe_0_482 (zki_1 _) ?_
      refine zG_p zfe_0_483 rfl ?_
      obtain ⟨_, _, _, hp, ho, hj, hv, w⟩ := w
      refine zR_ia zfe_0_484 hp ho hj hv ?_
      refine zR_aln zfe_0_485 g0 ?_
      refine zR_il zfe_0_486 g4 ?_
      refine zG_p zfe_0_488 (zki_2 _) ?_
      refine zG_p zfe_0_489 rfl ?_
      obtain ⟨_, _, _, hp, ho, hj, hv, w⟩ := w
      refine zR_ia zfe_0_490 hp ho hj hv ?_
      obtain ⟨_, _, hp, ho, w⟩ := w
      refine zR_cv (args := [_, _]) (rest := [_]) zfe_0_491 zlk_0_78 rfl rfl hp ho rfl (by simp only [List.map_cons, List.map_nil, List.sum_cons, List.sum_nil, zo_c, zci, zcJ]; decide) (zent_of znl_230 (by simp only [List.map_cons, List.map_nil, List.sum_cons, List.sum_nil, zo_c, zci, zcJ]; decide) (by decide)) (zCall_mono w (zA_i (fun x90 h91 w => ?_) (fun e h w => zA_x rfl w)))
      refine zG_ic 524 zfe_0_494 rfl (fun q => ?_) (fun q => ?_)
      · have w := w.1 q
        exact zs_0_524 HJ23 g0 g1 g2 g3 g4 w
      · have w := w.2 q
        refine zG_p zfe_0_497 (zki_0 _) ?_
        exact zR_rb zfe_0_498 zrt_0 w.1 w.2
    refine zcase w.2.2.2.2.2.2.2.2.1 (fun q w => ?_) (fun q8 => ?_)
    · refine zR_sw (t := 499) zfe_0_39 rfl (by rw [q]; rfl) ?_
      refine zR_aln zfe_0_499 g1 ?_
      refine zR_aln zfe_0_500 g0 ?_
      refine zR_il zfe_0_501 g4 ?_
      refine zG_p zfe_0_503 (zki_1 _) ?_
      refine zG_p zfe_0_504 rfl ?_
      obtain ⟨_, _, _, hp, ho, hj, hv, w⟩ := w
      refine zR_ia zfe_0_505 hp ho hj hv ?_
      obtain ⟨_, _, hp, ho, w⟩ := w
      refine zR_cv (args := [_]) (rest := []) zfe_0_506 zlk_0_79 rfl rfl hp ho rfl (by decide) (zent_of znl_16 (by simp only [List.map_cons, List.map_nil, List.sum_cons, List.sum_nil, zo_c, zci, zcJ]; decide) (by decide)) (zCall_mono w (zA_i (fun x93 h94 w => ?_) (fun e h w => zA_x rfl w)))
      refine zR_aln zfe_0_509 g2 ?_
      refine zR_aln zfe_0_510 g0 ?_
      refine zR_il zfe_0_511 g4 ?_
      refine zG_p zfe_0_513 (zki_1 _) ?_
      refine zG_p zfe_0_514 rfl ?_
      obtain ⟨_, _, _, hp, ho, hj, hv, w⟩ := w
      refine zR_ia zfe_0_515 hp ho hj hv ?_
      obtain ⟨_, _, hp, ho, w⟩ := w
      refine zR_cv (args := [_]) (rest := [_]) zfe_0_516 zlk_0_82 rfl rfl hp ho rfl (by simp only [List.map_cons, List.map_nil, List.sum_cons, List.sum_nil, zo_c, zci, zcJ]; decide) (zent_of znl_231 (by simp only [List.map_cons, List.map_nil, List.sum_cons, List.sum_nil, zo_c, zci, zcJ]; decide) (by decide)) (zCall_mono w (zA_i (fun x96 h97 w => ?_) (fun e h w => zA_x rfl w)))
      refine zG_ic 524 zfe_0_519 rfl (fun q => ?_) (fun q => ?_)
      · have w := w.1 q
        exact zs_0_524 HJ23 g0 g1 g2 g3 g4 w
      · have w := w.2 q
        refine zG_p zfe_0_522 (zki_0 _) ?_
        exact zR_rb zfe_0_523 zrt_0 w.1 w.2
    have w := w.2.2.2.2.2.2.2.2.2 ⟨q0, q1, q2, q3, q4, q5, q6, q7, q8⟩
    refine zR_sw (t := 524) zfe_0_39 rfl (zsw_0_39 _ q0 q1 q2 q3 q4 q5 q6 q7 q8) ?_
    exact zs_0_524 HJ23 g0 g1 g2 g3 g4 w
def zw_0_0 (xs : List Value) (d : Nat) (Q : zO → zH → Prop) (J23 : zP → zP → zP → zP → Int32 → zH → Prop) (l0 : zP) (h : zH) : Prop := zNO 0 [Value.null, Value.null, Value.null, Value.int 0] h fun a1 h2 => zCN xs d 1 (some a1) [] h2 fun h4 => zNO 12 [Value.int 0, Value.null, Value.null, Value.int 0, Value.int 0, Value.int 0, Value.int 0, Value.int 0, Value.int 0, Value.null, Value.null, Value.null, Value.null, Value.null, Value.null, Value.null, Value.null, Value.null, Value.null, Value.null, Value.null, Value.int 0, Value.null, Value.null, Value.null, Value.null, Value.null, Value.int 0, Value.int 0, Value.int 0, Value.null, Value.null, Value.null, Value.null, Value.null, Value.null, Value.null, Value.null, Value.null, Value.null, Value.null, Value.null, Value.null, Value.null, Value.null, Value.null, Value.null, Value.null, Value.null, Value.int 0, Value.int 0, Value.int 0, Value.int 0, Value.int 0, Value.int 0, Value.int 0, Value.int 0, Value.int 0, Value.int 0, Value.int 0, Value.int 0, Value.null, Value.null, Value.null, Value.null, Value.long 0, Value.long 0] h4 fun a7 h8 => zCN xs d 152 (some a7) [] h8 fun h10 => zNA 1 (Value.long 0) (1 : Int32) h10 fun a13 h14 => J23 l0 (some a1) (some a7) (some a13) (0 : Int32) h14
theorem zs_0_0 {xs : List Value} {d : Nat} {Q : zO → zH → Prop} {J23 : zP → zP → zP → zP → Int32 → zH → Prop} {l0 : zP} {h : zH} {lv : List (Nat × Value)} (HJ23 : ∀ (l0 : zP) (l1 : zP) (l2 : zP) (l3 : zP) (l4 : Int32)  (h : zH) (lv : List (Nat × Value)), zgetl lv 0 = some (zo l0) → zgetl lv 1 = some (zo l1) → zgetl lv 2 = some (zo l2) → zgetl lv 3 = some (zo l3) → zgetl lv 4 = some (Value.int l4) → J23 l0 l1 l2 l3 l4 h → zG xs d (0, 23, lv, []) h Q) (g0 : zgetl lv 0 = some (zo l0)) (w : zw_0_0 xs d Q J23 l0 h) : zG xs d (0, 0, lv, []) h Q := by
  unfold zw_0_0 at w
  have w := zNO_u w
  refine zR_new zfe_0_0 zlk_0_8 rfl rfl rfl ?_
  refine zR_dup zfe_0_3 (zo_c _) ?_
  obtain ⟨_, hp, ho, w⟩ := w
  refine zR_ci zfe_0_4 zlk_0_36 (by decide) (rest := [_]) (args := []) rfl rfl hp ho (by simp only [List.map_cons, List.map_nil, List.sum_cons, List.sum_nil, zo_c, zci, zcJ]; decide) (zent_of znl_1 (by simp only [List.map_cons, List.map_nil, List.sum_cons, List.sum_nil, zo_c, zci, zcJ]; decide) (by decide)) w (fun h4 w => ?_)
  refine zR_asn zfe_0_7 znl_0 (by decide) (fun lv6 e5 => ?_)
  replace g0 := zgl_n1 e5 g0 rfl (Or.inl (zo_c _))
  have g1 := zgl_s1 e5
  have w := zNO_u w
  refine zR_new zfe_0_8 zlk_0_37 rfl rfl rfl ?_
  refine zR_dup zfe_0_11 (zo_c _) ?_
  obtain ⟨_, hp, ho, w⟩ := w
  refine zR_ci zfe_0_12 zlk_0_39 (by decide) (rest := [_]) (args := []) rfl rfl hp ho (by simp only [List.map_cons, List.map_nil, List.sum_cons, List.sum_nil, zo_c, zci, zcJ]; decide) (zent_of znl_152 (by simp only [List.map_cons, List.map_nil, List.sum_cons, List.sum_nil, zo_c, zci, zcJ]; decide) (by decide)) w (fun h10 w => ?_)
  refine zR_asn zfe_0_15 znl_0 (by decide) (fun lv12 e11 => ?_)
  replace g0 := zgl_n1 e11 g0 rfl (Or.inl (zo_c _))
  replace g1 := zgl_n1 e11 g1 rfl (Or.inl (zo_c _))
  have g2 := zgl_s1 e11
  refine zG_p zfe_0_16 (zki_1 _) ?_
  obtain ⟨hn, w⟩ := w
  refine zR_na zfe_0_17 rfl hn rfl rfl ?_
  refine zR_asn zfe_0_19 znl_0 (by decide) (fun lv16 e15 => ?_)
  replace g0 := zgl_n1 e15 g0 rfl (Or.inl (zo_c _))
  replace g1 := zgl_n1 e15 g1 rfl (Or.inl (zo_c _))
  replace g2 := zgl_n1 e15 g2 rfl (Or.inl (zo_c _))
  have g3 := zgl_s1 e15
  refine zG_p zfe_0_20 (zki_0 _) ?_
  refine zR_is zfe_0_21 znl_0 (by decide) (fun lv18 e17 => ?_)
  replace g0 := zgl_n1 e17 g0 rfl (Or.inl (zo_c _))
  replace g1 := zgl_n1 e17 g1 rfl (Or.inl (zo_c _))
  replace g2 := zgl_n1 e17 g2 rfl (Or.inl (zo_c _))
  replace g3 := zgl_n1 e17 g3 rfl (Or.inl (zo_c _))
  have g4 := zgl_s1 e17
  exact HJ23 _ _ _ _ _ _ _ g0 g1 g2 g3 g4 w
theorem zl_0 {xs : List Value} {d : Nat} {Q : zO → zH → Prop} (I23 : Nat → zP → zP → zP → zP → Int32 → zH → Prop) (k23 : ∀ (n : Nat) (l0 : zP) (l1 : zP) (l2 : zP) (l3 : zP) (l4 : Int32) (h : zH), I23 n l0 l1 l2 l3 l4 h → zw_0_23 xs d Q (fun l0 l1 l2 l3 l4 h => ∃ n1, n1 < n ∧ I23 n1 l0 l1 l2 l3 l4 h) l0 l1 l2 l3 l4 h) : ∀ n : Nat, (∀ (l0 : zP) (l1 : zP) (l2 : zP) (l3 : zP) (l4 : Int32) (h : zH) (lv : List (Nat × Value)), zgetl lv 0 = some (zo l0) → zgetl lv 1 = some (zo l1) → zgetl lv 2 = some (zo l2) → zgetl lv 3 = some (zo l3) → zgetl lv 4 = some (Value.int l4) → I23 n l0 l1 l2 l3 l4 h → zG xs d (0, 23, lv, []) h Q) := by
  intro n
  induction n using Nat.strongRecOn with
  | ind n ih =>
    exact fun l0 l1 l2 l3 l4 h lv g0 g1 g2 g3 g4 w => zs_0_23 (fun _ _ _ _ _ _ _ g0 g1 g2 g3 g4 w => by obtain ⟨n1, hn, w⟩ := w; exact (ih n1 hn) _ _ _ _ _ _ _ g0 g1 g2 g3 g4 w) g0 g1 g2 g3 g4 (k23 n l0 l1 l2 l3 l4 h w)
theorem zm_0 {xs : List Value} {d : Nat} {Q : zO → zH → Prop} {l0 : zP} {h : zH} (I23 : Nat → zP → zP → zP → zP → Int32 → zH → Prop) (k23 : ∀ (n : Nat) (l0 : zP) (l1 : zP) (l2 : zP) (l3 : zP) (l4 : Int32) (h : zH), I23 n l0 l1 l2 l3 l4 h → zw_0_23 xs d Q (fun l0 l1 l2 l3 l4 h => ∃ n1, n1 < n ∧ I23 n1 l0 l1 l2 l3 l4 h) l0 l1 l2 l3 l4 h) (w : zw_0_0 xs d Q (fun l0 l1 l2 l3 l4 h => ∃ n1, I23 n1 l0 l1 l2 l3 l4 h) l0 h) : zG xs d (0, 0, lv_args 0 [zo l0], []) h Q := zs_0_0 (fun _ _ _ _ _ _ _ g0 g1 g2 g3 g4 w => by obtain ⟨n1, w⟩ := w; exact (zl_0 I23 k23 n1) _ _ _ _ _ _ _ g0 g1 g2 g3 g4 w) (by cases l0 <;> rfl) w
-- 1: PactLedger.<init>()V
def zw_1_0 (xs : List Value) (d : Nat) (Q : zO → zH → Prop) (l0 : zP) (h : zH) : Prop := ∃ k1 : Nat, l0 = some k1 ∧ zNO 1 [Value.null, Value.null, Value.int 0, Value.int 0, Value.int 0, Value.int 0, Value.int 0] h fun a2 h3 => zCN xs d 2 (some a2) [] h3 fun h5 => zPF l0 0 0 (zo (some a2)) h5 fun h6 => zNO 2 [Value.null, Value.int 0] h6 fun a7 h8 => zCN xs d 3 (some a7) [] h8 fun h10 => zPF l0 0 1 (zo (some a7)) h10 fun h11 => zNA 5 Value.null (4 : Int32) h11 fun a12 h13 => zPF l0 0 2 (zo (some a12)) h13 fun h14 => zPF l0 0 3 (Value.int (0 : Int32)) h14 fun h15 => Q (.inl none) h15
theorem zs_1_0 {xs : List Value} {d : Nat} {Q : zO → zH → Prop} {l0 : zP} {h : zH} {lv : List (Nat × Value)} (g0 : zgetl lv 0 = some (zo l0)) (w : zw_1_0 xs d Q l0 h) : zG xs d (1, 0, lv, []) h Q := by
  unfold zw_1_0 at w
  refine zR_aln zfe_1_0 g0 ?_
  obtain ⟨_, hp, w⟩ := w
  refine zR_obj zfe_1_1 zlk_1_1 hp (by decide) ?_
  refine zR_aln zfe_1_4 g0 ?_
  have w := zNO_u w
  refine zR_new zfe_1_5 zlk_1_7 rfl rfl rfl ?_
  refine zR_dup zfe_1_8 (zo_c _) ?_
  obtain ⟨_, hp, ho, w⟩ := w
  refine zR_ci zfe_1_9 zlk_1_9 (by decide) (rest := [_, _]) (args := []) rfl rfl hp ho (by simp only [List.map_cons, List.map_nil, List.sum_cons, List.sum_nil, zo_c, zci, zcJ]; decide) (zent_of znl_2 (by simp only [List.map_cons, List.map_nil, List.sum_cons, List.sum_nil, zo_c, zci, zcJ]; decide) (by decide)) w (fun h5 w => ?_)
  obtain ⟨_, _, hp, ho, hj, w⟩ := w
  refine zR_pf zfe_1_12 zlk_1_10 (by decide) hp ho hj (zfit_o zft_0_0) (by decide) rfl ?_
  refine zR_aln zfe_1_15 g0 ?_
  have w := zNO_u w
  refine zR_new zfe_1_16 zlk_1_16 rfl rfl rfl ?_
  refine zR_dup zfe_1_19 (zo_c _) ?_
  obtain ⟨_, hp, ho, w⟩ := w
  refine zR_ci zfe_1_20 zlk_1_18 (by decide) (rest := [_, _]) (args := []) rfl rfl hp ho (by simp only [List.map_cons, List.map_nil, List.sum_cons, List.sum_nil, zo_c, zci, zcJ]; decide) (zent_of znl_3 (by simp only [List.map_cons, List.map_nil, List.sum_cons, List.sum_nil, zo_c, zci, zcJ]; decide) (by decide)) w (fun h10 w => ?_)
  obtain ⟨_, _, hp, ho, hj, w⟩ := w
  refine zR_pf zfe_1_23 zlk_1_19 (by decide) hp ho hj (zfit_o zft_0_1) (by decide) rfl ?_
  refine zR_aln zfe_1_26 g0 ?_
  refine zG_p zfe_1_27 (zki_4 _) ?_
  obtain ⟨hn, w⟩ := w
  refine zR_an zfe_1_28 zlk_1_100023 hn rfl rfl ?_
  obtain ⟨_, _, hp, ho, hj, w⟩ := w
  refine zR_pf zfe_1_31 zlk_1_25 (by decide) hp ho hj (zfit_a zft_0_2) (by decide) rfl ?_
  refine zR_aln zfe_1_34 g0 ?_
  refine zG_p zfe_1_35 (zki_0 _) ?_
  obtain ⟨_, _, hp, ho, hj, w⟩ := w
  refine zR_pf zfe_1_36 zlk_1_29 (by decide) hp ho hj (zfit_i zft_0_3) (by decide) rfl ?_
  exact zR_rv zfe_1_39 zrt_1 w
theorem zm_1 {xs : List Value} {d : Nat} {Q : zO → zH → Prop} {l0 : zP} {h : zH} (w : zw_1_0 xs d Q  l0 h) : zG xs d (1, 0, lv_args 0 [zo l0], []) h Q := zs_1_0  (by cases l0 <;> rfl) w
-- 2: PactLedger$Buffer.<init>()V
def zw_2_0 (xs : List Value) (d : Nat) (Q : zO → zH → Prop) (l0 : zP) (h : zH) : Prop := ∃ k1 : Nat, l0 = some k1 ∧ zNA 2 (Value.int 0) (240 : Int32) h fun a2 h3 => zPF l0 1 0 (zo (some a2)) h3 fun h4 => zNA 6 Value.null (0 : Int32) h4 fun a5 h6 => zPF l0 1 1 (zo (some a5)) h6 fun h7 => zPF l0 1 2 (Value.int (0 : Int32)) h7 fun h8 => zPF l0 1 3 (Value.int (-1 : Int32)) h8 fun h9 => zPF l0 1 4 (Value.int (0 : Int32)) h9 fun h10 => zPF l0 1 5 (Value.int (0 : Int32)) h10 fun h11 => zPF l0 1 6 (Value.int (0 : Int32)) h11 fun h12 => Q (.inl none) h12
theorem zs_2_0 {xs : List Value} {d : Nat} {Q : zO → zH → Prop} {l0 : zP} {h : zH} {lv : List (Nat × Value)} (g0 : zgetl lv 0 = some (zo l0)) (w : zw_2_0 xs d Q l0 h) : zG xs d (2, 0, lv, []) h Q := by
  unfold zw_2_0 at w
  refine zR_aln zfe_2_0 g0 ?_
  obtain ⟨_, hp, w⟩ := w
  refine zR_obj zfe_2_1 zlk_2_3 hp (by decide) ?_
  refine zR_aln zfe_2_4 g0 ?_
  refine zG_p zfe_2_5 (zks_240 _) ?_
  obtain ⟨hn, w⟩ := w
  refine zR_na zfe_2_8 rfl hn rfl rfl ?_
  obtain ⟨_, _, hp, ho, hj, w⟩ := w
  refine zR_pf zfe_2_10 zlk_2_9 (by decide) hp ho hj (zfit_a zft_1_0) (by decide) rfl ?_
  refine zR_aln zfe_2_13 g0 ?_
  refine zG_p zfe_2_14 (zki_0 _) ?_
  obtain ⟨hn, w⟩ := w
  refine zR_an zfe_2_15 zlk_2_100015 hn rfl rfl ?_
  obtain ⟨_, _, hp, ho, hj, w⟩ := w
  refine zR_pf zfe_2_18 zlk_2_17 (by decide) hp ho hj (zfit_a zft_1_1) (by decide) rfl ?_
  refine zR_aln zfe_2_21 g0 ?_
  refine zG_p zfe_2_22 (zki_0 _) ?_
  obtain ⟨_, _, hp, ho, hj, w⟩ := w
  refine zR_pf zfe_2_23 zlk_2_21 (by decide) hp ho hj (zfit_i zft_1_2) (by decide) rfl ?_
  refine zR_aln zfe_2_26 g0 ?_
  refine zG_p zfe_2_27 (zki_m1 _) ?_
  obtain ⟨_, _, hp, ho, hj, w⟩ := w
  refine zR_pf zfe_2_28 zlk_2_25 (by decide) hp ho hj (zfit_i zft_1_3) (by decide) rfl ?_
  refine zR_aln zfe_2_31 g0 ?_
  refine zG_p zfe_2_32 (zki_0 _) ?_
  obtain ⟨_, _, hp, ho, hj, w⟩ := w
  refine zR_pf zfe_2_33 zlk_2_28 (by decide) hp ho hj (zfit_i zft_1_4) (by decide) rfl ?_
  refine zR_aln zfe_2_36 g0 ?_
  refine zG_p zfe_2_37 (zki_0 _) ?_
  obtain ⟨_, _, hp, ho, hj, w⟩ := w
  refine zR_pf zfe_2_38 zlk_2_31 (by decide) hp ho hj (zfit_i zft_1_5) (by decide) rfl ?_
  refine zR_aln zfe_2_41 g0 ?_
  refine zG_p zfe_2_42 (zki_0 _) ?_
  obtain ⟨_, _, hp, ho, hj, w⟩ := w
  refine zR_pf zfe_2_43 zlk_2_34 (by decide) hp ho hj (zfit_i zft_1_6) (by decide) rfl ?_
  exact zR_rv zfe_2_46 zrt_2 w
theorem zm_2 {xs : List Value} {d : Nat} {Q : zO → zH → Prop} {l0 : zP} {h : zH} (w : zw_2_0 xs d Q  l0 h) : zG xs d (2, 0, lv_args 0 [zo l0], []) h Q := zs_2_0  (by cases l0 <;> rfl) w
-- 3: PactLedger$Output.<init>()V
def zw_3_0 (xs : List Value) (d : Nat) (Q : zO → zH → Prop) (l0 : zP) (h : zH) : Prop := ∃ k1 : Nat, l0 = some k1 ∧ zNA 2 (Value.int 0) (2686 : Int32) h fun a2 h3 => zPF l0 2 0 (zo (some a2)) h3 fun h4 => zPF l0 2 1 (Value.int (0 : Int32)) h4 fun h5 => Q (.inl none) h5
theorem zs_3_0 {xs : List Value} {d : Nat} {Q : zO → zH → Prop} {l0 : zP} {h : zH} {lv : List (Nat × Value)} (g0 : zgetl lv 0 = some (zo l0)) (w : zw_3_0 xs d Q l0 h) : zG xs d (3, 0, lv, []) h Q := by
  unfold zw_3_0 at w
  refine zR_aln zfe_3_0 g0 ?_
  obtain ⟨_, hp, w⟩ := w
  refine zR_obj zfe_3_1 zlk_3_3 hp (by decide) ?_
  refine zR_aln zfe_3_4 g0 ?_
  refine zG_p zfe_3_5 (zks_2686 _) ?_
  obtain ⟨hn, w⟩ := w
  refine zR_na zfe_3_8 rfl hn rfl rfl ?_
  obtain ⟨_, _, hp, ho, hj, w⟩ := w
  refine zR_pf zfe_3_10 zlk_3_9 (by decide) hp ho hj (zfit_a zft_2_0) (by decide) rfl ?_
  refine zR_aln zfe_3_13 g0 ?_
  refine zG_p zfe_3_14 (zki_0 _) ?_
  obtain ⟨_, _, hp, ho, hj, w⟩ := w
  refine zR_pf zfe_3_15 zlk_3_15 (by decide) hp ho hj (zfit_i zft_2_1) (by decide) rfl ?_
  exact zR_rv zfe_3_18 zrt_3 w
theorem zm_3 {xs : List Value} {d : Nat} {Q : zO → zH → Prop} {l0 : zP} {h : zH} (w : zw_3_0 xs d Q  l0 h) : zG xs d (3, 0, lv_args 0 [zo l0], []) h Q := zs_3_0  (by cases l0 <;> rfl) w
-- 4: PactLedger.wrong()I
def zw_4_0 (xs : List Value) (d : Nat) (Q : zO → zH → Prop) (l0 : zP) (h : zH) : Prop := zGR l0 0 0 h fun x1 => zGI x1 1 3 h fun x3 => Q (.inl (some (Value.int x3))) h
theorem zs_4_0 {xs : List Value} {d : Nat} {Q : zO → zH → Prop} {l0 : zP} {h : zH} {lv : List (Nat × Value)} (g0 : zgetl lv 0 = some (zo l0)) (w : zw_4_0 xs d Q l0 h) : zG xs d (4, 0, lv, []) h Q := by
  unfold zw_4_0 at w
  refine zR_aln zfe_4_0 g0 ?_
  obtain ⟨_, _, x1, hp, ho, hv, w⟩ := w
  refine zR_gf zfe_4_1 zlk_4_10 (by decide) hp ho hv ?_
  obtain ⟨_, _, x3, hp, ho, hv, w⟩ := w
  refine zR_gf zfe_4_4 zlk_4_123 (by decide) hp ho hv ?_
  exact zR_ri zfe_4_7 zrt_4 w
theorem zm_4 {xs : List Value} {d : Nat} {Q : zO → zH → Prop} {l0 : zP} {h : zH} (w : zw_4_0 xs d Q  l0 h) : zG xs d (4, 0, lv_args 0 [zo l0], []) h Q := zs_4_0  (by cases l0 <;> rfl) w
-- 5: PactLedger.octet(I)I
def zw_5_0 (xs : List Value) (d : Nat) (Q : zO → zH → Prop) (l0 : zP) (l1 : Int32) (h : zH) : Prop := zGR l0 0 1 h fun x1 => zCV xs d 6 2 x1 [Value.int l1] h (zKI (fun x3 h4 => Q (.inl (some (Value.int x3))) h4) (fun e h => Q (.inr e) h))
theorem zs_5_0 {xs : List Value} {d : Nat} {Q : zO → zH → Prop} {l0 : zP} {l1 : Int32} {h : zH} {lv : List (Nat × Value)} (g0 : zgetl lv 0 = some (zo l0)) (g1 : zgetl lv 1 = some (Value.int l1)) (w : zw_5_0 xs d Q l0 l1 h) : zG xs d (5, 0, lv, []) h Q := by
  unfold zw_5_0 at w
  refine zR_aln zfe_5_0 g0 ?_
  obtain ⟨_, _, x1, hp, ho, hv, w⟩ := w
  refine zR_gf zfe_5_1 zlk_5_19 (by decide) hp ho hv ?_
  refine zR_iln zfe_5_4 g1 ?_
  obtain ⟨_, _, hp, ho, w⟩ := w
  refine zR_cv (args := [_]) (rest := []) zfe_5_5 zlk_5_211 rfl rfl hp ho rfl (by decide) (zent_of znl_6 (by simp only [List.map_cons, List.map_nil, List.sum_cons, List.sum_nil, zo_c, zci, zcJ]; decide) (by decide)) (zCall_mono w (zA_i (fun x3 h4 w => ?_) (fun e h w => zA_x rfl w)))
  exact zR_ri zfe_5_8 zrt_5 w
theorem zm_5 {xs : List Value} {d : Nat} {Q : zO → zH → Prop} {l0 : zP} {l1 : Int32} {h : zH} (w : zw_5_0 xs d Q  l0 l1 h) : zG xs d (5, 0, lv_args 0 [zo l0, Value.int l1], []) h Q := zs_5_0  (by cases l0 <;> rfl) (by cases l0 <;> rfl) w
-- 6: PactLedger$Output.at(I)I
def zw_6_35 (xs : List Value) (d : Nat) (Q : zO → zH → Prop) (s0 : Int32) (h : zH) : Prop := Q (.inl (some (Value.int s0))) h
theorem zs_6_35 {xs : List Value} {d : Nat} {Q : zO → zH → Prop} {s0 : Int32} {h : zH} {lv : List (Nat × Value)}  (w : zw_6_35 xs d Q s0 h) : zG xs d (6, 35, lv, [Value.int s0]) h Q := by
  unfold zw_6_35 at w
  exact zR_ri zfe_6_35 zrt_6 w
def zw_6_21 (xs : List Value) (d : Nat) (Q : zO → zH → Prop)  (h : zH) : Prop := zw_6_35 xs d Q (-1 : Int32) h
theorem zs_6_21 {xs : List Value} {d : Nat} {Q : zO → zH → Prop}  {h : zH} {lv : List (Nat × Value)}  (w : zw_6_21 xs d Q h) : zG xs d (6, 21, lv, []) h Q := by
  unfold zw_6_21 at w
  refine zG_p zfe_6_21 (zki_m1 _) ?_
  refine zG_go 35 zfe_6_22 rfl ?_
  exact zs_6_35 w
def zw_6_0 (xs : List Value) (d : Nat) (Q : zO → zH → Prop) (l0 : zP) (l1 : Int32) (h : zH) : Prop := ((l1 < 0 → zw_6_21 xs d Q h) ∧ (¬ l1 < 0 → zGI l0 2 1 h fun x1 => ((l1 < x1 → zGR l0 2 0 h fun x3 => zLN xs x3 h fun x5 => ((l1 < x5 → zGR l0 2 0 h fun x6 => zBA x6 l1 h fun x8 => zw_6_35 xs d Q (x8 &&& (255 : Int32)) h) ∧ (¬ l1 < x5 → zw_6_21 xs d Q h))) ∧ (¬ l1 < x1 → zw_6_21 xs d Q h))))
theorem zs_6_0 {xs : List Value} {d : Nat} {Q : zO → zH → Prop} {l0 : zP} {l1 : Int32} {h : zH} {lv : List (Nat × Value)} (g0 : zgetl lv 0 = some (zo l0)) (g1 : zgetl lv 1 = some (Value.int l1)) (w : zw_6_0 xs d Q l0 l1 h) : zG xs d (6, 0, lv, []) h Q := by
  unfold zw_6_0 at w
  refine zR_iln zfe_6_0 g1 ?_
  refine zG_if 21 zfe_6_1 rfl (fun q => ?_) (fun q => ?_)
  · have w := w.1 q
    exact zs_6_21 w
  · have w := w.2 q
    refine zR_iln zfe_6_4 g1 ?_
    refine zR_aln zfe_6_5 g0 ?_
    obtain ⟨_, _, x1, hp, ho, hv, w⟩ := w
    refine zR_gf zfe_6_6 zlk_6_15 (by decide) hp ho hv ?_
    refine zG_ic 21 zfe_6_9 rfl (fun q => ?_) (fun q => ?_)
    · have w := w.2 (Int32.not_lt.mpr q)
      exact zs_6_21 w
    · have w := w.1 (Int32.not_le.mp q)
      refine zR_iln zfe_6_12 g1 ?_
      refine zR_aln zfe_6_13 g0 ?_
      obtain ⟨_, _, x3, hp, ho, hv, w⟩ := w
      refine zR_gf zfe_6_14 zlk_6_9 (by decide) hp ho hv ?_
      obtain ⟨_, _, _, hp, ho, ht, w⟩ := w
      refine zR_len zfe_6_17 hp ho ht ?_
      refine zG_ic 25 zfe_6_18 rfl (fun q => ?_) (fun q => ?_)
      · have w := w.1 q
        refine zR_aln zfe_6_25 g0 ?_
        obtain ⟨_, _, x6, hp, ho, hv, w⟩ := w
        refine zR_gf zfe_6_26 zlk_6_9 (by decide) hp ho hv ?_
        refine zR_iln zfe_6_29 g1 ?_
        obtain ⟨_, _, _, _, hp, ho, ht, hj, hv, w⟩ := w
        refine zR_ba zfe_6_30 hp ho ht hj hv ?_
        refine zG_p zfe_6_31 (zks_255 _) ?_
        refine zG_p zfe_6_34 rfl ?_
        exact zs_6_35 w
      · have w := w.2 q
        exact zs_6_21 w
theorem zm_6 {xs : List Value} {d : Nat} {Q : zO → zH → Prop} {l0 : zP} {l1 : Int32} {h : zH} (w : zw_6_0 xs d Q  l0 l1 h) : zG xs d (6, 0, lv_args 0 [zo l0, Value.int l1], []) h Q := zs_6_0  (by cases l0 <;> rfl) (by cases l0 <;> rfl) w
-- 7: PactLedger.about(II)I
def zw_7_90 (xs : List Value) (d : Nat) (Q : zO → zH → Prop) (s0 : Int32) (h : zH) : Prop := Q (.inl (some (Value.int s0))) h
theorem zs_7_90 {xs : List Value} {d : Nat} {Q : zO → zH → Prop} {s0 : Int32} {h : zH} {lv : List (Nat × Value)}  (w : zw_7_90 xs d Q s0 h) : zG xs d (7, 90, lv, [Value.int s0]) h Q := by
  unfold zw_7_90 at w
  exact zR_ri zfe_7_90 zrt_7 w
def zw_7_0 (xs : List Value) (d : Nat) (Q : zO → zH → Prop) (l0 : zP) (l1 : Int32) (l2 : Int32) (h : zH) : Prop := zCV xs d 8 0 l0 [Value.int l1] h (zKR (fun x1 h2 => ((x1 = none → Q (.inl (some (Value.int (-1 : Int32)))) h2) ∧ (x1 ≠ none → ((l2 = (0 : Int32) → zGI x1 10 4 h2 fun x5 => Q (.inl (some (Value.int x5))) h2) ∧ (l2 = (1 : Int32) → zGI x1 10 5 h2 fun x7 => Q (.inl (some (Value.int x7))) h2) ∧ (l2 = (2 : Int32) → zGI x1 10 6 h2 fun x9 => Q (.inl (some (Value.int x9))) h2) ∧ (l2 = (3 : Int32) → zGI x1 10 7 h2 fun x11 => Q (.inl (some (Value.int x11))) h2) ∧ (l2 = (4 : Int32) → zCV xs d 9 10 x1 [] h2 (zKI (fun x13 h14 => ((x13 = 0 → zw_7_90 xs d Q (-1 : Int32) h14) ∧ (¬ x13 = 0 → zCV xs d 11 10 x1 [] h14 (zKR (fun x15 h16 => zGI x15 3 1 h16 fun x17 => zw_7_90 xs d Q x17 h16) (fun e h => Q (.inr e) h))))) (fun e h => Q (.inr e) h))) ∧ (l2 = (5 : Int32) → zGR x1 10 3 h2 fun x19 => zCV xs d 13 3 x19 [Value.int (100 : Int32)] h2 (zKI (fun x21 h22 => Q (.inl (some (Value.int x21))) h22) (fun e h => Q (.inr e) h))) ∧ (¬ (l2 = (0 : Int32)) ∧ ¬ (l2 = (1 : Int32)) ∧ ¬ (l2 = (2 : Int32)) ∧ ¬ (l2 = (3 : Int32)) ∧ ¬ (l2 = (4 : Int32)) ∧ ¬ (l2 = (5 : Int32)) → Q (.inl (some (Value.int (-1 : Int32)))) h2))))) (fun e h => Q (.inr e) h))
theorem zsw_7_13 {x : Int32} (st : List Value) (q0 : ¬ (x = (0 : Int32))) (q1 : ¬ (x = (1 : Int32))) (q2 : ¬ (x = (2 : Int32))) (q3 : ¬ (x = (3 : Int32))) (q4 : ¬ (x = (4 : Int32))) (q5 : ¬ (x = (5 : Int32))) : zbr 13 (.tableswitch 88 0 5 #[39, 44, 49, 54, 59, 78]) (.int x :: st) = some (101, st) := by
  rcases zts_all (0 : Int) (5 : Int) x with z | ⟨j, hj, z⟩
  · unfold zbr; dsimp only; rw [if_pos z]; rfl
  · have hj : j < 6 := hj
    have hj2 : j = 0 ∨ j = 1 ∨ j = 2 ∨ j = 3 ∨ j = 4 ∨ j = 5 := by omega
    rcases hj2 with rfl | rfl | rfl | rfl | rfl | rfl
    · exact absurd (z.trans rfl) q0
    · exact absurd (z.trans rfl) q1
    · exact absurd (z.trans rfl) q2
    · exact absurd (z.trans rfl) q3
    · exact absurd (z.trans rfl) q4
    · exact absurd (z.trans rfl) q5
theorem zs_7_0 {xs : List Value} {d : Nat} {Q : zO → zH → Prop} {l0 : zP} {l1 : Int32} {l2 : Int32} {h : zH} {lv : List (Nat × Value)} (g0 : zgetl lv 0 = some (zo l0)) (g1 : zgetl lv 1 = some (Value.int l1)) (g2 : zgetl lv 2 = some (Value.int l2)) (w : zw_7_0 xs d Q l0 l1 l2 h) : zG xs d (7, 0, lv, []) h Q := by
  unfold zw_7_0 at w
  refine zR_aln zfe_7_0 g0 ?_
  refine zR_iln zfe_7_1 g1 ?_
  obtain ⟨_, _, hp, ho, w⟩ := w
  refine zR_cv (args := [_]) (rest := []) zfe_7_2 zlk_7_127 rfl rfl hp ho rfl (by decide) (zent_of znl_8 (by simp only [List.map_cons, List.map_nil, List.sum_cons, List.sum_nil, zo_c, zci, zcJ]; decide) (by decide)) (zCall_mono w (zA_r (fun x1 h2 w => ?_) (fun e h w => zA_x rfl w)))
  refine zR_asn zfe_7_5 znl_7 (by decide) (fun lv4 e3 => ?_)
  replace g2 := zgl_n1 e3 g2 rfl (Or.inl rfl)
  have g3 := zgl_s1 e3
  refine zR_aln zfe_7_6 g3 ?_
  refine zR_ifnn 12 zfe_7_7 rfl (fun q => ?_) (fun q => ?_)
  · have w := w.2 q
    refine zR_iln zfe_7_12 g2 ?_
    refine zcase w.1 (fun q w => ?_) (fun q0 => ?_)
    · refine zR_sw (t := 52) zfe_7_13 rfl (by rw [q]; rfl) ?_
      refine zR_aln zfe_7_52 g3 ?_
      obtain ⟨_, _, x5, hp, ho, hv, w⟩ := w
      refine zR_gf zfe_7_53 zlk_7_118 (by decide) hp ho hv ?_
      exact zR_ri zfe_7_56 zrt_7 w
    refine zcase w.2.1 (fun q w => ?_) (fun q1 => ?_)
    · refine zR_sw (t := 57) zfe_7_13 rfl (by rw [q]; rfl) ?_
      refine zR_aln zfe_7_57 g3 ?_
      obtain ⟨_, _, x7, hp, ho, hv, w⟩ := w
      refine zR_gf zfe_7_58 zlk_7_122 (by decide) hp ho hv ?_
      exact zR_ri zfe_7_61 zrt_7 w
    refine zcase w.2.2.1 (fun q w => ?_) (fun q2 => ?_)
    · refine zR_sw (t := 62) zfe_7_13 rfl (by rw [q]; rfl) ?_
      refine zR_aln zfe_7_62 g3 ?_
      obtain ⟨_, _, x9, hp, ho, hv, w⟩ := w
      refine zR_gf zfe_7_63 zlk_7_181 (by decide) hp ho hv ?_
      exact zR_ri zfe_7_66 zrt_7 w
    refine zcase w.2.2.2.1 (fun q w => ?_) (fun q3 => ?_)
    · refine zR_sw (t := 67) zfe_7_13 rfl (by rw [q]; rfl) ?_
      refine zR_aln zfe_7_67 g3 ?_
      obtain ⟨_, _, x11, hp, ho, hv, w⟩ := w
      refine zR_gf zfe_7_68 zlk_7_184 (by decide) hp ho hv ?_
      exact zR_ri zfe_7_71 zrt_7 w
    refine zcase w.2.2.2.2.1 (fun q w => ?_) (fun q4 => ?_)
    · refine zR_sw (t := 72) zfe_7_13 rfl (by rw [q]; rfl) ?_
      refine zR_aln zfe_7_72 g3 ?_
      obtain ⟨_, _, hp, ho, w⟩ := w
      refine zR_cv (args := []) (rest := []) zfe_7_73 zlk_7_197 rfl rfl hp ho rfl (by decide) (zent_of znl_9 (by simp only [List.map_cons, List.map_nil, List.sum_cons, List.sum_nil, zo_c, zci, zcJ]; decide) (by decide)) (zCall_mono w (zA_i (fun x13 h14 w => ?_) (fun e h w => zA_x rfl w)))
      refine zG_if 89 zfe_7_76 rfl (fun q => ?_) (fun q => ?_)
      · have w := w.1 q
        refine zG_p zfe_7_89 (zki_m1 _) ?_
        exact zs_7_90 w
      · have w := w.2 q
        refine zR_aln zfe_7_79 g3 ?_
        obtain ⟨_, _, hp, ho, w⟩ := w
        refine zR_cv (args := []) (rest := []) zfe_7_80 zlk_7_204 rfl rfl hp ho rfl (by decide) (zent_of znl_11 (by simp only [List.map_cons, List.map_nil, List.sum_cons, List.sum_nil, zo_c, zci, zcJ]; decide) (by decide)) (zCall_mono w (zA_r (fun x15 h16 w => ?_) (fun e h w => zA_x rfl w)))
        obtain ⟨_, _, x17, hp, ho, hv, w⟩ := w
        refine zR_gf zfe_7_83 zlk_7_214 (by decide) hp ho hv ?_
        refine zG_go 90 zfe_7_86 rfl ?_
        exact zs_7_90 w
    refine zcase w.2.2.2.2.2.1 (fun q w => ?_) (fun q5 => ?_)
    · refine zR_sw (t := 91) zfe_7_13 rfl (by rw [q]; rfl) ?_
      refine zR_aln zfe_7_91 g3 ?_
      obtain ⟨_, _, x19, hp, ho, hv, w⟩ := w
      refine zR_gf zfe_7_92 zlk_7_144 (by decide) hp ho hv ?_
      refine zG_p zfe_7_95 (zkb_100 _) ?_
      obtain ⟨_, _, hp, ho, w⟩ := w
      refine zR_cv (args := [_]) (rest := []) zfe_7_97 zlk_7_171 rfl rfl hp ho rfl (by decide) (zent_of znl_13 (by simp only [List.map_cons, List.map_nil, List.sum_cons, List.sum_nil, zo_c, zci, zcJ]; decide) (by decide)) (zCall_mono w (zA_i (fun x21 h22 w => ?_) (fun e h w => zA_x rfl w)))
      exact zR_ri zfe_7_100 zrt_7 w
    have w := w.2.2.2.2.2.2 ⟨q0, q1, q2, q3, q4, q5⟩
    refine zR_sw (t := 101) zfe_7_13 rfl (zsw_7_13 _ q0 q1 q2 q3 q4 q5) ?_
    refine zG_p zfe_7_101 (zki_m1 _) ?_
    exact zR_ri zfe_7_102 zrt_7 w
  · have w := w.1 q
    refine zG_p zfe_7_10 (zki_m1 _) ?_
    exact zR_ri zfe_7_11 zrt_7 w
theorem zm_7 {xs : List Value} {d : Nat} {Q : zO → zH → Prop} {l0 : zP} {l1 : Int32} {l2 : Int32} {h : zH} (w : zw_7_0 xs d Q  l0 l1 l2 h) : zG xs d (7, 0, lv_args 0 [zo l0, Value.int l1, Value.int l2], []) h Q := zs_7_0  (by cases l0 <;> rfl) (by cases l0 <;> rfl) (by cases l0 <;> rfl) w
-- 8: PactLedger.contractAt(I)LPactLedger$Contract;
def zw_8_31 (xs : List Value) (d : Nat) (Q : zO → zH → Prop) (s0 : zP) (h : zH) : Prop := Q (.inl (some (zo s0))) h
theorem zs_8_31 {xs : List Value} {d : Nat} {Q : zO → zH → Prop} {s0 : zP} {h : zH} {lv : List (Nat × Value)}  (w : zw_8_31 xs d Q s0 h) : zG xs d (8, 31, lv, [zo s0]) h Q := by
  unfold zw_8_31 at w
  exact zR_ro zfe_8_31 zrt_8 w
def zw_8_21 (xs : List Value) (d : Nat) (Q : zO → zH → Prop)  (h : zH) : Prop := zw_8_31 xs d Q none h
theorem zs_8_21 {xs : List Value} {d : Nat} {Q : zO → zH → Prop}  {h : zH} {lv : List (Nat × Value)}  (w : zw_8_21 xs d Q h) : zG xs d (8, 21, lv, []) h Q := by
  unfold zw_8_21 at w
  refine zR_nul zfe_8_21 ?_
  refine zG_go 31 zfe_8_22 rfl ?_
  exact zs_8_31 w
def zw_8_0 (xs : List Value) (d : Nat) (Q : zO → zH → Prop) (l0 : zP) (l1 : Int32) (h : zH) : Prop := ((l1 < 0 → zw_8_21 xs d Q h) ∧ (¬ l1 < 0 → zGI l0 0 3 h fun x1 => ((l1 < x1 → zGR l0 0 2 h fun x3 => zLN xs x3 h fun x5 => ((l1 < x5 → zGR l0 0 2 h fun x6 => zAA x6 l1 h fun x8 => zw_8_31 xs d Q x8 h) ∧ (¬ l1 < x5 → zw_8_21 xs d Q h))) ∧ (¬ l1 < x1 → zw_8_21 xs d Q h))))
theorem zs_8_0 {xs : List Value} {d : Nat} {Q : zO → zH → Prop} {l0 : zP} {l1 : Int32} {h : zH} {lv : List (Nat × Value)} (g0 : zgetl lv 0 = some (zo l0)) (g1 : zgetl lv 1 = some (Value.int l1)) (w : zw_8_0 xs d Q l0 l1 h) : zG xs d (8, 0, lv, []) h Q := by
  unfold zw_8_0 at w
  refine zR_iln zfe_8_0 g1 ?_
  refine zG_if 21 zfe_8_1 rfl (fun q => ?_) (fun q => ?_)
  · have w := w.1 q
    exact zs_8_21 w
  · have w := w.2 q
    refine zR_iln zfe_8_4 g1 ?_
    refine zR_aln zfe_8_5 g0 ?_
    obtain ⟨_, _, x1, hp, ho, hv, w⟩ := w
    refine zR_gf zfe_8_6 zlk_8_29 (by decide) hp ho hv ?_
    refine zG_ic 21 zfe_8_9 rfl (fun q => ?_) (fun q => ?_)
    · have w := w.2 (Int32.not_lt.mpr q)
      exact zs_8_21 w
    · have w := w.1 (Int32.not_le.mp q)
      refine zR_iln zfe_8_12 g1 ?_
      refine zR_aln zfe_8_13 g0 ?_
      obtain ⟨_, _, x3, hp, ho, hv, w⟩ := w
      refine zR_gf zfe_8_14 zlk_8_25 (by decide) hp ho hv ?_
      obtain ⟨_, _, _, hp, ho, ht, w⟩ := w
      refine zR_len zfe_8_17 hp ho ht ?_
      refine zG_ic 25 zfe_8_18 rfl (fun q => ?_) (fun q => ?_)
      · have w := w.1 q
        refine zR_aln zfe_8_25 g0 ?_
        obtain ⟨_, _, x6, hp, ho, hv, w⟩ := w
        refine zR_gf zfe_8_26 zlk_8_25 (by decide) hp ho hv ?_
        refine zR_iln zfe_8_29 g1 ?_
        obtain ⟨_, _, _, _, hp, ho, ht, hj, hv, w⟩ := w
        refine zR_aa zfe_8_30 hp ho ht hj hv ?_
        exact zs_8_31 w
      · have w := w.2 q
        exact zs_8_21 w
theorem zm_8 {xs : List Value} {d : Nat} {Q : zO → zH → Prop} {l0 : zP} {l1 : Int32} {h : zH} (w : zw_8_0 xs d Q  l0 l1 h) : zG xs d (8, 0, lv_args 0 [zo l0, Value.int l1], []) h Q := zs_8_0  (by cases l0 <;> rfl) (by cases l0 <;> rfl) w
-- 16: PactLedger.count(I)I
def zw_16_0 (xs : List Value) (d : Nat) (Q : zO → zH → Prop) (l0 : zP) (l1 : Int32) (h : zH) : Prop := ((l1 = (0 : Int32) → zGI l0 0 3 h fun x1 => Q (.inl (some (Value.int x1))) h) ∧ (l1 = (1 : Int32) → zGR l0 0 0 h fun x3 => zGI x3 1 2 h fun x5 => Q (.inl (some (Value.int x5))) h) ∧ (l1 = (2 : Int32) → zGR l0 0 1 h fun x7 => zGI x7 2 1 h fun x9 => Q (.inl (some (Value.int x9))) h) ∧ (¬ (l1 = (0 : Int32)) ∧ ¬ (l1 = (1 : Int32)) ∧ ¬ (l1 = (2 : Int32)) → Q (.inl (some (Value.int (-1 : Int32)))) h))
theorem zsw_16_1 {x : Int32} (st : List Value) (q0 : ¬ (x = (0 : Int32))) (q1 : ¬ (x = (1 : Int32))) (q2 : ¬ (x = (2 : Int32))) : zbr 1 (.tableswitch 48 0 2 #[27, 32, 40]) (.int x :: st) = some (49, st) := by
  rcases zts_all (0 : Int) (2 : Int) x with z | ⟨j, hj, z⟩
  · unfold zbr; dsimp only; rw [if_pos z]; rfl
  · have hj : j < 3 := hj
    have hj2 : j = 0 ∨ j = 1 ∨ j = 2 := by omega
    rcases hj2 with rfl | rfl | rfl
    · exact absurd (z.trans rfl) q0
    · exact absurd (z.trans rfl) q1
    · exact absurd (z.trans rfl) q2
theorem zs_16_0 {xs : List Value} {d : Nat} {Q : zO → zH → Prop} {l0 : zP} {l1 : Int32} {h : zH} {lv : List (Nat × Value)} (g0 : zgetl lv 0 = some (zo l0)) (g1 : zgetl lv 1 = some (Value.int l1)) (w : zw_16_0 xs d Q l0 l1 h) : zG xs d (16, 0, lv, []) h Q := by
  unfold zw_16_0 at w
  refine zR_iln zfe_16_0 g1 ?_
  refine zcase w.1 (fun q w => ?_) (fun q0 => ?_)
  · refine zR_sw (t := 28) zfe_16_1 rfl (by rw [q]; rfl) ?_
    refine zR_aln zfe_16_28 g0 ?_
    obtain ⟨_, _, x1, hp, ho, hv, w⟩ := w
    refine zR_gf zfe_16_29 zlk_16_29 (by decide) hp ho hv ?_
    exact zR_ri zfe_16_32 zrt_16 w
  refine zcase w.2.1 (fun q w => ?_) (fun q1 => ?_)
  · refine zR_sw (t := 33) zfe_16_1 rfl (by rw [q]; rfl) ?_
    refine zR_aln zfe_16_33 g0 ?_
    obtain ⟨_, _, x3, hp, ho, hv, w⟩ := w
    refine zR_gf zfe_16_34 zlk_16_10 (by decide) hp ho hv ?_
    obtain ⟨_, _, x5, hp, ho, hv, w⟩ := w
    refine zR_gf zfe_16_37 zlk_16_36 (by decide) hp ho hv ?_
    exact zR_ri zfe_16_40 zrt_16 w
  refine zcase w.2.2.1 (fun q w => ?_) (fun q2 => ?_)
  · refine zR_sw (t := 41) zfe_16_1 rfl (by rw [q]; rfl) ?_
    refine zR_aln zfe_16_41 g0 ?_
    obtain ⟨_, _, x7, hp, ho, hv, w⟩ := w
    refine zR_gf zfe_16_42 zlk_16_19 (by decide) hp ho hv ?_
    obtain ⟨_, _, x9, hp, ho, hv, w⟩ := w
    refine zR_gf zfe_16_45 zlk_16_196 (by decide) hp ho hv ?_
    exact zR_ri zfe_16_48 zrt_16 w
  have w := w.2.2.2 ⟨q0, q1, q2⟩
  refine zR_sw (t := 49) zfe_16_1 rfl (zsw_16_1 _ q0 q1 q2) ?_
  refine zG_p zfe_16_49 (zki_m1 _) ?_
  exact zR_ri zfe_16_50 zrt_16 w
theorem zm_16 {xs : List Value} {d : Nat} {Q : zO → zH → Prop} {l0 : zP} {l1 : Int32} {h : zH} (w : zw_16_0 xs d Q  l0 l1 h) : zG xs d (16, 0, lv_args 0 [zo l0, Value.int l1], []) h Q := zs_16_0  (by cases l0 <;> rfl) (by cases l0 <;> rfl) w
-- 17: PactLedgerLaw.put(LPactLedger;JI[J)I
def zw_17_0 (xs : List Value) (d : Nat) (Q : zO → zH → Prop) (l0 : zP) (l1 : Int64) (l3 : Int32) (l4 : zP) (h : zH) : Prop := zCV xs d 18 0 l0 [Value.long l1, Value.int l3] h (zKI (fun x1 h2 => zST 1 l4 (0 : Int32) (Value.long (x1).toInt64) h2 fun h3 => Q (.inl (some (Value.int (0 : Int32)))) h3) (fun e h => (e = 0 → Q (.inl (some (Value.int (1 : Int32)))) h) ∧ (e = 1 → Q (.inl (some (Value.int (2 : Int32)))) h) ∧ (¬ e = 0 ∧ ¬ e = 1 → Q (.inr e) h)))
theorem zlkh_17_13 : zlink 17 13 = some (15, 0, 0) := by decide +kernel
theorem zlkh_17_15 : zlink 17 15 = some (15, 1, 0) := by decide +kernel
theorem zhx_17_6 {e : Nat} (q0 : ¬ e = 0) (q1 : ¬ e = 1) : zcat 17 6 e = none := by
  unfold zcat
  rw [show z_hh.getD 17 [] = [(0, 11, 14, 13), (0, 11, 18, 15)] from rfl]
  simp only [List.find?_cons, List.find?_nil, zlkh_17_13, zlkh_17_15, show (0 == e) = false from by simpa using fun z => q0 z.symm, show (1 == e) = false from by simpa using fun z => q1 z.symm, Bool.and_false]
theorem zhy_17_6 {e : Nat} (q0 : ¬ e = 0) (q1 : ¬ e = 1) : zesc 17 6 e = true := by
  unfold zesc
  rw [show z_hh.getD 17 [] = [(0, 11, 14, 13), (0, 11, 18, 15)] from rfl]
  simp only [List.all_cons, List.all_nil, zlkh_17_13, zlkh_17_15, show (0 == e) = false from by simpa using fun z => q0 z.symm, show (1 == e) = false from by simpa using fun z => q1 z.symm, Bool.not_false, Bool.or_true, Bool.and_true]
theorem zs_17_0 {xs : List Value} {d : Nat} {Q : zO → zH → Prop} {l0 : zP} {l1 : Int64} {l3 : Int32} {l4 : zP} {h : zH} {lv : List (Nat × Value)} (g0 : zgetl lv 0 = some (zo l0)) (g1 : zgetl lv 1 = some (Value.long l1)) (g3 : zgetl lv 3 = some (Value.int l3)) (g4 : zgetl lv 4 = some (zo l4)) (w : zw_17_0 xs d Q l0 l1 l3 l4 h) : zG xs d (17, 0, lv, []) h Q := by
  unfold zw_17_0 at w
  refine zR_al zfe_17_0 g4 ?_
  refine zG_p zfe_17_2 (zki_0 _) ?_
  refine zR_aln zfe_17_3 g0 ?_
  refine zR_lln zfe_17_4 g1 ?_
  refine zR_iln zfe_17_5 g3 ?_
  obtain ⟨_, _, hp, ho, w⟩ := w
  refine zR_cv (args := [_, _]) (rest := [_, _]) zfe_17_6 zlk_17_7 rfl rfl hp ho rfl (by simp only [List.map_cons, List.map_nil, List.sum_cons, List.sum_nil, zo_c, zci, zcJ]; decide) (zent_of znl_18 (by simp only [List.map_cons, List.map_nil, List.sum_cons, List.sum_nil, zo_c, zci, zcJ]; decide) (by decide)) (zCall_mono w (zA_i (fun x1 h2 w => ?_) (fun e h w => ?_)))
  · refine zG_p zfe_17_9 rfl ?_
    obtain ⟨_, _, hp, ho, hj, hv, w⟩ := w
    refine zR_las zfe_17_10 hp ho hj hv rfl ?_
    refine zG_go 22 zfe_17_11 rfl ?_
    refine zG_p zfe_17_22 (zki_0 _) ?_
    exact zR_ri zfe_17_23 zrt_17 w
  by_cases q0 : e = 0
  · subst q0
    have w := w.1 rfl
    refine Or.inr ⟨16, 5, _, (by decide +kernel), znl_17, (by decide), ?_⟩
    refine zG_p zfe_17_16 (zki_1 _) ?_
    exact zR_ri zfe_17_17 zrt_17 w
  by_cases q1 : e = 1
  · subst q1
    have w := w.2.1 rfl
    refine Or.inr ⟨20, 5, _, (by decide +kernel), znl_17, (by decide), ?_⟩
    refine zG_p zfe_17_20 (zki_2 _) ?_
    exact zR_ri zfe_17_21 zrt_17 w
  exact Or.inl ⟨zhx_17_6 q0 q1, zhy_17_6 q0 q1, w.2.2 ⟨q0, q1⟩⟩
theorem zm_17 {xs : List Value} {d : Nat} {Q : zO → zH → Prop} {l0 : zP} {l1 : Int64} {l3 : Int32} {l4 : zP} {h : zH} (w : zw_17_0 xs d Q  l0 l1 l3 l4 h) : zG xs d (17, 0, lv_args 0 [zo l0, Value.long l1, Value.int l3, zo l4], []) h Q := zs_17_0  (by cases l0 <;> cases l4 <;> rfl) (by cases l0 <;> cases l4 <;> rfl) (by cases l0 <;> cases l4 <;> rfl) (by cases l0 <;> cases l4 <;> rfl) w
-- 18: PactLedger.put(JI)I
def zw_18_11 (xs : List Value) (d : Nat) (Q : zO → zH → Prop)  (h : zH) : Prop := zTH d 0 h Q
theorem zs_18_11 {xs : List Value} {d : Nat} {Q : zO → zH → Prop}  {h : zH} {lv : List (Nat × Value)}  (w : zw_18_11 xs d Q h) : zG xs d (18, 11, lv, []) h Q := by
  unfold zw_18_11 at w
  exact zR_thr zfe_18_11 zlk_18_33 zfe_18_14 zfe_18_15 zfe_18_18 rfl w.1 (by decide) w.2
def zw_18_0 (xs : List Value) (d : Nat) (Q : zO → zH → Prop) (l0 : zP) (l1 : Int64) (l3 : Int32) (h : zH) : Prop := ((l3 < (1 : Int32) → zw_18_11 xs d Q h) ∧ (¬ l3 < (1 : Int32) → (((8 : Int32) < l3 → zw_18_11 xs d Q h) ∧ (¬ (8 : Int32) < l3 → zGR l0 0 0 h fun x1 => zGI x1 1 2 h fun x3 => (((240 : Int32) < (x3 + l3) → zTH d 1 h Q) ∧ (¬ (240 : Int32) < (x3 + l3) → zGR l0 0 0 h fun x5 => zCV xs d 19 1 x5 [Value.long l1, Value.int l3] h (zKV (fun h8 => zGR l0 0 0 h8 fun x9 => zGI x9 1 2 h8 fun x11 => Q (.inl (some (Value.int x11))) h8) (fun e h => Q (.inr e) h))))))))
theorem zs_18_0 {xs : List Value} {d : Nat} {Q : zO → zH → Prop} {l0 : zP} {l1 : Int64} {l3 : Int32} {h : zH} {lv : List (Nat × Value)} (g0 : zgetl lv 0 = some (zo l0)) (g1 : zgetl lv 1 = some (Value.long l1)) (g3 : zgetl lv 3 = some (Value.int l3)) (w : zw_18_0 xs d Q l0 l1 l3 h) : zG xs d (18, 0, lv, []) h Q := by
  unfold zw_18_0 at w
  refine zR_iln zfe_18_0 g3 ?_
  refine zG_p zfe_18_1 (zki_1 _) ?_
  refine zG_ic 11 zfe_18_2 rfl (fun q => ?_) (fun q => ?_)
  · have w := w.1 q
    exact zs_18_11 w
  · have w := w.2 q
    refine zR_iln zfe_18_5 g3 ?_
    refine zG_p zfe_18_6 (zkb_8 _) ?_
    refine zG_ic 19 zfe_18_8 rfl (fun q => ?_) (fun q => ?_)
    · have w := w.2 (Int32.not_lt.mpr q)
      refine zR_aln zfe_18_19 g0 ?_
      obtain ⟨_, _, x1, hp, ho, hv, w⟩ := w
      refine zR_gf zfe_18_20 zlk_18_10 (by decide) hp ho hv ?_
      obtain ⟨_, _, x3, hp, ho, hv, w⟩ := w
      refine zR_gf zfe_18_23 zlk_18_36 (by decide) hp ho hv ?_
      refine zR_iln zfe_18_26 g3 ?_
      refine zG_p zfe_18_27 rfl ?_
      refine zG_p zfe_18_28 (zks_240 _) ?_
      refine zG_ic 42 zfe_18_31 rfl (fun q => ?_) (fun q => ?_)
      · have w := w.2 (Int32.not_lt.mpr q)
        refine zR_aln zfe_18_42 g0 ?_
        obtain ⟨_, _, x5, hp, ho, hv, w⟩ := w
        refine zR_gf zfe_18_43 zlk_18_10 (by decide) hp ho hv ?_
        refine zR_lln zfe_18_46 g1 ?_
        refine zR_iln zfe_18_47 g3 ?_
        obtain ⟨_, _, hp, ho, w⟩ := w
        refine zR_cv (args := [_, _]) (rest := []) zfe_18_48 zlk_18_42 rfl rfl hp ho rfl (by decide) (zent_of znl_19 (by simp only [List.map_cons, List.map_nil, List.sum_cons, List.sum_nil, zo_c, zci, zcJ]; decide) (by decide)) (zCall_mono w (zA_v (fun h8 w => ?_) (fun e h w => zA_x rfl w)))
        refine zR_aln zfe_18_51 g0 ?_
        obtain ⟨_, _, x9, hp, ho, hv, w⟩ := w
        refine zR_gf zfe_18_52 zlk_18_10 (by decide) hp ho hv ?_
        obtain ⟨_, _, x11, hp, ho, hv, w⟩ := w
        refine zR_gf zfe_18_55 zlk_18_36 (by decide) hp ho hv ?_
        exact zR_ri zfe_18_58 zrt_18 w
      · have w := w.1 (Int32.not_le.mp q)
        exact zR_thr zfe_18_34 zlk_18_39 zfe_18_37 zfe_18_38 zfe_18_41 rfl w.1 (by decide) w.2
    · have w := w.1 (Int32.not_le.mp q)
      exact zs_18_11 w
theorem zm_18 {xs : List Value} {d : Nat} {Q : zO → zH → Prop} {l0 : zP} {l1 : Int64} {l3 : Int32} {h : zH} (w : zw_18_0 xs d Q  l0 l1 l3 h) : zG xs d (18, 0, lv_args 0 [zo l0, Value.long l1, Value.int l3], []) h Q := zs_18_0  (by cases l0 <;> rfl) (by cases l0 <;> rfl) (by cases l0 <;> rfl) w
-- 19: PactLedger$Buffer.append(JI)V
def zw_19_56 (xs : List Value) (d : Nat) (Q : zO → zH → Prop) (J5 : zP → Int64 → Int32 → zH → Prop)  (h : zH) : Prop := Q (.inl none) h
theorem zs_19_56 {xs : List Value} {d : Nat} {Q : zO → zH → Prop} {J5 : zP → Int64 → Int32 → zH → Prop}  {h : zH} {lv : List (Nat × Value)} (HJ5 : ∀ (l0 : zP) (l1 : Int64) (l4 : Int32)  (h : zH) (lv : List (Nat × Value)), zgetl lv 0 = some (zo l0) → zgetl lv 1 = some (Value.long l1) → zgetl lv 4 = some (Value.int l4) → J5 l0 l1 l4 h → zG xs d (19, 5, lv, []) h Q)  (w : zw_19_56 xs d Q J5 h) : zG xs d (19, 56, lv, []) h Q := by
  unfold zw_19_56 at w
  exact zR_rv zfe_19_56 zrt_19 w
def zw_19_5 (xs : List Value) (d : Nat) (Q : zO → zH → Prop) (J5 : zP → Int64 → Int32 → zH → Prop) (l0 : zP) (l1 : Int64) (l4 : Int32) (h : zH) : Prop := ((l4 < 0 → zw_19_56 xs d Q J5 h) ∧ (¬ l4 < 0 → zGI l0 1 2 h fun x1 => zGR l0 1 0 h fun x3 => zLN xs x3 h fun x5 => ((x1 < x5 → zGR l0 1 0 h fun x6 => zGI l0 1 2 h fun x8 => zST 2 x6 x8 (Value.int (vp_nar .byte ((((l1).toUInt64 >>> ((((8 : Int32) * l4)).toInt64.toUInt64 &&& Int64.toUInt64 63)).toInt64).toInt32).toInt8.toInt32)) h fun h10 => zGI l0 1 2 h10 fun x11 => zPF l0 1 2 (Value.int (x11 + (1 : Int32))) h10 fun h13 => ∀ x16 : Int32, x16 = (l4 + (-1 : Int32)) → J5 l0 l1 x16 h13) ∧ (¬ x1 < x5 → zw_19_56 xs d Q J5 h))))
theorem zs_19_5 {xs : List Value} {d : Nat} {Q : zO → zH → Prop} {J5 : zP → Int64 → Int32 → zH → Prop} {l0 : zP} {l1 : Int64} {l4 : Int32} {h : zH} {lv : List (Nat × Value)} (HJ5 : ∀ (l0 : zP) (l1 : Int64) (l4 : Int32)  (h : zH) (lv : List (Nat × Value)), zgetl lv 0 = some (zo l0) → zgetl lv 1 = some (Value.long l1) → zgetl lv 4 = some (Value.int l4) → J5 l0 l1 l4 h → zG xs d (19, 5, lv, []) h Q) (g0 : zgetl lv 0 = some (zo l0)) (g1 : zgetl lv 1 = some (Value.long l1)) (g4 : zgetl lv 4 = some (Value.int l4)) (w : zw_19_5 xs d Q J5 l0 l1 l4 h) : zG xs d (19, 5, lv, []) h Q := by
  unfold zw_19_5 at w
  refine zR_il zfe_19_5 g4 ?_
  refine zG_if 56 zfe_19_7 rfl (fun q => ?_) (fun q => ?_)
  · have w := w.1 q
    exact zs_19_56 HJ5 w
  · have w := w.2 q
    refine zR_aln zfe_19_10 g0 ?_
    obtain ⟨_, _, x1, hp, ho, hv, w⟩ := w
    refine zR_gf zfe_19_11 zlk_19_21 (by decide) hp ho hv ?_
    refine zR_aln zfe_19_14 g0 ?_
    obtain ⟨_, _, x3, hp, ho, hv, w⟩ := w
    refine zR_gf zfe_19_15 zlk_19_9 (by decide) hp ho hv ?_
    obtain ⟨_, _, _, hp, ho, ht, w⟩ := w
    refine zR_len zfe_19_18 hp ho ht ?_
    refine zG_ic 56 zfe_19_19 rfl (fun q => ?_) (fun q => ?_)
    · have w := w.2 (Int32.not_lt.mpr q)
      exact zs_19_56 HJ5 w
    · have w := w.1 (Int32.not_le.mp q)
      refine zR_aln zfe_19_22 g0 ?_
      obtain ⟨_, _, x6, hp, ho, hv, w⟩ := w
      refine zR_gf zfe_19_23 zlk_19_9 (by decide) hp ho hv ?_
      refine zR_aln zfe_19_26 g0 ?_
      obtain ⟨_, _, x8, hp, ho, hv, w⟩ := w
      refine zR_gf zfe_19_27 zlk_19_21 (by decide) hp ho hv ?_
      refine zR_lln zfe_19_30 g1 ?_
      refine zG_p zfe_19_31 (zkb_8 _) ?_
      refine zR_il zfe_19_33 g4 ?_
      refine zG_p zfe_19_35 rfl ?_
      refine zG_p zfe_19_36 rfl ?_
      refine zG_p zfe_19_37 rfl ?_
      refine zG_p zfe_19_38 rfl ?_
      obtain ⟨_, _, hp, ho, hj, hv, w⟩ := w
      refine zR_bas zfe_19_39 hp ho hj hv rfl ?_
      refine zR_aln zfe_19_40 g0 ?_
      refine zR_aln zfe_19_41 g0 ?_
      obtain ⟨_, _, x11, hp, ho, hv, w⟩ := w
      refine zR_gf zfe_19_42 zlk_19_21 (by decide) hp ho hv ?_
      refine zG_p zfe_19_45 (zki_1 _) ?_
      refine zG_p zfe_19_46 rfl ?_
      obtain ⟨_, _, hp, ho, hj, w⟩ := w
      refine zR_pf zfe_19_47 zlk_19_21 (by decide) hp ho hj (zfit_i zft_1_2) (by decide) rfl ?_
      refine zR_inc zfe_19_50 znl_19 (by decide) zkn_1 g4 (fun lv15 e14 => ?_)
      replace g0 := zgl_n1 e14 g0 rfl (Or.inl (zo_c _))
      replace g1 := zgl_n1 e14 g1 rfl (Or.inr rfl)
      have g4 := zgl_s1 e14
      have w := w _ rfl
      refine zG_go 5 zfe_19_53 rfl ?_
      exact HJ5 _ _ _ _ _ g0 g1 g4 w
def zw_19_0 (xs : List Value) (d : Nat) (Q : zO → zH → Prop) (J5 : zP → Int64 → Int32 → zH → Prop) (l0 : zP) (l1 : Int64) (l3 : Int32) (h : zH) : Prop := ∀ x3 : Int32, x3 = (l3 - (1 : Int32)) → J5 l0 l1 x3 h
theorem zs_19_0 {xs : List Value} {d : Nat} {Q : zO → zH → Prop} {J5 : zP → Int64 → Int32 → zH → Prop} {l0 : zP} {l1 : Int64} {l3 : Int32} {h : zH} {lv : List (Nat × Value)} (HJ5 : ∀ (l0 : zP) (l1 : Int64) (l4 : Int32)  (h : zH) (lv : List (Nat × Value)), zgetl lv 0 = some (zo l0) → zgetl lv 1 = some (Value.long l1) → zgetl lv 4 = some (Value.int l4) → J5 l0 l1 l4 h → zG xs d (19, 5, lv, []) h Q) (g0 : zgetl lv 0 = some (zo l0)) (g1 : zgetl lv 1 = some (Value.long l1)) (g3 : zgetl lv 3 = some (Value.int l3)) (w : zw_19_0 xs d Q J5 l0 l1 l3 h) : zG xs d (19, 0, lv, []) h Q := by
  unfold zw_19_0 at w
  refine zR_iln zfe_19_0 g3 ?_
  refine zG_p zfe_19_1 (zki_1 _) ?_
  refine zG_p zfe_19_2 rfl ?_
  refine zR_is zfe_19_3 znl_19 (by decide) (fun lv2 e1 => ?_)
  replace g0 := zgl_n1 e1 g0 rfl (Or.inl (zo_c _))
  replace g1 := zgl_n1 e1 g1 rfl (Or.inr rfl)
  have g4 := zgl_s1 e1
  have w := w _ rfl
  exact HJ5 _ _ _ _ _ g0 g1 g4 w
theorem zl_19 {xs : List Value} {d : Nat} {Q : zO → zH → Prop} (I5 : Nat → zP → Int64 → Int32 → zH → Prop) (k5 : ∀ (n : Nat) (l0 : zP) (l1 : Int64) (l4 : Int32) (h : zH), I5 n l0 l1 l4 h → zw_19_5 xs d Q (fun l0 l1 l4 h => ∃ n1, n1 < n ∧ I5 n1 l0 l1 l4 h) l0 l1 l4 h) : ∀ n : Nat, (∀ (l0 : zP) (l1 : Int64) (l4 : Int32) (h : zH) (lv : List (Nat × Value)), zgetl lv 0 = some (zo l0) → zgetl lv 1 = some (Value.long l1) → zgetl lv 4 = some (Value.int l4) → I5 n l0 l1 l4 h → zG xs d (19, 5, lv, []) h Q) := by
  intro n
  induction n using Nat.strongRecOn with
  | ind n ih =>
    exact fun l0 l1 l4 h lv g0 g1 g2 w => zs_19_5 (fun _ _ _ _ _ g0 g1 g2 w => by obtain ⟨n1, hn, w⟩ := w; exact (ih n1 hn) _ _ _ _ _ g0 g1 g2 w) g0 g1 g2 (k5 n l0 l1 l4 h w)
theorem zm_19 {xs : List Value} {d : Nat} {Q : zO → zH → Prop} {l0 : zP} {l1 : Int64} {l3 : Int32} {h : zH} (I5 : Nat → zP → Int64 → Int32 → zH → Prop) (k5 : ∀ (n : Nat) (l0 : zP) (l1 : Int64) (l4 : Int32) (h : zH), I5 n l0 l1 l4 h → zw_19_5 xs d Q (fun l0 l1 l4 h => ∃ n1, n1 < n ∧ I5 n1 l0 l1 l4 h) l0 l1 l4 h) (w : zw_19_0 xs d Q (fun l0 l1 l4 h => ∃ n1, I5 n1 l0 l1 l4 h) l0 l1 l3 h) : zG xs d (19, 0, lv_args 0 [zo l0, Value.long l1, Value.int l3], []) h Q := zs_19_0 (fun _ _ _ _ _ g0 g1 g2 w => by obtain ⟨n1, w⟩ := w; exact (zl_19 I5 k5 n1) _ _ _ _ _ g0 g1 g2 w) (by cases l0 <;> rfl) (by cases l0 <;> rfl) (by cases l0 <;> rfl) w
-- 20: PactLedgerLaw.deploy(LPactLedger;[J)I
def zw_20_0 (xs : List Value) (d : Nat) (Q : zO → zH → Prop) (l0 : zP) (l1 : zP) (h : zH) : Prop := zCV xs d 21 0 l0 [] h (zKI (fun x1 h2 => zST 1 l1 (0 : Int32) (Value.long (x1).toInt64) h2 fun h3 => Q (.inl (some (Value.int (0 : Int32)))) h3) (fun e h => (e = 1 → Q (.inl (some (Value.int (1 : Int32)))) h) ∧ (e = 0 → Q (.inl (some (Value.int (2 : Int32)))) h) ∧ (e = 2 → Q (.inl (some (Value.int (3 : Int32)))) h) ∧ (¬ e = 1 ∧ ¬ e = 0 ∧ ¬ e = 2 → Q (.inr e) h)))
theorem zlkh_20_15 : zlink 20 15 = some (15, 1, 0) := by decide +kernel
theorem zlkh_20_13 : zlink 20 13 = some (15, 0, 0) := by decide +kernel
theorem zlkh_20_21 : zlink 20 21 = some (15, 2, 0) := by decide +kernel
theorem zhx_20_3 {e : Nat} (q1 : ¬ e = 1) (q0 : ¬ e = 0) (q2 : ¬ e = 2) : zcat 20 3 e = none := by
  unfold zcat
  rw [show z_hh.getD 20 [] = [(0, 8, 11, 15), (0, 8, 14, 13), (0, 8, 17, 21)] from rfl]
  simp only [List.find?_cons, List.find?_nil, zlkh_20_15, zlkh_20_13, zlkh_20_21, show (1 == e) = false from by simpa using fun z => q1 z.symm, show (0 == e) = false from by simpa using fun z => q0 z.symm, show (2 == e) = false from by simpa using fun z => q2 z.symm, Bool.and_false]
theorem zhy_20_3 {e : Nat} (q1 : ¬ e = 1) (q0 : ¬ e = 0) (q2 : ¬ e = 2) : zesc 20 3 e = true := by
  unfold zesc
  rw [show z_hh.getD 20 [] = [(0, 8, 11, 15), (0, 8, 14, 13), (0, 8, 17, 21)] from rfl]
  simp only [List.all_cons, List.all_nil, zlkh_20_15, zlkh_20_13, zlkh_20_21, show (1 == e) = false from by simpa using fun z => q1 z.symm, show (0 == e) = false from by simpa using fun z => q0 z.symm, show (2 == e) = false from by simpa using fun z => q2 z.symm, Bool.not_false, Bool.or_true, Bool.and_true]
theorem zs_20_0 {xs : List Value} {d : Nat} {Q : zO → zH → Prop} {l0 : zP} {l1 : zP} {h : zH} {lv : List (Nat × Value)} (g0 : zgetl lv 0 = some (zo l0)) (g1 : zgetl lv 1 = some (zo l1)) (w : zw_20_0 xs d Q l0 l1 h) : zG xs d (20, 0, lv, []) h Q := by
  unfold zw_20_0 at w
  refine zR_aln zfe_20_0 g1 ?_
  refine zG_p zfe_20_1 (zki_0 _) ?_
  refine zR_aln zfe_20_2 g0 ?_
  obtain ⟨_, _, hp, ho, w⟩ := w
  refine zR_cv (args := []) (rest := [_, _]) zfe_20_3 zlk_20_17 rfl rfl hp ho rfl (by simp only [List.map_cons, List.map_nil, List.sum_cons, List.sum_nil, zo_c, zci, zcJ]; decide) (zent_of znl_21 (by simp only [List.map_cons, List.map_nil, List.sum_cons, List.sum_nil, zo_c, zci, zcJ]; decide) (by decide)) (zCall_mono w (zA_i (fun x1 h2 w => ?_) (fun e h w => ?_)))
  · refine zG_p zfe_20_6 rfl ?_
    obtain ⟨_, _, hp, ho, hj, hv, w⟩ := w
    refine zR_las zfe_20_7 hp ho hj hv rfl ?_
    refine zG_go 20 zfe_20_8 rfl ?_
    refine zG_p zfe_20_20 (zki_0 _) ?_
    exact zR_ri zfe_20_21 zrt_20 w
  by_cases q1 : e = 1
  · subst q1
    have w := w.1 rfl
    refine Or.inr ⟨12, 2, _, (by decide +kernel), znl_20, (by decide), ?_⟩
    refine zG_p zfe_20_12 (zki_1 _) ?_
    exact zR_ri zfe_20_13 zrt_20 w
  by_cases q0 : e = 0
  · subst q0
    have w := w.2.1 rfl
    refine Or.inr ⟨15, 2, _, (by decide +kernel), znl_20, (by decide), ?_⟩
    refine zG_p zfe_20_15 (zki_2 _) ?_
    exact zR_ri zfe_20_16 zrt_20 w
  by_cases q2 : e = 2
  · subst q2
    have w := w.2.2.1 rfl
    refine Or.inr ⟨18, 2, _, (by decide +kernel), znl_20, (by decide), ?_⟩
    refine zG_p zfe_20_18 (zki_3 _) ?_
    exact zR_ri zfe_20_19 zrt_20 w
  exact Or.inl ⟨zhx_20_3 q1 q0 q2, zhy_20_3 q1 q0 q2, w.2.2.2 ⟨q1, q0, q2⟩⟩
theorem zm_20 {xs : List Value} {d : Nat} {Q : zO → zH → Prop} {l0 : zP} {l1 : zP} {h : zH} (w : zw_20_0 xs d Q  l0 l1 h) : zG xs d (20, 0, lv_args 0 [zo l0, zo l1], []) h Q := zs_20_0  (by cases l0 <;> cases l1 <;> rfl) (by cases l0 <;> cases l1 <;> rfl) w
-- 21: PactLedger.deploy()I
def zw_21_188 (xs : List Value) (d : Nat) (Q : zO → zH → Prop) (l0 : zP) (l2 : zP) (l3 : zP) (l5 : zP) (l7 : zP) (l8 : zP) (l10 : Int32) (s0 : Int32) (s1 : zP) (h : zH) : Prop := zCV xs d 49 6 s1 [Value.int s0, Value.int l10] h (zKV (fun h2 => zNO 10 [Value.null, Value.null, Value.null, Value.null, Value.int 0, Value.int 0, Value.int 0, Value.int 0] h2 fun a3 h4 => zGR l7 4 4 h4 fun x5 => zCN xs d 92 (some a3) [zo l3, zo l5, zo l8, zo x5] h4 fun h8 => zGI l2 6 1 h8 fun x11 => zPF (some a3) 10 4 (Value.int x11) h8 fun h13 => zGI l2 6 2 h13 fun x14 => zPF (some a3) 10 5 (Value.int x14) h13 fun h16 => zGR l0 0 2 h16 fun x17 => zGI l0 0 3 h16 fun x19 => zAS x17 x19 (some a3) h16 fun h21 => zGI l0 0 3 h21 fun x22 => zPF l0 0 3 (Value.int (x22 + (1 : Int32))) h21 fun h24 => zGI l0 0 3 h24 fun x25 => Q (.inl (some (Value.int (x25 - (1 : Int32))))) h24) (fun e h => Q (.inr e) h))
theorem zs_21_188 {xs : List Value} {d : Nat} {Q : zO → zH → Prop} {l0 : zP} {l2 : zP} {l3 : zP} {l5 : zP} {l7 : zP} {l8 : zP} {l10 : Int32} {s0 : Int32} {s1 : zP} {h : zH} {lv : List (Nat × Value)} (g0 : zgetl lv 0 = some (zo l0)) (g2 : zgetl lv 2 = some (zo l2)) (g3 : zgetl lv 3 = some (zo l3)) (g5 : zgetl lv 5 = some (zo l5)) (g7 : zgetl lv 7 = some (zo l7)) (g8 : zgetl lv 8 = some (zo l8)) (g10 : zgetl lv 10 = some (Value.int l10)) (w : zw_21_188 xs d Q l0 l2 l3 l5 l7 l8 l10 s0 s1 h) : zG xs d (21, 188, lv, [Value.int s0, zo s1]) h Q := by
  unfold zw_21_188 at w
  refine zR_il zfe_21_188 g10 ?_
  obtain ⟨_, _, hp, ho, w⟩ := w
  refine zR_cv (args := [_, _]) (rest := []) zfe_21_190 zlk_21_100 rfl rfl hp ho rfl (by decide) (zent_of znl_49 (by simp only [List.map_cons, List.map_nil, List.sum_cons, List.sum_nil, zo_c, zci, zcJ]; decide) (by decide)) (zCall_mono w (zA_v (fun h2 w => ?_) (fun e h w => zA_x rfl w)))
  have w := zNO_u w
  refine zR_new zfe_21_193 zlk_21_23 rfl rfl rfl ?_
  refine zR_dup zfe_21_196 (zo_c _) ?_
  refine zR_aln zfe_21_197 g3 ?_
  refine zR_al zfe_21_198 g5 ?_
  refine zR_al zfe_21_200 g8 ?_
  refine zR_al zfe_21_202 g7 ?_
  obtain ⟨_, _, x5, hp, ho, hv, w⟩ := w
  refine zR_gf zfe_21_204 zlk_21_108 (by decide) hp ho hv ?_
  obtain ⟨_, hp, ho, w⟩ := w
  refine zR_ci zfe_21_207 zlk_21_112 (by decide) (rest := [_]) (args := [_, _, _, _]) rfl rfl hp ho (by simp only [List.map_cons, List.map_nil, List.sum_cons, List.sum_nil, zo_c, zci, zcJ]; decide) (zent_of znl_92 (by simp only [List.map_cons, List.map_nil, List.sum_cons, List.sum_nil, zo_c, zci, zcJ]; decide) (by decide)) w (fun h8 w => ?_)
  refine zR_as zfe_21_210 znl_21 (by decide) (fun lv10 e9 => ?_)
  replace g0 := zgl_n1 e9 g0 rfl (Or.inl (zo_c _))
  replace g2 := zgl_n1 e9 g2 rfl (Or.inl (zo_c _))
  have g11 := zgl_s1 e9
  refine zR_al zfe_21_212 g11 ?_
  refine zR_aln zfe_21_214 g2 ?_
  obtain ⟨_, _, x11, hp, ho, hv, w⟩ := w
  refine zR_gf zfe_21_215 zlk_21_115 (by decide) hp ho hv ?_
  obtain ⟨_, _, hp, ho, hj, w⟩ := w
  refine zR_pf zfe_21_218 zlk_21_118 (by decide) hp ho hj (zfit_i zft_10_4) (by decide) rfl ?_
  refine zR_al zfe_21_221 g11 ?_
  refine zR_aln zfe_21_223 g2 ?_
  obtain ⟨_, _, x14, hp, ho, hv, w⟩ := w
  refine zR_gf zfe_21_224 zlk_21_119 (by decide) hp ho hv ?_
  obtain ⟨_, _, hp, ho, hj, w⟩ := w
  refine zR_pf zfe_21_227 zlk_21_122 (by decide) hp ho hj (zfit_i zft_10_5) (by decide) rfl ?_
  refine zR_aln zfe_21_230 g0 ?_
  obtain ⟨_, _, x17, hp, ho, hv, w⟩ := w
  refine zR_gf zfe_21_231 zlk_21_25 (by decide) hp ho hv ?_
  refine zR_aln zfe_21_234 g0 ?_
  obtain ⟨_, _, x19, hp, ho, hv, w⟩ := w
  refine zR_gf zfe_21_235 zlk_21_29 (by decide) hp ho hv ?_
  refine zR_al zfe_21_238 g11 ?_
  obtain ⟨_, _, _, hp, ho, ht, hj, hv, hq, w⟩ := w
  refine zR_aas zfe_21_240 hp ho ht hj hv hq rfl ?_
  refine zR_aln zfe_21_241 g0 ?_
  refine zR_aln zfe_21_242 g0 ?_
  obtain ⟨_, _, x22, hp, ho, hv, w⟩ := w
  refine zR_gf zfe_21_243 zlk_21_29 (by decide) hp ho hv ?_
  refine zG_p zfe_21_246 (zki_1 _) ?_
  refine zG_p zfe_21_247 rfl ?_
  obtain ⟨_, _, hp, ho, hj, w⟩ := w
  refine zR_pf zfe_21_248 zlk_21_29 (by decide) hp ho hj (zfit_i zft_0_3) (by decide) rfl ?_
  refine zR_aln zfe_21_251 g0 ?_
  obtain ⟨_, _, x25, hp, ho, hv, w⟩ := w
  refine zR_gf zfe_21_252 zlk_21_29 (by decide) hp ho hv ?_
  refine zG_p zfe_21_255 (zki_1 _) ?_
  refine zG_p zfe_21_256 rfl ?_
  exact zR_ri zfe_21_257 zrt_21 w
def zw_21_159 (xs : List Value) (d : Nat) (Q : zO → zH → Prop) (l0 : zP) (l2 : zP) (l3 : zP) (l5 : zP) (l6 : zP) (l7 : zP) (l8 : zP) (s0 : Int32) (s1 : zP) (h : zH) : Prop := zGI l6 4 0 h fun x1 => zCV xs d 49 6 s1 [Value.int s0, Value.int x1] h (zKV (fun h4 => zCV xs d 76 7 l5 [zo l7] h4 (zKI (fun x5 h6 => ((x5 = (-1 : Int32) → zw_21_188 xs d Q l0 l2 l3 l5 l7 l8 x5 (1 : Int32) l2 h6) ∧ (¬ x5 = (-1 : Int32) → zw_21_188 xs d Q l0 l2 l3 l5 l7 l8 x5 (0 : Int32) l2 h6))) (fun e h => Q (.inr e) h))) (fun e h => Q (.inr e) h))
theorem zs_21_159 {xs : List Value} {d : Nat} {Q : zO → zH → Prop} {l0 : zP} {l2 : zP} {l3 : zP} {l5 : zP} {l6 : zP} {l7 : zP} {l8 : zP} {s0 : Int32} {s1 : zP} {h : zH} {lv : List (Nat × Value)} (g0 : zgetl lv 0 = some (zo l0)) (g2 : zgetl lv 2 = some (zo l2)) (g3 : zgetl lv 3 = some (zo l3)) (g5 : zgetl lv 5 = some (zo l5)) (g6 : zgetl lv 6 = some (zo l6)) (g7 : zgetl lv 7 = some (zo l7)) (g8 : zgetl lv 8 = some (zo l8)) (w : zw_21_159 xs d Q l0 l2 l3 l5 l6 l7 l8 s0 s1 h) : zG xs d (21, 159, lv, [Value.int s0, zo s1]) h Q := by
  unfold zw_21_159 at w
  refine zR_al zfe_21_159 g6 ?_
  obtain ⟨_, _, x1, hp, ho, hv, w⟩ := w
  refine zR_gf zfe_21_161 zlk_21_97 (by decide) hp ho hv ?_
  obtain ⟨_, _, hp, ho, w⟩ := w
  refine zR_cv (args := [_, _]) (rest := []) zfe_21_164 zlk_21_100 rfl rfl hp ho rfl (by decide) (zent_of znl_49 (by simp only [List.map_cons, List.map_nil, List.sum_cons, List.sum_nil, zo_c, zci, zcJ]; decide) (by decide)) (zCall_mono w (zA_v (fun h4 w => ?_) (fun e h w => zA_x rfl w)))
  refine zR_al zfe_21_167 g5 ?_
  refine zR_al zfe_21_169 g7 ?_
  obtain ⟨_, _, hp, ho, w⟩ := w
  refine zR_cv (args := [_]) (rest := []) zfe_21_171 zlk_21_104 rfl rfl hp ho rfl (by decide) (zent_of znl_76 (by simp only [List.map_cons, List.map_nil, List.sum_cons, List.sum_nil, zo_c, zci, zcJ]; decide) (by decide)) (zCall_mono w (zA_i (fun x5 h6 w => ?_) (fun e h w => zA_x rfl w)))
  refine zR_is zfe_21_174 znl_21 (by decide) (fun lv8 e7 => ?_)
  replace g0 := zgl_n1 e7 g0 rfl (Or.inl (zo_c _))
  replace g2 := zgl_n1 e7 g2 rfl (Or.inl (zo_c _))
  replace g3 := zgl_n1 e7 g3 rfl (Or.inl (zo_c _))
  replace g5 := zgl_n1 e7 g5 rfl (Or.inl (zo_c _))
  replace g7 := zgl_n1 e7 g7 rfl (Or.inl (zo_c _))
  replace g8 := zgl_n1 e7 g8 rfl (Or.inl (zo_c _))
  have g10 := zgl_s1 e7
  refine zR_aln zfe_21_176 g2 ?_
  refine zR_il zfe_21_177 g10 ?_
  refine zG_p zfe_21_179 (zki_m1 _) ?_
  refine zG_ic 187 zfe_21_180 rfl (fun q => ?_) (fun q => ?_)
  · have w := w.2 q
    refine zG_p zfe_21_187 (zki_0 _) ?_
    exact zs_21_188 g0 g2 g3 g5 g7 g8 g10 w
  · have w := w.1 (Decidable.not_not.mp q)
    refine zG_p zfe_21_183 (zki_1 _) ?_
    refine zG_go 188 zfe_21_184 rfl ?_
    exact zs_21_188 g0 g2 g3 g5 g7 g8 g10 w
def zw_21_154 (xs : List Value) (d : Nat) (Q : zO → zH → Prop) (l0 : zP) (l2 : zP) (l3 : zP) (l5 : zP) (l6 : zP) (l7 : zP) (l8 : zP) (s0 : zP) (h : zH) : Prop := zw_21_159 xs d Q l0 l2 l3 l5 l6 l7 l8 (1 : Int32) s0 h
theorem zs_21_154 {xs : List Value} {d : Nat} {Q : zO → zH → Prop} {l0 : zP} {l2 : zP} {l3 : zP} {l5 : zP} {l6 : zP} {l7 : zP} {l8 : zP} {s0 : zP} {h : zH} {lv : List (Nat × Value)} (g0 : zgetl lv 0 = some (zo l0)) (g2 : zgetl lv 2 = some (zo l2)) (g3 : zgetl lv 3 = some (zo l3)) (g5 : zgetl lv 5 = some (zo l5)) (g6 : zgetl lv 6 = some (zo l6)) (g7 : zgetl lv 7 = some (zo l7)) (g8 : zgetl lv 8 = some (zo l8)) (w : zw_21_154 xs d Q l0 l2 l3 l5 l6 l7 l8 s0 h) : zG xs d (21, 154, lv, [zo s0]) h Q := by
  unfold zw_21_154 at w
  refine zG_p zfe_21_154 (zki_1 _) ?_
  refine zG_go 159 zfe_21_155 rfl ?_
  exact zs_21_159 g0 g2 g3 g5 g6 g7 g8 w
def zw_21_0 (xs : List Value) (d : Nat) (Q : zO → zH → Prop) (l0 : zP) (h : zH) : Prop := zGI l0 0 3 h fun x1 => zGR l0 0 2 h fun x3 => zLN xs x3 h fun x5 => ((x1 < x5 → zGR l0 0 0 h fun x6 => zCV xs d 23 1 x6 [Value.int (5 : Int32)] h (zKR (fun x8 h9 => zNO 6 [Value.null, Value.int 0, Value.int 0] h9 fun a12 h13 => zGR l0 0 0 h13 fun x14 => zCN xs d 45 (some a12) [zo x14] h13 fun h17 => zCV xs d 46 4 x8 [Value.int (0 : Int32)] h17 (zKR (fun x20 h21 => zCV xs d 47 6 (some a12) [zo x20, Value.int (0 : Int32)] h21 (zKR (fun x22 h23 => zCV xs d 46 4 x8 [Value.int (1 : Int32)] h23 (zKR (fun x26 h27 => zCV xs d 47 6 (some a12) [zo x26, Value.int (0 : Int32)] h27 (zKR (fun x28 h29 => zCV xs d 46 4 x8 [Value.int (2 : Int32)] h29 (zKR (fun x32 h33 => zCV xs d 47 6 (some a12) [zo x32, Value.int (1 : Int32)] h33 (zKR (fun x34 h35 => zCV xs d 46 4 x8 [Value.int (3 : Int32)] h35 (zKR (fun x38 h39 => zCV xs d 46 4 x8 [Value.int (4 : Int32)] h39 (zKR (fun x42 h43 => zCV xs d 51 4 x38 [] h43 (zKI (fun x46 h47 => zNA 7 Value.null x46 h47 fun a48 h49 => zCall xs d 52 [zo x22, zo x34] h49 (zKR (fun x52 h53 => zCall xs d 53 [zo x52] h53 (zKR (fun x54 h55 => zCV xs d 56 6 (some a12) [zo x38, zo (some a48), zo x54, Value.int (0 : Int32)] h55 (zKR (fun x56 h57 => zCV xs d 57 8 x56 [] h57 (zKI (fun x60 h61 => ((x60 = 0 → zCall xs d 52 [zo x28, zo x34] h61 (zKR (fun x62 h63 => zCall xs d 53 [zo x62] h63 (zKR (fun x64 h65 => zCall xs d 72 [zo x56, zo x64] h65 (zKI (fun x66 h67 => ((x66 = 0 → zw_21_159 xs d Q l0 (some a12) x22 x34 x38 x42 (some a48) (0 : Int32) (some a12) h67) ∧ (¬ x66 = 0 → zw_21_154 xs d Q l0 (some a12) x22 x34 x38 x42 (some a48) (some a12) h67))) (fun e h => Q (.inr e) h))) (fun e h => Q (.inr e) h))) (fun e h => Q (.inr e) h))) ∧ (¬ x60 = 0 → zw_21_154 xs d Q l0 (some a12) x22 x34 x38 x42 (some a48) (some a12) h61))) (fun e h => Q (.inr e) h))) (fun e h => Q (.inr e) h))) (fun e h => Q (.inr e) h))) (fun e h => Q (.inr e) h))) (fun e h => Q (.inr e) h))) (fun e h => Q (.inr e) h))) (fun e h => Q (.inr e) h))) (fun e h => Q (.inr e) h))) (fun e h => Q (.inr e) h))) (fun e h => Q (.inr e) h))) (fun e h => Q (.inr e) h))) (fun e h => Q (.inr e) h))) (fun e h => Q (.inr e) h))) (fun e h => Q (.inr e) h))) ∧ (¬ x1 < x5 → zGR l0 0 0 h fun x68 => zCV xs d 22 1 x68 [] h (zKV (fun h71 => zTH d 1 h71 Q) (fun e h => Q (.inr e) h))))
theorem zs_21_0 {xs : List Value} {d : Nat} {Q : zO → zH → Prop} {l0 : zP} {h : zH} {lv : List (Nat × Value)} (g0 : zgetl lv 0 = some (zo l0)) (w : zw_21_0 xs d Q l0 h) : zG xs d (21, 0, lv, []) h Q := by
  unfold zw_21_0 at w
  refine zR_aln zfe_21_0 g0 ?_
  obtain ⟨_, _, x1, hp, ho, hv, w⟩ := w
  refine zR_gf zfe_21_1 zlk_21_29 (by decide) hp ho hv ?_
  refine zR_aln zfe_21_4 g0 ?_
  obtain ⟨_, _, x3, hp, ho, hv, w⟩ := w
  refine zR_gf zfe_21_5 zlk_21_25 (by decide) hp ho hv ?_
  obtain ⟨_, _, _, hp, ho, ht, w⟩ := w
  refine zR_len zfe_21_8 hp ho ht ?_
  refine zG_ic 27 zfe_21_9 rfl (fun q => ?_) (fun q => ?_)
  · have w := w.1 q
    refine zR_aln zfe_21_27 g0 ?_
    obtain ⟨_, _, x6, hp, ho, hv, w⟩ := w
    refine zR_gf zfe_21_28 zlk_21_10 (by decide) hp ho hv ?_
    refine zG_p zfe_21_31 (zki_5 _) ?_
    obtain ⟨_, _, hp, ho, w⟩ := w
    refine zR_cv (args := [_]) (rest := []) zfe_21_32 zlk_21_49 rfl rfl hp ho rfl (by decide) (zent_of znl_23 (by simp only [List.map_cons, List.map_nil, List.sum_cons, List.sum_nil, zo_c, zci, zcJ]; decide) (by decide)) (zCall_mono w (zA_r (fun x8 h9 w => ?_) (fun e h w => zA_x rfl w)))
    refine zR_asn zfe_21_35 znl_21 (by decide) (fun lv11 e10 => ?_)
    replace g0 := zgl_n1 e10 g0 rfl (Or.inl (zo_c _))
    have g1 := zgl_s1 e10
    have w := zNO_u w
    refine zR_new zfe_21_36 zlk_21_53 rfl rfl rfl ?_
    refine zR_dup zfe_21_39 (zo_c _) ?_
    refine zR_aln zfe_21_40 g0 ?_
    obtain ⟨_, _, x14, hp, ho, hv, w⟩ := w
    refine zR_gf zfe_21_41 zlk_21_10 (by decide) hp ho hv ?_
    obtain ⟨_, hp, ho, w⟩ := w
    refine zR_ci zfe_21_44 zlk_21_55 (by decide) (rest := [_]) (args := [_]) rfl rfl hp ho (by simp only [List.map_cons, List.map_nil, List.sum_cons, List.sum_nil, zo_c, zci, zcJ]; decide) (zent_of znl_45 (by simp only [List.map_cons, List.map_nil, List.sum_cons, List.sum_nil, zo_c, zci, zcJ]; decide) (by decide)) w (fun h17 w => ?_)
    refine zR_asn zfe_21_47 znl_21 (by decide) (fun lv19 e18 => ?_)
    replace g0 := zgl_n1 e18 g0 rfl (Or.inl (zo_c _))
    replace g1 := zgl_n1 e18 g1 rfl (Or.inl (zo_c _))
    have g2 := zgl_s1 e18
    refine zR_aln zfe_21_48 g2 ?_
    refine zR_aln zfe_21_49 g1 ?_
    refine zG_p zfe_21_50 (zki_0 _) ?_
    obtain ⟨_, _, hp, ho, w⟩ := w
    refine zR_cv (args := [_]) (rest := [_]) zfe_21_51 zlk_21_58 rfl rfl hp ho rfl (by simp only [List.map_cons, List.map_nil, List.sum_cons, List.sum_nil, zo_c, zci, zcJ]; decide) (zent_of znl_46 (by simp only [List.map_cons, List.map_nil, List.sum_cons, List.sum_nil, zo_c, zci, zcJ]; decide) (by decide)) (zCall_mono w (zA_r (fun x20 h21 w => ?_) (fun e h w => zA_x rfl w)))
    refine zG_p zfe_21_54 (zki_0 _) ?_
    obtain ⟨_, _, hp, ho, w⟩ := w
    refine zR_cv (args := [_, _]) (rest := []) zfe_21_55 zlk_21_63 rfl rfl hp ho rfl (by decide) (zent_of znl_47 (by simp only [List.map_cons, List.map_nil, List.sum_cons, List.sum_nil, zo_c, zci, zcJ]; decide) (by decide)) (zCall_mono w (zA_r (fun x22 h23 w => ?_) (fun e h w => zA_x rfl w)))
    refine zR_asn zfe_21_58 znl_21 (by decide) (fun lv25 e24 => ?_)
    replace g0 := zgl_n1 e24 g0 rfl (Or.inl (zo_c _))
    replace g1 := zgl_n1 e24 g1 rfl (Or.inl (zo_c _))
    replace g2 := zgl_n1 e24 g2 rfl (Or.inl (zo_c _))
    have g3 := zgl_s1 e24
    refine zR_aln zfe_21_59 g2 ?_
    refine zR_aln zfe_21_60 g1 ?_
    refine zG_p zfe_21_61 (zki_1 _) ?_
    obtain ⟨_, _, hp, ho, w⟩ := w
    refine zR_cv (args := [_]) (rest := [_]) zfe_21_62 zlk_21_58 rfl rfl hp ho rfl (by simp only [List.map_cons, List.map_nil, List.sum_cons, List.sum_nil, zo_c, zci, zcJ]; decide) (zent_of znl_46 (by simp only [List.map_cons, List.map_nil, List.sum_cons, List.sum_nil, zo_c, zci, zcJ]; decide) (by decide)) (zCall_mono w (zA_r (fun x26 h27 w => ?_) (fun e h w => zA_x rfl w)))
    refine zG_p zfe_21_65 (zki_0 _) ?_
    obtain ⟨_, _, hp, ho, w⟩ := w
    refine zR_cv (args := [_, _]) (rest := []) zfe_21_66 zlk_21_63 rfl rfl hp ho rfl (by decide) (zent_of znl_47 (by simp only [List.map_cons, List.map_nil, List.sum_cons, List.sum_nil, zo_c, zci, zcJ]; decide) (by decide)) (zCall_mono w (zA_r (fun x28 h29 w => ?_) (fun e h w => zA_x rfl w)))
    refine zR_as zfe_21_69 znl_21 (by decide) (fun lv31 e30 => ?_)
    replace g0 := zgl_n1 e30 g0 rfl (Or.inl (zo_c _))
    replace g1 := zgl_n1 e30 g1 rfl (Or.inl (zo_c _))
    replace g2 := zgl_n1 e30 g2 rfl (Or.inl (zo_c _))
    replace g3 := zgl_n1 e30 g3 rfl (Or.inl (zo_c _))
    have g4 := zgl_s1 e30
    refine zR_aln zfe_21_71 g2 ?_
    refine zR_aln zfe_21_72 g1 ?_
    refine zG_p zfe_21_73 (zki_2 _) ?_
    obtain ⟨_, _, hp, ho, w⟩ := w
    refine zR_cv (args := [_]) (rest := [_]) zfe_21_74 zlk_21_58 rfl rfl hp ho rfl (by simp only [List.map_cons, List.map_nil, List.sum_cons, List.sum_nil, zo_c, zci, zcJ]; decide) (zent_of znl_46 (by simp only [List.map_cons, List.map_nil, List.sum_cons, List.sum_nil, zo_c, zci, zcJ]; decide) (by decide)) (zCall_mono w (zA_r (fun x32 h33 w => ?_) (fun e h w => zA_x rfl w)))
    refine zG_p zfe_21_77 (zki_1 _) ?_
    obtain ⟨_, _, hp, ho, w⟩ := w
    refine zR_cv (args := [_, _]) (rest := []) zfe_21_78 zlk_21_63 rfl rfl hp ho rfl (by decide) (zent_of znl_47 (by simp only [List.map_cons, List.map_nil, List.sum_cons, List.sum_nil, zo_c, zci, zcJ]; decide) (by decide)) (zCall_mono w (zA_r (fun x34 h35 w => ?_) (fun e h w => zA_x rfl w)))
    refine zR_as zfe_21_81 znl_21 (by decide) (fun lv37 e36 => ?_)
    replace g0 := zgl_n1 e36 g0 rfl (Or.inl (zo_c _))
    replace g1 := zgl_n1 e36 g1 rfl (Or.inl (zo_c _))
    replace g2 := zgl_n1 e36 g2 rfl (Or.inl (zo_c _))
    replace g3 := zgl_n1 e36 g3 rfl (Or.inl (zo_c _))
    replace g4 := zgl_n1 e36 g4 rfl (Or.inl (zo_c _))
    have g5 := zgl_s1 e36
    refine zR_aln zfe_21_83 g1 ?_
    refine zG_p zfe_21_84 (zki_3 _) ?_
    obtain ⟨_, _, hp, ho, w⟩ := w
    refine zR_cv (args := [_]) (rest := []) zfe_21_85 zlk_21_58 rfl rfl hp ho rfl (by decide) (zent_of znl_46 (by simp only [List.map_cons, List.map_nil, List.sum_cons, List.sum_nil, zo_c, zci, zcJ]; decide) (by decide)) (zCall_mono w (zA_r (fun x38 h39 w => ?_) (fun e h w => zA_x rfl w)))
    refine zR_as zfe_21_88 znl_21 (by decide) (fun lv41 e40 => ?_)
    replace g0 := zgl_n1 e40 g0 rfl (Or.inl (zo_c _))
    replace g1 := zgl_n1 e40 g1 rfl (Or.inl (zo_c _))
    replace g2 := zgl_n1 e40 g2 rfl (Or.inl (zo_c _))
    replace g3 := zgl_n1 e40 g3 rfl (Or.inl (zo_c _))
    replace g4 := zgl_n1 e40 g4 rfl (Or.inl (zo_c _))
    replace g5 := zgl_n1 e40 g5 rfl (Or.inl (zo_c _))
    have g6 := zgl_s1 e40
    refine zR_aln zfe_21_90 g1 ?_
    refine zG_p zfe_21_91 (zki_4 _) ?_
    obtain ⟨_, _, hp, ho, w⟩ := w
    refine zR_cv (args := [_]) (rest := []) zfe_21_92 zlk_21_58 rfl rfl hp ho rfl (by decide) (zent_of znl_46 (by simp only [List.map_cons, List.map_nil, List.sum_cons, List.sum_nil, zo_c, zci, zcJ]; decide) (by decide)) (zCall_mono w (zA_r (fun x42 h43 w => ?_) (fun e h w => zA_x rfl w)))
    refine zR_as zfe_21_95 znl_21 (by decide) (fun lv45 e44 => ?_)
    replace g0 := zgl_n1 e44 g0 rfl (Or.inl (zo_c _))
    replace g2 := zgl_n1 e44 g2 rfl (Or.inl (zo_c _))
    replace g3 := zgl_n1 e44 g3 rfl (Or.inl (zo_c _))
    replace g4 := zgl_n1 e44 g4 rfl (Or.inl (zo_c _))
    replace g5 := zgl_n1 e44 g5 rfl (Or.inl (zo_c _))
    replace g6 := zgl_n1 e44 g6 rfl (Or.inl (zo_c _))
    have g7 := zgl_s1 e44
    refine zR_al zfe_21_97 g6 ?_
    obtain ⟨_, _, hp, ho, w⟩ := w
    refine zR_cv (args := []) (rest := []) zfe_21_99 zlk_21_67 rfl rfl hp ho rfl (by decide) (zent_of znl_51 (by simp only [List.map_cons, List.map_nil, List.sum_cons, List.sum_nil, zo_c, zci, zcJ]; decide) (by decide)) (zCall_mono w (zA_i (fun x46 h47 w => ?_) (fun e h w => zA_x rfl w)))
    obtain ⟨hn, w⟩ := w
    refine zR_an zfe_21_102 zlk_21_100071 hn rfl rfl ?_
    refine zR_as zfe_21_105 znl_21 (by decide) (fun lv51 e50 => ?_)
    replace g0 := zgl_n1 e50 g0 rfl (Or.inl (zo_c _))
    replace g2 := zgl_n1 e50 g2 rfl (Or.inl (zo_c _))
    replace g3 := zgl_n1 e50 g3 rfl (Or.inl (zo_c _))
    replace g4 := zgl_n1 e50 g4 rfl (Or.inl (zo_c _))
    replace g5 := zgl_n1 e50 g5 rfl (Or.inl (zo_c _))
    replace g6 := zgl_n1 e50 g6 rfl (Or.inl (zo_c _))
    replace g7 := zgl_n1 e50 g7 rfl (Or.inl (zo_c _))
    have g8 := zgl_s1 e50
    refine zR_aln zfe_21_107 g2 ?_
    refine zR_al zfe_21_108 g6 ?_
    refine zR_al zfe_21_110 g8 ?_
    refine zR_aln zfe_21_112 g3 ?_
    refine zR_al zfe_21_113 g5 ?_
    refine zR_cs (args := [_, _]) (rest := [_, _, _]) zfe_21_115 zlk_21_73 (by decide) rfl rfl (by simp only [List.map_cons, List.map_nil, List.sum_cons, List.sum_nil, zo_c, zci, zcJ]; decide) (zent_of znl_52 (by simp only [List.map_cons, List.map_nil, List.sum_cons, List.sum_nil, zo_c, zci, zcJ]; decide) (by decide)) (zCall_mono w (zA_r (fun x52 h53 w => ?_) (fun e h w => zA_x rfl w)))
    refine zR_cs (args := [_]) (rest := [_, _, _]) zfe_21_118 zlk_21_79 (by decide) rfl rfl (by simp only [List.map_cons, List.map_nil, List.sum_cons, List.sum_nil, zo_c, zci, zcJ]; decide) (zent_of znl_53 (by simp only [List.map_cons, List.map_nil, List.sum_cons, List.sum_nil, zo_c, zci, zcJ]; decide) (by decide)) (zCall_mono w (zA_r (fun x54 h55 w => ?_) (fun e h w => zA_x rfl w)))
    refine zG_p zfe_21_121 (zki_0 _) ?_
    obtain ⟨_, _, hp, ho, w⟩ := w
    refine zR_cv (args := [_, _, _, _]) (rest := []) zfe_21_122 zlk_21_85 rfl rfl hp ho rfl (by decide) (zent_of znl_56 (by simp only [List.map_cons, List.map_nil, List.sum_cons, List.sum_nil, zo_c, zci, zcJ]; decide) (by decide)) (zCall_mono w (zA_r (fun x56 h57 w => ?_) (fun e h w => zA_x rfl w)))
    refine zR_as zfe_21_125 znl_21 (by decide) (fun lv59 e58 => ?_)
    replace g0 := zgl_n1 e58 g0 rfl (Or.inl (zo_c _))
    replace g2 := zgl_n1 e58 g2 rfl (Or.inl (zo_c _))
    replace g3 := zgl_n1 e58 g3 rfl (Or.inl (zo_c _))
    replace g4 := zgl_n1 e58 g4 rfl (Or.inl (zo_c _))
    replace g5 := zgl_n1 e58 g5 rfl (Or.inl (zo_c _))
    replace g6 := zgl_n1 e58 g6 rfl (Or.inl (zo_c _))
    replace g7 := zgl_n1 e58 g7 rfl (Or.inl (zo_c _))
    replace g8 := zgl_n1 e58 g8 rfl (Or.inl (zo_c _))
    have g9 := zgl_s1 e58
    refine zR_aln zfe_21_127 g2 ?_
    refine zR_al zfe_21_128 g9 ?_
    obtain ⟨_, _, hp, ho, w⟩ := w
    refine zR_cv (args := []) (rest := [_]) zfe_21_130 zlk_21_89 rfl rfl hp ho rfl (by simp only [List.map_cons, List.map_nil, List.sum_cons, List.sum_nil, zo_c, zci, zcJ]; decide) (zent_of znl_57 (by simp only [List.map_cons, List.map_nil, List.sum_cons, List.sum_nil, zo_c, zci, zcJ]; decide) (by decide)) (zCall_mono w (zA_i (fun x60 h61 w => ?_) (fun e h w => zA_x rfl w)))
    refine zG_if 154 zfe_21_133 rfl (fun q => ?_) (fun q => ?_)
    · have w := w.2 q
      exact zs_21_154 g0 g2 g3 g5 g6 g7 g8 w
    · have w := w.1 (Decidable.not_not.mp q)
      refine zR_al zfe_21_136 g9 ?_
      refine zR_al zfe_21_138 g4 ?_
      refine zR_al zfe_21_140 g5 ?_
      refine zR_cs (args := [_, _]) (rest := [_, _]) zfe_21_142 zlk_21_73 (by decide) rfl rfl (by simp only [List.map_cons, List.map_nil, List.sum_cons, List.sum_nil, zo_c, zci, zcJ]; decide) (zent_of znl_52 (by simp only [List.map_cons, List.map_nil, List.sum_cons, List.sum_nil, zo_c, zci, zcJ]; decide) (by decide)) (zCall_mono w (zA_r (fun x62 h63 w => ?_) (fun e h w => zA_x rfl w)))
      refine zR_cs (args := [_]) (rest := [_, _]) zfe_21_145 zlk_21_79 (by decide) rfl rfl (by simp only [List.map_cons, List.map_nil, List.sum_cons, List.sum_nil, zo_c, zci, zcJ]; decide) (zent_of znl_53 (by simp only [List.map_cons, List.map_nil, List.sum_cons, List.sum_nil, zo_c, zci, zcJ]; decide) (by decide)) (zCall_mono w (zA_r (fun x64 h65 w => ?_) (fun e h w => zA_x rfl w)))
      refine zR_cs (args := [_, _]) (rest := [_]) zfe_21_148 zlk_21_93 (by decide) rfl rfl (by simp only [List.map_cons, List.map_nil, List.sum_cons, List.sum_nil, zo_c, zci, zcJ]; decide) (zent_of znl_72 (by simp only [List.map_cons, List.map_nil, List.sum_cons, List.sum_nil, zo_c, zci, zcJ]; decide) (by decide)) (zCall_mono w (zA_i (fun x66 h67 w => ?_) (fun e h w => zA_x rfl w)))
      refine zG_if 158 zfe_21_151 rfl (fun q => ?_) (fun q => ?_)
      · have w := w.1 q
        refine zG_p zfe_21_158 (zki_0 _) ?_
        exact zs_21_159 g0 g2 g3 g5 g6 g7 g8 w
      · have w := w.2 q
        exact zs_21_154 g0 g2 g3 g5 g6 g7 g8 w
  · have w := w.2 q
    refine zR_aln zfe_21_12 g0 ?_
    obtain ⟨_, _, x68, hp, ho, hv, w⟩ := w
    refine zR_gf zfe_21_13 zlk_21_10 (by decide) hp ho hv ?_
    obtain ⟨_, _, hp, ho, w⟩ := w
    refine zR_cv (args := []) (rest := []) zfe_21_16 zlk_21_46 rfl rfl hp ho rfl (by decide) (zent_of znl_22 (by simp only [List.map_cons, List.map_nil, List.sum_cons, List.sum_nil, zo_c, zci, zcJ]; decide) (by decide)) (zCall_mono w (zA_v (fun h71 w => ?_) (fun e h w => zA_x rfl w)))
    exact zR_thr zfe_21_19 zlk_21_39 zfe_21_22 zfe_21_23 zfe_21_26 rfl w.1 (by decide) w.2
theorem zm_21 {xs : List Value} {d : Nat} {Q : zO → zH → Prop} {l0 : zP} {h : zH} (w : zw_21_0 xs d Q  l0 h) : zG xs d (21, 0, lv_args 0 [zo l0], []) h Q := zs_21_0  (by cases l0 <;> rfl) w
-- 22: PactLedger$Buffer.clear()V
def zw_22_0 (xs : List Value) (d : Nat) (Q : zO → zH → Prop) (l0 : zP) (h : zH) : Prop := zPF l0 1 2 (Value.int (0 : Int32)) h fun h1 => Q (.inl none) h1
theorem zs_22_0 {xs : List Value} {d : Nat} {Q : zO → zH → Prop} {l0 : zP} {h : zH} {lv : List (Nat × Value)} (g0 : zgetl lv 0 = some (zo l0)) (w : zw_22_0 xs d Q l0 h) : zG xs d (22, 0, lv, []) h Q := by
  unfold zw_22_0 at w
  refine zR_aln zfe_22_0 g0 ?_
  refine zG_p zfe_22_1 (zki_0 _) ?_
  obtain ⟨_, _, hp, ho, hj, w⟩ := w
  refine zR_pf zfe_22_2 zlk_22_21 (by decide) hp ho hj (zfit_i zft_1_2) (by decide) rfl ?_
  exact zR_rv zfe_22_5 zrt_22 w
theorem zm_22 {xs : List Value} {d : Nat} {Q : zO → zH → Prop} {l0 : zP} {h : zH} (w : zw_22_0 xs d Q  l0 h) : zG xs d (22, 0, lv_args 0 [zo l0], []) h Q := zs_22_0  (by cases l0 <;> rfl) w
-- 23: PactLedger$Buffer.read(I)LPactLedger$Node;
def zw_23_65 (xs : List Value) (d : Nat) (Q : zO → zH → Prop) (l0 : zP) (l2 : zP) (s0 : Int32) (s1 : zP) (h : zH) : Prop := zGI l0 1 5 h fun x1 => zCV xs d 27 1 s1 [Value.int s0, Value.int x1] h (zKV (fun h4 => Q (.inl (some (zo l2))) h4) (fun e h => Q (.inr e) h))
theorem zs_23_65 {xs : List Value} {d : Nat} {Q : zO → zH → Prop} {l0 : zP} {l2 : zP} {s0 : Int32} {s1 : zP} {h : zH} {lv : List (Nat × Value)} (g0 : zgetl lv 0 = some (zo l0)) (g2 : zgetl lv 2 = some (zo l2)) (w : zw_23_65 xs d Q l0 l2 s0 s1 h) : zG xs d (23, 65, lv, [Value.int s0, zo s1]) h Q := by
  unfold zw_23_65 at w
  refine zR_aln zfe_23_65 g0 ?_
  obtain ⟨_, _, x1, hp, ho, hv, w⟩ := w
  refine zR_gf zfe_23_66 zlk_23_31 (by decide) hp ho hv ?_
  obtain ⟨_, _, hp, ho, w⟩ := w
  refine zR_cv (args := [_, _]) (rest := []) zfe_23_69 zlk_23_50 rfl rfl hp ho rfl (by decide) (zent_of znl_27 (by simp only [List.map_cons, List.map_nil, List.sum_cons, List.sum_nil, zo_c, zci, zcJ]; decide) (by decide)) (zCall_mono w (zA_v (fun h4 w => ?_) (fun e h w => zA_x rfl w)))
  refine zR_aln zfe_23_72 g2 ?_
  exact zR_ro zfe_23_73 zrt_23 w
def zw_23_0 (xs : List Value) (d : Nat) (Q : zO → zH → Prop) (l0 : zP) (l1 : Int32) (h : zH) : Prop := zGI l0 1 2 h fun x1 => zPF l0 1 4 (Value.int x1) h fun h3 => zPF l0 1 2 (Value.int (0 : Int32)) h3 fun h4 => zPF l0 1 3 (Value.int (-1 : Int32)) h4 fun h5 => zPF l0 1 5 (Value.int (0 : Int32)) h5 fun h6 => zPF l0 1 6 (Value.int (0 : Int32)) h6 fun h7 => zNO 4 [Value.int 0, Value.int 0, Value.int 0, Value.null, Value.null] h7 fun a8 h9 => zCV xs d 24 1 l0 [Value.int l1, Value.int (1 : Int32)] h9 (zKR (fun x10 h11 => zCall xs d 44 [] h11 (zKR (fun x12 h13 => zCN xs d 36 (some a8) [Value.int (0 : Int32), Value.int (2 : Int32), Value.int (0 : Int32), zo x10, zo x12] h13 fun h15 => zGI l0 1 5 h15 fun x18 => zGI l0 1 4 h15 fun x20 => ((x18 = x20 → zw_23_65 xs d Q l0 (some a8) (1 : Int32) l0 h15) ∧ (¬ x18 = x20 → zw_23_65 xs d Q l0 (some a8) (0 : Int32) l0 h15))) (fun e h => Q (.inr e) h))) (fun e h => Q (.inr e) h))
theorem zs_23_0 {xs : List Value} {d : Nat} {Q : zO → zH → Prop} {l0 : zP} {l1 : Int32} {h : zH} {lv : List (Nat × Value)} (g0 : zgetl lv 0 = some (zo l0)) (g1 : zgetl lv 1 = some (Value.int l1)) (w : zw_23_0 xs d Q l0 l1 h) : zG xs d (23, 0, lv, []) h Q := by
  unfold zw_23_0 at w
  refine zR_aln zfe_23_0 g0 ?_
  refine zR_aln zfe_23_1 g0 ?_
  obtain ⟨_, _, x1, hp, ho, hv, w⟩ := w
  refine zR_gf zfe_23_2 zlk_23_21 (by decide) hp ho hv ?_
  obtain ⟨_, _, hp, ho, hj, w⟩ := w
  refine zR_pf zfe_23_5 zlk_23_28 (by decide) hp ho hj (zfit_i zft_1_4) (by decide) rfl ?_
  refine zR_aln zfe_23_8 g0 ?_
  refine zG_p zfe_23_9 (zki_0 _) ?_
  obtain ⟨_, _, hp, ho, hj, w⟩ := w
  refine zR_pf zfe_23_10 zlk_23_21 (by decide) hp ho hj (zfit_i zft_1_2) (by decide) rfl ?_
  refine zR_aln zfe_23_13 g0 ?_
  refine zG_p zfe_23_14 (zki_m1 _) ?_
  obtain ⟨_, _, hp, ho, hj, w⟩ := w
  refine zR_pf zfe_23_15 zlk_23_25 (by decide) hp ho hj (zfit_i zft_1_3) (by decide) rfl ?_
  refine zR_aln zfe_23_18 g0 ?_
  refine zG_p zfe_23_19 (zki_0 _) ?_
  obtain ⟨_, _, hp, ho, hj, w⟩ := w
  refine zR_pf zfe_23_20 zlk_23_31 (by decide) hp ho hj (zfit_i zft_1_5) (by decide) rfl ?_
  refine zR_aln zfe_23_23 g0 ?_
  refine zG_p zfe_23_24 (zki_0 _) ?_
  obtain ⟨_, _, hp, ho, hj, w⟩ := w
  refine zR_pf zfe_23_25 zlk_23_34 (by decide) hp ho hj (zfit_i zft_1_6) (by decide) rfl ?_
  have w := zNO_u w
  refine zR_new zfe_23_28 zlk_23_15 rfl rfl rfl ?_
  refine zR_dup zfe_23_31 (zo_c _) ?_
  refine zG_p zfe_23_32 (zki_0 _) ?_
  refine zG_p zfe_23_33 (zki_2 _) ?_
  refine zG_p zfe_23_34 (zki_0 _) ?_
  refine zR_aln zfe_23_35 g0 ?_
  refine zR_iln zfe_23_36 g1 ?_
  refine zG_p zfe_23_37 (zki_1 _) ?_
  obtain ⟨_, _, hp, ho, w⟩ := w
  refine zR_cv (args := [_, _]) (rest := [_, _, _, _, _]) zfe_23_38 zlk_23_37 rfl rfl hp ho rfl (by simp only [List.map_cons, List.map_nil, List.sum_cons, List.sum_nil, zo_c, zci, zcJ]; decide) (zent_of znl_24 (by simp only [List.map_cons, List.map_nil, List.sum_cons, List.sum_nil, zo_c, zci, zcJ]; decide) (by decide)) (zCall_mono w (zA_r (fun x10 h11 w => ?_) (fun e h w => zA_x rfl w)))
  refine zR_cs (args := []) (rest := [_, _, _, _, _, _]) zfe_23_41 zlk_23_41 (by decide) rfl rfl (by simp only [List.map_cons, List.map_nil, List.sum_cons, List.sum_nil, zo_c, zci, zcJ]; decide) (zent_of znl_44 (by simp only [List.map_cons, List.map_nil, List.sum_cons, List.sum_nil, zo_c, zci, zcJ]; decide) (by decide)) (zCall_mono w (zA_r (fun x12 h13 w => ?_) (fun e h w => zA_x rfl w)))
  obtain ⟨_, hp, ho, w⟩ := w
  refine zR_ci zfe_23_44 zlk_23_47 (by decide) (rest := [_]) (args := [_, _, _, _, _]) rfl rfl hp ho (by simp only [List.map_cons, List.map_nil, List.sum_cons, List.sum_nil, zo_c, zci, zcJ]; decide) (zent_of znl_36 (by simp only [List.map_cons, List.map_nil, List.sum_cons, List.sum_nil, zo_c, zci, zcJ]; decide) (by decide)) w (fun h15 w => ?_)
  refine zR_asn zfe_23_47 znl_23 (by decide) (fun lv17 e16 => ?_)
  replace g0 := zgl_n1 e16 g0 rfl (Or.inl (zo_c _))
  have g2 := zgl_s1 e16
  refine zR_aln zfe_23_48 g0 ?_
  refine zR_aln zfe_23_49 g0 ?_
  obtain ⟨_, _, x18, hp, ho, hv, w⟩ := w
  refine zR_gf zfe_23_50 zlk_23_31 (by decide) hp ho hv ?_
  refine zR_aln zfe_23_53 g0 ?_
  obtain ⟨_, _, x20, hp, ho, hv, w⟩ := w
  refine zR_gf zfe_23_54 zlk_23_28 (by decide) hp ho hv ?_
  refine zG_ic 64 zfe_23_57 rfl (fun q => ?_) (fun q => ?_)
  · have w := w.2 q
    refine zG_p zfe_23_64 (zki_0 _) ?_
    exact zs_23_65 g0 g2 w
  · have w := w.1 (Decidable.not_not.mp q)
    refine zG_p zfe_23_60 (zki_1 _) ?_
    refine zG_go 65 zfe_23_61 rfl ?_
    exact zs_23_65 g0 g2 w
theorem zm_23 {xs : List Value} {d : Nat} {Q : zO → zH → Prop} {l0 : zP} {l1 : Int32} {h : zH} (w : zw_23_0 xs d Q  l0 l1 h) : zG xs d (23, 0, lv_args 0 [zo l0, Value.int l1], []) h Q := zs_23_0  (by cases l0 <;> rfl) (by cases l0 <;> rfl) w
-- 24: PactLedger$Buffer.parts(II)[LPactLedger$Node;
def zw_24_8 (xs : List Value) (d : Nat) (Q : zO → zH → Prop) (J8 : zP → Int32 → Int32 → zP → Int32 → zH → Prop) (l0 : zP) (l1 : Int32) (l2 : Int32) (l3 : zP) (l4 : Int32) (h : zH) : Prop := ((l4 < l1 → zCV xs d 25 1 l0 [Value.int l2] h (zKR (fun x1 h2 => zAS l3 l4 x1 h2 fun h3 => ∀ x6 : Int32, x6 = (l4 + (1 : Int32)) → J8 l0 l1 l2 l3 x6 h3) (fun e h => Q (.inr e) h))) ∧ (¬ l4 < l1 → Q (.inl (some (zo l3))) h))
theorem zs_24_8 {xs : List Value} {d : Nat} {Q : zO → zH → Prop} {J8 : zP → Int32 → Int32 → zP → Int32 → zH → Prop} {l0 : zP} {l1 : Int32} {l2 : Int32} {l3 : zP} {l4 : Int32} {h : zH} {lv : List (Nat × Value)} (HJ8 : ∀ (l0 : zP) (l1 : Int32) (l2 : Int32) (l3 : zP) (l4 : Int32)  (h : zH) (lv : List (Nat × Value)), zgetl lv 0 = some (zo l0) → zgetl lv 1 = some (Value.int l1) → zgetl lv 2 = some (Value.int l2) → zgetl lv 3 = some (zo l3) → zgetl lv 4 = some (Value.int l4) → J8 l0 l1 l2 l3 l4 h → zG xs d (24, 8, lv, []) h Q) (g0 : zgetl lv 0 = some (zo l0)) (g1 : zgetl lv 1 = some (Value.int l1)) (g2 : zgetl lv 2 = some (Value.int l2)) (g3 : zgetl lv 3 = some (zo l3)) (g4 : zgetl lv 4 = some (Value.int l4)) (w : zw_24_8 xs d Q J8 l0 l1 l2 l3 l4 h) : zG xs d (24, 8, lv, []) h Q := by
  unfold zw_24_8 at w
  refine zR_il zfe_24_8 g4 ?_
  refine zR_iln zfe_24_10 g1 ?_
  refine zG_ic 29 zfe_24_11 rfl (fun q => ?_) (fun q => ?_)
  · have w := w.2 (Int32.not_lt.mpr q)
    refine zR_aln zfe_24_29 g3 ?_
    exact zR_ra zfe_24_30 zrt_24 w
  · have w := w.1 (Int32.not_le.mp q)
    refine zR_aln zfe_24_14 g3 ?_
    refine zR_il zfe_24_15 g4 ?_
    refine zR_aln zfe_24_17 g0 ?_
    refine zR_iln zfe_24_18 g2 ?_
    obtain ⟨_, _, hp, ho, w⟩ := w
    refine zR_cv (args := [_]) (rest := [_, _]) zfe_24_19 zlk_24_64 rfl rfl hp ho rfl (by simp only [List.map_cons, List.map_nil, List.sum_cons, List.sum_nil, zo_c, zci, zcJ]; decide) (zent_of znl_25 (by simp only [List.map_cons, List.map_nil, List.sum_cons, List.sum_nil, zo_c, zci, zcJ]; decide) (by decide)) (zCall_mono w (zA_r (fun x1 h2 w => ?_) (fun e h w => zA_x rfl w)))
    obtain ⟨_, _, _, hp, ho, ht, hj, hv, hq, w⟩ := w
    refine zR_aas zfe_24_22 hp ho ht hj hv hq rfl ?_
    refine zR_inc zfe_24_23 znl_24 (by decide) zkn1 g4 (fun lv5 e4 => ?_)
    replace g0 := zgl_n1 e4 g0 rfl (Or.inl (zo_c _))
    replace g1 := zgl_n1 e4 g1 rfl (Or.inl rfl)
    replace g2 := zgl_n1 e4 g2 rfl (Or.inl rfl)
    replace g3 := zgl_n1 e4 g3 rfl (Or.inl (zo_c _))
    have g4 := zgl_s1 e4
    have w := w _ rfl
    refine zG_go 8 zfe_24_26 rfl ?_
    exact HJ8 _ _ _ _ _ _ _ g0 g1 g2 g3 g4 w
def zw_24_0 (xs : List Value) (d : Nat) (Q : zO → zH → Prop) (J8 : zP → Int32 → Int32 → zP → Int32 → zH → Prop) (l0 : zP) (l1 : Int32) (l2 : Int32) (h : zH) : Prop := zNA 6 Value.null l1 h fun a1 h2 => J8 l0 l1 l2 (some a1) (0 : Int32) h2
theorem zs_24_0 {xs : List Value} {d : Nat} {Q : zO → zH → Prop} {J8 : zP → Int32 → Int32 → zP → Int32 → zH → Prop} {l0 : zP} {l1 : Int32} {l2 : Int32} {h : zH} {lv : List (Nat × Value)} (HJ8 : ∀ (l0 : zP) (l1 : Int32) (l2 : Int32) (l3 : zP) (l4 : Int32)  (h : zH) (lv : List (Nat × Value)), zgetl lv 0 = some (zo l0) → zgetl lv 1 = some (Value.int l1) → zgetl lv 2 = some (Value.int l2) → zgetl lv 3 = some (zo l3) → zgetl lv 4 = some (Value.int l4) → J8 l0 l1 l2 l3 l4 h → zG xs d (24, 8, lv, []) h Q) (g0 : zgetl lv 0 = some (zo l0)) (g1 : zgetl lv 1 = some (Value.int l1)) (g2 : zgetl lv 2 = some (Value.int l2)) (w : zw_24_0 xs d Q J8 l0 l1 l2 h) : zG xs d (24, 0, lv, []) h Q := by
  unfold zw_24_0 at w
  refine zR_iln zfe_24_0 g1 ?_
  obtain ⟨hn, w⟩ := w
  refine zR_an zfe_24_1 zlk_24_100015 hn rfl rfl ?_
  refine zR_asn zfe_24_4 znl_24 (by decide) (fun lv4 e3 => ?_)
  replace g0 := zgl_n1 e3 g0 rfl (Or.inl (zo_c _))
  replace g1 := zgl_n1 e3 g1 rfl (Or.inl rfl)
  replace g2 := zgl_n1 e3 g2 rfl (Or.inl rfl)
  have g3 := zgl_s1 e3
  refine zG_p zfe_24_5 (zki_0 _) ?_
  refine zR_is zfe_24_6 znl_24 (by decide) (fun lv6 e5 => ?_)
  replace g0 := zgl_n1 e5 g0 rfl (Or.inl (zo_c _))
  replace g1 := zgl_n1 e5 g1 rfl (Or.inl rfl)
  replace g2 := zgl_n1 e5 g2 rfl (Or.inl rfl)
  replace g3 := zgl_n1 e5 g3 rfl (Or.inl (zo_c _))
  have g4 := zgl_s1 e5
  exact HJ8 _ _ _ _ _ _ _ g0 g1 g2 g3 g4 w
theorem zl_24 {xs : List Value} {d : Nat} {Q : zO → zH → Prop} (I8 : Nat → zP → Int32 → Int32 → zP → Int32 → zH → Prop) (k8 : ∀ (n : Nat) (l0 : zP) (l1 : Int32) (l2 : Int32) (l3 : zP) (l4 : Int32) (h : zH), I8 n l0 l1 l2 l3 l4 h → zw_24_8 xs d Q (fun l0 l1 l2 l3 l4 h => ∃ n1, n1 < n ∧ I8 n1 l0 l1 l2 l3 l4 h) l0 l1 l2 l3 l4 h) : ∀ n : Nat, (∀ (l0 : zP) (l1 : Int32) (l2 : Int32) (l3 : zP) (l4 : Int32) (h : zH) (lv : List (Nat × Value)), zgetl lv 0 = some (zo l0) → zgetl lv 1 = some (Value.int l1) → zgetl lv 2 = some (Value.int l2) → zgetl lv 3 = some (zo l3) → zgetl lv 4 = some (Value.int l4) → I8 n l0 l1 l2 l3 l4 h → zG xs d (24, 8, lv, []) h Q) := by
  intro n
  induction n using Nat.strongRecOn with
  | ind n ih =>
    exact fun l0 l1 l2 l3 l4 h lv g0 g1 g2 g3 g4 w => zs_24_8 (fun _ _ _ _ _ _ _ g0 g1 g2 g3 g4 w => by obtain ⟨n1, hn, w⟩ := w; exact (ih n1 hn) _ _ _ _ _ _ _ g0 g1 g2 g3 g4 w) g0 g1 g2 g3 g4 (k8 n l0 l1 l2 l3 l4 h w)
theorem zm_24 {xs : List Value} {d : Nat} {Q : zO → zH → Prop} {l0 : zP} {l1 : Int32} {l2 : Int32} {h : zH} (I8 : Nat → zP → Int32 → Int32 → zP → Int32 → zH → Prop) (k8 : ∀ (n : Nat) (l0 : zP) (l1 : Int32) (l2 : Int32) (l3 : zP) (l4 : Int32) (h : zH), I8 n l0 l1 l2 l3 l4 h → zw_24_8 xs d Q (fun l0 l1 l2 l3 l4 h => ∃ n1, n1 < n ∧ I8 n1 l0 l1 l2 l3 l4 h) l0 l1 l2 l3 l4 h) (w : zw_24_0 xs d Q (fun l0 l1 l2 l3 l4 h => ∃ n1, I8 n1 l0 l1 l2 l3 l4 h) l0 l1 l2 h) : zG xs d (24, 0, lv_args 0 [zo l0, Value.int l1, Value.int l2], []) h Q := zs_24_0 (fun _ _ _ _ _ _ _ g0 g1 g2 g3 g4 w => by obtain ⟨n1, w⟩ := w; exact (zl_24 I8 k8 n1) _ _ _ _ _ _ _ g0 g1 g2 g3 g4 w) (by cases l0 <;> rfl) (by cases l0 <;> rfl) (by cases l0 <;> rfl) w
-- 25: PactLedger$Buffer.node(I)LPactLedger$Node;
def zw_25_185 (xs : List Value) (d : Nat) (Q : zO → zH → Prop) (l2 : Int32) (l4 : Int32) (s0 : zP) (h : zH) : Prop := zNO 4 [Value.int 0, Value.int 0, Value.int 0, Value.null, Value.null] h fun a3 h4 => zCall xs d 42 [Value.int l4, zo s0] h4 (zKR (fun x5 h6 => zCN xs d 36 (some a3) [Value.int l2, Value.int (4 : Int32), Value.int l4, zo s0, zo x5] h6 fun h8 => Q (.inl (some (zo (some a3)))) h8) (fun e h => Q (.inr e) h))
theorem zs_25_185 {xs : List Value} {d : Nat} {Q : zO → zH → Prop} {l2 : Int32} {l4 : Int32} {s0 : zP} {h : zH} {lv : List (Nat × Value)} (g2 : zgetl lv 2 = some (Value.int l2)) (g4 : zgetl lv 4 = some (Value.int l4)) (w : zw_25_185 xs d Q l2 l4 s0 h) : zG xs d (25, 185, lv, [zo s0]) h Q := by
  unfold zw_25_185 at w
  refine zR_as zfe_25_185 znl_25 (by decide) (fun lv2 e1 => ?_)
  replace g2 := zgl_n1 e1 g2 rfl (Or.inl rfl)
  replace g4 := zgl_n1 e1 g4 rfl (Or.inl rfl)
  have g5 := zgl_s1 e1
  have w := zNO_u w
  refine zR_new zfe_25_187 zlk_25_15 rfl rfl rfl ?_
  refine zR_dup zfe_25_190 (zo_c _) ?_
  refine zR_iln zfe_25_191 g2 ?_
  refine zG_p zfe_25_192 (zki_4 _) ?_
  refine zR_il zfe_25_193 g4 ?_
  refine zR_al zfe_25_195 g5 ?_
  refine zR_il zfe_25_197 g4 ?_
  refine zR_al zfe_25_199 g5 ?_
  refine zR_cs (args := [_, _]) (rest := [_, _, _, _, _, _]) zfe_25_201 zlk_25_87 (by decide) rfl rfl (by simp only [List.map_cons, List.map_nil, List.sum_cons, List.sum_nil, zo_c, zci, zcJ]; decide) (zent_of znl_42 (by simp only [List.map_cons, List.map_nil, List.sum_cons, List.sum_nil, zo_c, zci, zcJ]; decide) (by decide)) (zCall_mono w (zA_r (fun x5 h6 w => ?_) (fun e h w => zA_x rfl w)))
  obtain ⟨_, hp, ho, w⟩ := w
  refine zR_ci zfe_25_204 zlk_25_47 (by decide) (rest := [_]) (args := [_, _, _, _, _]) rfl rfl hp ho (by simp only [List.map_cons, List.map_nil, List.sum_cons, List.sum_nil, zo_c, zci, zcJ]; decide) (zent_of znl_36 (by simp only [List.map_cons, List.map_nil, List.sum_cons, List.sum_nil, zo_c, zci, zcJ]; decide) (by decide)) w (fun h8 w => ?_)
  exact zR_ro zfe_25_207 zrt_25 w
def zw_25_153 (xs : List Value) (d : Nat) (Q : zO → zH → Prop) (l0 : zP) (l1 : Int32) (l2 : Int32) (l3 : Int32) (s0 : Int32) (s1 : zP) (h : zH) : Prop := zCV xs d 27 1 s1 [Value.int s0, Value.int l2] h (zKV (fun h2 => zCV xs d 26 1 l0 [] h2 (zKI (fun x3 h4 => ((l3 = (4 : Int32) → zGR l0 1 1 h4 fun x9 => zw_25_185 xs d Q l2 x3 x9 h4) ∧ (¬ l3 = (4 : Int32) → zCV xs d 24 1 l0 [Value.int (l3 - (4 : Int32)), Value.int (l1 + (1 : Int32))] h4 (zKR (fun x7 h8 => zw_25_185 xs d Q l2 x3 x7 h8) (fun e h => Q (.inr e) h))))) (fun e h => Q (.inr e) h))) (fun e h => Q (.inr e) h))
theorem zs_25_153 {xs : List Value} {d : Nat} {Q : zO → zH → Prop} {l0 : zP} {l1 : Int32} {l2 : Int32} {l3 : Int32} {s0 : Int32} {s1 : zP} {h : zH} {lv : List (Nat × Value)} (g0 : zgetl lv 0 = some (zo l0)) (g1 : zgetl lv 1 = some (Value.int l1)) (g2 : zgetl lv 2 = some (Value.int l2)) (g3 : zgetl lv 3 = some (Value.int l3)) (w : zw_25_153 xs d Q l0 l1 l2 l3 s0 s1 h) : zG xs d (25, 153, lv, [Value.int s0, zo s1]) h Q := by
  unfold zw_25_153 at w
  refine zR_iln zfe_25_153 g2 ?_
  obtain ⟨_, _, hp, ho, w⟩ := w
  refine zR_cv (args := [_, _]) (rest := []) zfe_25_154 zlk_25_50 rfl rfl hp ho rfl (by decide) (zent_of znl_27 (by simp only [List.map_cons, List.map_nil, List.sum_cons, List.sum_nil, zo_c, zci, zcJ]; decide) (by decide)) (zCall_mono w (zA_v (fun h2 w => ?_) (fun e h w => zA_x rfl w)))
  refine zR_aln zfe_25_157 g0 ?_
  obtain ⟨_, _, hp, ho, w⟩ := w
  refine zR_cv (args := []) (rest := []) zfe_25_158 zlk_25_68 rfl rfl hp ho rfl (by decide) (zent_of znl_26 (by simp only [List.map_cons, List.map_nil, List.sum_cons, List.sum_nil, zo_c, zci, zcJ]; decide) (by decide)) (zCall_mono w (zA_i (fun x3 h4 w => ?_) (fun e h w => zA_x rfl w)))
  refine zR_is zfe_25_161 znl_25 (by decide) (fun lv6 e5 => ?_)
  replace g0 := zgl_n1 e5 g0 rfl (Or.inl (zo_c _))
  replace g1 := zgl_n1 e5 g1 rfl (Or.inl rfl)
  replace g2 := zgl_n1 e5 g2 rfl (Or.inl rfl)
  replace g3 := zgl_n1 e5 g3 rfl (Or.inl rfl)
  have g4 := zgl_s1 e5
  refine zR_iln zfe_25_163 g3 ?_
  refine zG_p zfe_25_164 (zki_4 _) ?_
  refine zG_ic 175 zfe_25_165 rfl (fun q => ?_) (fun q => ?_)
  · have w := w.2 q
    refine zR_aln zfe_25_175 g0 ?_
    refine zR_iln zfe_25_176 g3 ?_
    refine zG_p zfe_25_177 (zki_4 _) ?_
    refine zG_p zfe_25_178 rfl ?_
    refine zR_iln zfe_25_179 g1 ?_
    refine zG_p zfe_25_180 (zki_1 _) ?_
    refine zG_p zfe_25_181 rfl ?_
    obtain ⟨_, _, hp, ho, w⟩ := w
    refine zR_cv (args := [_, _]) (rest := []) zfe_25_182 zlk_25_37 rfl rfl hp ho rfl (by decide) (zent_of znl_24 (by simp only [List.map_cons, List.map_nil, List.sum_cons, List.sum_nil, zo_c, zci, zcJ]; decide) (by decide)) (zCall_mono w (zA_r (fun x7 h8 w => ?_) (fun e h w => zA_x rfl w)))
    exact zs_25_185 g2 g4 w
  · have w := w.1 (Decidable.not_not.mp q)
    refine zR_aln zfe_25_168 g0 ?_
    obtain ⟨_, _, x9, hp, ho, hv, w⟩ := w
    refine zR_gf zfe_25_169 zlk_25_17 (by decide) hp ho hv ?_
    refine zG_go 185 zfe_25_172 rfl ?_
    exact zs_25_185 g2 g4 w
def zw_25_152 (xs : List Value) (d : Nat) (Q : zO → zH → Prop) (l0 : zP) (l1 : Int32) (l2 : Int32) (l3 : Int32) (s0 : zP) (h : zH) : Prop := zw_25_153 xs d Q l0 l1 l2 l3 (0 : Int32) s0 h
theorem zs_25_152 {xs : List Value} {d : Nat} {Q : zO → zH → Prop} {l0 : zP} {l1 : Int32} {l2 : Int32} {l3 : Int32} {s0 : zP} {h : zH} {lv : List (Nat × Value)} (g0 : zgetl lv 0 = some (zo l0)) (g1 : zgetl lv 1 = some (Value.int l1)) (g2 : zgetl lv 2 = some (Value.int l2)) (g3 : zgetl lv 3 = some (Value.int l3)) (w : zw_25_152 xs d Q l0 l1 l2 l3 s0 h) : zG xs d (25, 152, lv, [zo s0]) h Q := by
  unfold zw_25_152 at w
  refine zG_p zfe_25_152 (zki_0 _) ?_
  exact zs_25_153 g0 g1 g2 g3 w
def zw_25_31 (xs : List Value) (d : Nat) (Q : zO → zH → Prop) (l0 : zP) (l1 : Int32) (l2 : Int32) (l3 : Int32) (s0 : Int32) (s1 : zP) (h : zH) : Prop := zCV xs d 27 1 s1 [Value.int s0, Value.int l2] h (zKV (fun h2 => zGI l0 1 6 h2 fun x3 => zPF l0 1 6 (Value.int (x3 + (1 : Int32))) h2 fun h5 => ((l3 = 0 → zNO 4 [Value.int 0, Value.int 0, Value.int 0, Value.null, Value.null] h5 fun a28 h29 => zGR l0 1 1 h29 fun x30 => zCV xs d 28 1 l0 [] h29 (zKR (fun x32 h33 => zCN xs d 36 (some a28) [Value.int l2, Value.int l3, Value.int (0 : Int32), zo x30, zo x32] h33 fun h35 => Q (.inl (some (zo (some a28)))) h35) (fun e h => Q (.inr e) h))) ∧ (¬ l3 = 0 → ((l3 = (1 : Int32) → zNO 4 [Value.int 0, Value.int 0, Value.int 0, Value.null, Value.null] h5 fun a18 h19 => zGR l0 1 1 h19 fun x20 => zCV xs d 37 1 l0 [Value.int (8 : Int32)] h19 (zKI (fun x22 h23 => zCV xs d 38 1 l0 [Value.int x22] h23 (zKR (fun x24 h25 => zCN xs d 36 (some a18) [Value.int l2, Value.int l3, Value.int (0 : Int32), zo x20, zo x24] h25 fun h27 => Q (.inl (some (zo (some a18)))) h27) (fun e h => Q (.inr e) h))) (fun e h => Q (.inr e) h))) ∧ (¬ l3 = (1 : Int32) → ((l3 = (2 : Int32) → zCV xs d 37 1 l0 [Value.int (40 : Int32)] h5 (zKI (fun x6 h7 => zCV xs d 24 1 l0 [Value.int x6, Value.int (l1 + (1 : Int32))] h7 (zKR (fun x8 h9 => zNO 4 [Value.int 0, Value.int 0, Value.int 0, Value.null, Value.null] h9 fun a12 h13 => zCall xs d 40 [zo x8] h13 (zKR (fun x14 h15 => zCN xs d 36 (some a12) [Value.int l2, Value.int l3, Value.int (0 : Int32), zo x8, zo x14] h15 fun h17 => Q (.inl (some (zo (some a12)))) h17) (fun e h => Q (.inr e) h))) (fun e h => Q (.inr e) h))) (fun e h => Q (.inr e) h))) ∧ (¬ l3 = (2 : Int32) → ((l3 < (4 : Int32) → zw_25_152 xs d Q l0 l1 l2 l3 l0 h5) ∧ (¬ l3 < (4 : Int32) → (((7 : Int32) < l3 → zw_25_152 xs d Q l0 l1 l2 l3 l0 h5) ∧ (¬ (7 : Int32) < l3 → zw_25_153 xs d Q l0 l1 l2 l3 (1 : Int32) l0 h5))))))))))) (fun e h => Q (.inr e) h))
theorem zs_25_31 {xs : List Value} {d : Nat} {Q : zO → zH → Prop} {l0 : zP} {l1 : Int32} {l2 : Int32} {l3 : Int32} {s0 : Int32} {s1 : zP} {h : zH} {lv : List (Nat × Value)} (g0 : zgetl lv 0 = some (zo l0)) (g1 : zgetl lv 1 = some (Value.int l1)) (g2 : zgetl lv 2 = some (Value.int l2)) (g3 : zgetl lv 3 = some (Value.int l3)) (w : zw_25_31 xs d Q l0 l1 l2 l3 s0 s1 h) : zG xs d (25, 31, lv, [Value.int s0, zo s1]) h Q := by
  unfold zw_25_31 at w
  refine zR_iln zfe_25_31 g2 ?_
  obtain ⟨_, _, hp, ho, w⟩ := w
  refine zR_cv (args := [_, _]) (rest := []) zfe_25_32 zlk_25_50 rfl rfl hp ho rfl (by decide) (zent_of znl_27 (by simp only [List.map_cons, List.map_nil, List.sum_cons, List.sum_nil, zo_c, zci, zcJ]; decide) (by decide)) (zCall_mono w (zA_v (fun h2 w => ?_) (fun e h w => zA_x rfl w)))
  refine zR_aln zfe_25_35 g0 ?_
  refine zR_aln zfe_25_36 g0 ?_
  obtain ⟨_, _, x3, hp, ho, hv, w⟩ := w
  refine zR_gf zfe_25_37 zlk_25_34 (by decide) hp ho hv ?_
  refine zG_p zfe_25_40 (zki_1 _) ?_
  refine zG_p zfe_25_41 rfl ?_
  obtain ⟨_, _, hp, ho, hj, w⟩ := w
  refine zR_pf zfe_25_42 zlk_25_34 (by decide) hp ho hj (zfit_i zft_1_6) (by decide) rfl ?_
  refine zR_iln zfe_25_45 g3 ?_
  refine zG_if 68 zfe_25_46 rfl (fun q => ?_) (fun q => ?_)
  · have w := w.2 q
    refine zR_iln zfe_25_68 g3 ?_
    refine zG_p zfe_25_69 (zki_1 _) ?_
    refine zG_ic 98 zfe_25_70 rfl (fun q => ?_) (fun q => ?_)
    · have w := w.2 q
      refine zR_iln zfe_25_98 g3 ?_
      refine zG_p zfe_25_99 (zki_2 _) ?_
      refine zG_ic 136 zfe_25_100 rfl (fun q => ?_) (fun q => ?_)
      · have w := w.2 q
        refine zR_aln zfe_25_136 g0 ?_
        refine zR_iln zfe_25_137 g3 ?_
        refine zG_p zfe_25_138 (zki_4 _) ?_
        refine zG_ic 152 zfe_25_139 rfl (fun q => ?_) (fun q => ?_)
        · have w := w.1 q
          exact zs_25_152 g0 g1 g2 g3 w
        · have w := w.2 q
          refine zR_iln zfe_25_142 g3 ?_
          refine zG_p zfe_25_143 (zkb_7 _) ?_
          refine zG_ic 152 zfe_25_145 rfl (fun q => ?_) (fun q => ?_)
          · have w := w.1 q
            exact zs_25_152 g0 g1 g2 g3 w
          · have w := w.2 q
            refine zG_p zfe_25_148 (zki_1 _) ?_
            refine zG_go 153 zfe_25_149 rfl ?_
            exact zs_25_153 g0 g1 g2 g3 w
      · have w := w.1 (Decidable.not_not.mp q)
        refine zR_aln zfe_25_103 g0 ?_
        refine zR_aln zfe_25_104 g0 ?_
        refine zG_p zfe_25_105 (zkb_40 _) ?_
        obtain ⟨_, _, hp, ho, w⟩ := w
        refine zR_cv (args := [_]) (rest := [_]) zfe_25_107 zlk_25_75 rfl rfl hp ho rfl (by simp only [List.map_cons, List.map_nil, List.sum_cons, List.sum_nil, zo_c, zci, zcJ]; decide) (zent_of znl_37 (by simp only [List.map_cons, List.map_nil, List.sum_cons, List.sum_nil, zo_c, zci, zcJ]; decide) (by decide)) (zCall_mono w (zA_i (fun x6 h7 w => ?_) (fun e h w => zA_x rfl w)))
        refine zR_iln zfe_25_110 g1 ?_
        refine zG_p zfe_25_111 (zki_1 _) ?_
        refine zG_p zfe_25_112 rfl ?_
        obtain ⟨_, _, hp, ho, w⟩ := w
        refine zR_cv (args := [_, _]) (rest := []) zfe_25_113 zlk_25_37 rfl rfl hp ho rfl (by decide) (zent_of znl_24 (by simp only [List.map_cons, List.map_nil, List.sum_cons, List.sum_nil, zo_c, zci, zcJ]; decide) (by decide)) (zCall_mono w (zA_r (fun x8 h9 w => ?_) (fun e h w => zA_x rfl w)))
        refine zR_as zfe_25_116 znl_25 (by decide) (fun lv11 e10 => ?_)
        replace g2 := zgl_n1 e10 g2 rfl (Or.inl rfl)
        replace g3 := zgl_n1 e10 g3 rfl (Or.inl rfl)
        have g4 := zgl_s1 e10
        have w := zNO_u w
        refine zR_new zfe_25_118 zlk_25_15 rfl rfl rfl ?_
        refine zR_dup zfe_25_121 (zo_c _) ?_
        refine zR_iln zfe_25_122 g2 ?_
        refine zR_iln zfe_25_123 g3 ?_
        refine zG_p zfe_25_124 (zki_0 _) ?_
        refine zR_al zfe_25_125 g4 ?_
        refine zR_al zfe_25_127 g4 ?_
        refine zR_cs (args := [_]) (rest := [_, _, _, _, _, _]) zfe_25_129 zlk_25_83 (by decide) rfl rfl (by simp only [List.map_cons, List.map_nil, List.sum_cons, List.sum_nil, zo_c, zci, zcJ]; decide) (zent_of znl_40 (by simp only [List.map_cons, List.map_nil, List.sum_cons, List.sum_nil, zo_c, zci, zcJ]; decide) (by decide)) (zCall_mono w (zA_r (fun x14 h15 w => ?_) (fun e h w => zA_x rfl w)))
        obtain ⟨_, hp, ho, w⟩ := w
        refine zR_ci zfe_25_132 zlk_25_47 (by decide) (rest := [_]) (args := [_, _, _, _, _]) rfl rfl hp ho (by simp only [List.map_cons, List.map_nil, List.sum_cons, List.sum_nil, zo_c, zci, zcJ]; decide) (zent_of znl_36 (by simp only [List.map_cons, List.map_nil, List.sum_cons, List.sum_nil, zo_c, zci, zcJ]; decide) (by decide)) w (fun h17 w => ?_)
        exact zR_ro zfe_25_135 zrt_25 w
    · have w := w.1 (Decidable.not_not.mp q)
      have w := zNO_u w
      refine zR_new zfe_25_73 zlk_25_15 rfl rfl rfl ?_
      refine zR_dup zfe_25_76 (zo_c _) ?_
      refine zR_iln zfe_25_77 g2 ?_
      refine zR_iln zfe_25_78 g3 ?_
      refine zG_p zfe_25_79 (zki_0 _) ?_
      refine zR_aln zfe_25_80 g0 ?_
      obtain ⟨_, _, x20, hp, ho, hv, w⟩ := w
      refine zR_gf zfe_25_81 zlk_25_17 (by decide) hp ho hv ?_
      refine zR_aln zfe_25_84 g0 ?_
      refine zR_aln zfe_25_85 g0 ?_
      refine zG_p zfe_25_86 (zkb_8 _) ?_
      obtain ⟨_, _, hp, ho, w⟩ := w
      refine zR_cv (args := [_]) (rest := [_, _, _, _, _, _, _]) zfe_25_88 zlk_25_75 rfl rfl hp ho rfl (by simp only [List.map_cons, List.map_nil, List.sum_cons, List.sum_nil, zo_c, zci, zcJ]; decide) (zent_of znl_37 (by simp only [List.map_cons, List.map_nil, List.sum_cons, List.sum_nil, zo_c, zci, zcJ]; decide) (by decide)) (zCall_mono w (zA_i (fun x22 h23 w => ?_) (fun e h w => zA_x rfl w)))
      obtain ⟨_, _, hp, ho, w⟩ := w
      refine zR_cv (args := [_]) (rest := [_, _, _, _, _, _]) zfe_25_91 zlk_25_79 rfl rfl hp ho rfl (by simp only [List.map_cons, List.map_nil, List.sum_cons, List.sum_nil, zo_c, zci, zcJ]; decide) (zent_of znl_38 (by simp only [List.map_cons, List.map_nil, List.sum_cons, List.sum_nil, zo_c, zci, zcJ]; decide) (by decide)) (zCall_mono w (zA_r (fun x24 h25 w => ?_) (fun e h w => zA_x rfl w)))
      obtain ⟨_, hp, ho, w⟩ := w
      refine zR_ci zfe_25_94 zlk_25_47 (by decide) (rest := [_]) (args := [_, _, _, _, _]) rfl rfl hp ho (by simp only [List.map_cons, List.map_nil, List.sum_cons, List.sum_nil, zo_c, zci, zcJ]; decide) (zent_of znl_36 (by simp only [List.map_cons, List.map_nil, List.sum_cons, List.sum_nil, zo_c, zci, zcJ]; decide) (by decide)) w (fun h27 w => ?_)
      exact zR_ro zfe_25_97 zrt_25 w
  · have w := w.1 (Decidable.not_not.mp q)
    have w := zNO_u w
    refine zR_new zfe_25_49 zlk_25_15 rfl rfl rfl ?_
    refine zR_dup zfe_25_52 (zo_c _) ?_
    refine zR_iln zfe_25_53 g2 ?_
    refine zR_iln zfe_25_54 g3 ?_
    refine zG_p zfe_25_55 (zki_0 _) ?_
    refine zR_aln zfe_25_56 g0 ?_
    obtain ⟨_, _, x30, hp, ho, hv, w⟩ := w
    refine zR_gf zfe_25_57 zlk_25_17 (by decide) hp ho hv ?_
    refine zR_aln zfe_25_60 g0 ?_
    obtain ⟨_, _, hp, ho, w⟩ := w
    refine zR_cv (args := []) (rest := [_, _, _, _, _, _]) zfe_25_61 zlk_25_72 rfl rfl hp ho rfl (by simp only [List.map_cons, List.map_nil, List.sum_cons, List.sum_nil, zo_c, zci, zcJ]; decide) (zent_of znl_28 (by simp only [List.map_cons, List.map_nil, List.sum_cons, List.sum_nil, zo_c, zci, zcJ]; decide) (by decide)) (zCall_mono w (zA_r (fun x32 h33 w => ?_) (fun e h w => zA_x rfl w)))
    obtain ⟨_, hp, ho, w⟩ := w
    refine zR_ci zfe_25_64 zlk_25_47 (by decide) (rest := [_]) (args := [_, _, _, _, _]) rfl rfl hp ho (by simp only [List.map_cons, List.map_nil, List.sum_cons, List.sum_nil, zo_c, zci, zcJ]; decide) (zent_of znl_36 (by simp only [List.map_cons, List.map_nil, List.sum_cons, List.sum_nil, zo_c, zci, zcJ]; decide) (by decide)) w (fun h35 w => ?_)
    exact zR_ro zfe_25_67 zrt_25 w
def zw_25_30 (xs : List Value) (d : Nat) (Q : zO → zH → Prop) (l0 : zP) (l1 : Int32) (l2 : Int32) (l3 : Int32) (s0 : zP) (h : zH) : Prop := zw_25_31 xs d Q l0 l1 l2 l3 (0 : Int32) s0 h
theorem zs_25_30 {xs : List Value} {d : Nat} {Q : zO → zH → Prop} {l0 : zP} {l1 : Int32} {l2 : Int32} {l3 : Int32} {s0 : zP} {h : zH} {lv : List (Nat × Value)} (g0 : zgetl lv 0 = some (zo l0)) (g1 : zgetl lv 1 = some (Value.int l1)) (g2 : zgetl lv 2 = some (Value.int l2)) (g3 : zgetl lv 3 = some (Value.int l3)) (w : zw_25_30 xs d Q l0 l1 l2 l3 s0 h) : zG xs d (25, 30, lv, [zo s0]) h Q := by
  unfold zw_25_30 at w
  refine zG_p zfe_25_30 (zki_0 _) ?_
  exact zs_25_31 g0 g1 g2 g3 w
def zw_25_0 (xs : List Value) (d : Nat) (Q : zO → zH → Prop) (l0 : zP) (l1 : Int32) (h : zH) : Prop := zGI l0 1 5 h fun x1 => zCV xs d 26 1 l0 [] h (zKI (fun x5 h6 => (((9 : Int32) < l1 → zw_25_30 xs d Q l0 l1 x1 x5 l0 h6) ∧ (¬ (9 : Int32) < l1 → zGI l0 1 6 h6 fun x9 => ((x9 < (100 : Int32) → zw_25_31 xs d Q l0 l1 x1 x5 (1 : Int32) l0 h6) ∧ (¬ x9 < (100 : Int32) → zw_25_30 xs d Q l0 l1 x1 x5 l0 h6))))) (fun e h => Q (.inr e) h))
theorem zs_25_0 {xs : List Value} {d : Nat} {Q : zO → zH → Prop} {l0 : zP} {l1 : Int32} {h : zH} {lv : List (Nat × Value)} (g0 : zgetl lv 0 = some (zo l0)) (g1 : zgetl lv 1 = some (Value.int l1)) (w : zw_25_0 xs d Q l0 l1 h) : zG xs d (25, 0, lv, []) h Q := by
  unfold zw_25_0 at w
  refine zR_aln zfe_25_0 g0 ?_
  obtain ⟨_, _, x1, hp, ho, hv, w⟩ := w
  refine zR_gf zfe_25_1 zlk_25_31 (by decide) hp ho hv ?_
  refine zR_isn zfe_25_4 znl_25 (by decide) (fun lv4 e3 => ?_)
  replace g0 := zgl_n1 e3 g0 rfl (Or.inl (zo_c _))
  replace g1 := zgl_n1 e3 g1 rfl (Or.inl rfl)
  have g2 := zgl_s1 e3
  refine zR_aln zfe_25_5 g0 ?_
  obtain ⟨_, _, hp, ho, w⟩ := w
  refine zR_cv (args := []) (rest := []) zfe_25_6 zlk_25_68 rfl rfl hp ho rfl (by decide) (zent_of znl_26 (by simp only [List.map_cons, List.map_nil, List.sum_cons, List.sum_nil, zo_c, zci, zcJ]; decide) (by decide)) (zCall_mono w (zA_i (fun x5 h6 w => ?_) (fun e h w => zA_x rfl w)))
  refine zR_isn zfe_25_9 znl_25 (by decide) (fun lv8 e7 => ?_)
  replace g0 := zgl_n1 e7 g0 rfl (Or.inl (zo_c _))
  replace g1 := zgl_n1 e7 g1 rfl (Or.inl rfl)
  replace g2 := zgl_n1 e7 g2 rfl (Or.inl rfl)
  have g3 := zgl_s1 e7
  refine zR_aln zfe_25_10 g0 ?_
  refine zR_iln zfe_25_11 g1 ?_
  refine zG_p zfe_25_12 (zkb_9 _) ?_
  refine zG_ic 30 zfe_25_14 rfl (fun q => ?_) (fun q => ?_)
  · have w := w.1 q
    exact zs_25_30 g0 g1 g2 g3 w
  · have w := w.2 q
    refine zR_aln zfe_25_17 g0 ?_
    obtain ⟨_, _, x9, hp, ho, hv, w⟩ := w
    refine zR_gf zfe_25_18 zlk_25_34 (by decide) hp ho hv ?_
    refine zG_p zfe_25_21 (zkb_100 _) ?_
    refine zG_ic 30 zfe_25_23 rfl (fun q => ?_) (fun q => ?_)
    · have w := w.2 (Int32.not_lt.mpr q)
      exact zs_25_30 g0 g1 g2 g3 w
    · have w := w.1 (Int32.not_le.mp q)
      refine zG_p zfe_25_26 (zki_1 _) ?_
      refine zG_go 31 zfe_25_27 rfl ?_
      exact zs_25_31 g0 g1 g2 g3 w
theorem zm_25 {xs : List Value} {d : Nat} {Q : zO → zH → Prop} {l0 : zP} {l1 : Int32} {h : zH} (w : zw_25_0 xs d Q  l0 l1 h) : zG xs d (25, 0, lv_args 0 [zo l0, Value.int l1], []) h Q := zs_25_0  (by cases l0 <;> rfl) (by cases l0 <;> rfl) w
-- 26: PactLedger$Buffer.next()I
def zw_26_29 (xs : List Value) (d : Nat) (Q : zO → zH → Prop) (l0 : zP) (s0 : Int32) (s1 : zP) (h : zH) : Prop := zGI l0 1 4 h fun x1 => zCV xs d 27 1 s1 [Value.int s0, Value.int x1] h (zKV (fun h4 => zGR l0 1 0 h4 fun x5 => zGI l0 1 5 h4 fun x7 => zBA x5 x7 h4 fun x9 => ∀ x12 : Int32, x12 = (x9 &&& (255 : Int32)) → zGI l0 1 5 h4 fun x13 => zPF l0 1 5 (Value.int (x13 + (1 : Int32))) h4 fun h15 => Q (.inl (some (Value.int x12))) h15) (fun e h => Q (.inr e) h))
theorem zs_26_29 {xs : List Value} {d : Nat} {Q : zO → zH → Prop} {l0 : zP} {s0 : Int32} {s1 : zP} {h : zH} {lv : List (Nat × Value)} (g0 : zgetl lv 0 = some (zo l0)) (w : zw_26_29 xs d Q l0 s0 s1 h) : zG xs d (26, 29, lv, [Value.int s0, zo s1]) h Q := by
  unfold zw_26_29 at w
  refine zR_aln zfe_26_29 g0 ?_
  obtain ⟨_, _, x1, hp, ho, hv, w⟩ := w
  refine zR_gf zfe_26_30 zlk_26_28 (by decide) hp ho hv ?_
  obtain ⟨_, _, hp, ho, w⟩ := w
  refine zR_cv (args := [_, _]) (rest := []) zfe_26_33 zlk_26_50 rfl rfl hp ho rfl (by decide) (zent_of znl_27 (by simp only [List.map_cons, List.map_nil, List.sum_cons, List.sum_nil, zo_c, zci, zcJ]; decide) (by decide)) (zCall_mono w (zA_v (fun h4 w => ?_) (fun e h w => zA_x rfl w)))
  refine zR_aln zfe_26_36 g0 ?_
  obtain ⟨_, _, x5, hp, ho, hv, w⟩ := w
  refine zR_gf zfe_26_37 zlk_26_9 (by decide) hp ho hv ?_
  refine zR_aln zfe_26_40 g0 ?_
  obtain ⟨_, _, x7, hp, ho, hv, w⟩ := w
  refine zR_gf zfe_26_41 zlk_26_31 (by decide) hp ho hv ?_
  obtain ⟨_, _, _, _, hp, ho, ht, hj, hv, w⟩ := w
  refine zR_ba zfe_26_44 hp ho ht hj hv ?_
  refine zG_p zfe_26_45 (zks_255 _) ?_
  refine zG_p zfe_26_48 rfl ?_
  refine zR_isn zfe_26_49 znl_26 (by decide) (fun lv11 e10 => ?_)
  replace g0 := zgl_n1 e10 g0 rfl (Or.inl (zo_c _))
  have g1 := zgl_s1 e10
  have w := w _ rfl
  refine zR_aln zfe_26_50 g0 ?_
  refine zR_aln zfe_26_51 g0 ?_
  obtain ⟨_, _, x13, hp, ho, hv, w⟩ := w
  refine zR_gf zfe_26_52 zlk_26_31 (by decide) hp ho hv ?_
  refine zG_p zfe_26_55 (zki_1 _) ?_
  refine zG_p zfe_26_56 rfl ?_
  obtain ⟨_, _, hp, ho, hj, w⟩ := w
  refine zR_pf zfe_26_57 zlk_26_31 (by decide) hp ho hj (zfit_i zft_1_5) (by decide) rfl ?_
  refine zR_iln zfe_26_60 g1 ?_
  exact zR_ri zfe_26_61 zrt_26 w
def zw_26_28 (xs : List Value) (d : Nat) (Q : zO → zH → Prop) (l0 : zP) (s0 : zP) (h : zH) : Prop := zw_26_29 xs d Q l0 (0 : Int32) s0 h
theorem zs_26_28 {xs : List Value} {d : Nat} {Q : zO → zH → Prop} {l0 : zP} {s0 : zP} {h : zH} {lv : List (Nat × Value)} (g0 : zgetl lv 0 = some (zo l0)) (w : zw_26_28 xs d Q l0 s0 h) : zG xs d (26, 28, lv, [zo s0]) h Q := by
  unfold zw_26_28 at w
  refine zG_p zfe_26_28 (zki_0 _) ?_
  exact zs_26_29 g0 w
def zw_26_0 (xs : List Value) (d : Nat) (Q : zO → zH → Prop) (l0 : zP) (h : zH) : Prop := zGI l0 1 5 h fun x1 => zGI l0 1 4 h fun x3 => ((x1 < x3 → zGI l0 1 5 h fun x5 => zGR l0 1 0 h fun x7 => zLN xs x7 h fun x9 => ((x5 < x9 → zw_26_29 xs d Q l0 (1 : Int32) l0 h) ∧ (¬ x5 < x9 → zw_26_28 xs d Q l0 l0 h))) ∧ (¬ x1 < x3 → zw_26_28 xs d Q l0 l0 h))
theorem zs_26_0 {xs : List Value} {d : Nat} {Q : zO → zH → Prop} {l0 : zP} {h : zH} {lv : List (Nat × Value)} (g0 : zgetl lv 0 = some (zo l0)) (w : zw_26_0 xs d Q l0 h) : zG xs d (26, 0, lv, []) h Q := by
  unfold zw_26_0 at w
  refine zR_aln zfe_26_0 g0 ?_
  refine zR_aln zfe_26_1 g0 ?_
  obtain ⟨_, _, x1, hp, ho, hv, w⟩ := w
  refine zR_gf zfe_26_2 zlk_26_31 (by decide) hp ho hv ?_
  refine zR_aln zfe_26_5 g0 ?_
  obtain ⟨_, _, x3, hp, ho, hv, w⟩ := w
  refine zR_gf zfe_26_6 zlk_26_28 (by decide) hp ho hv ?_
  refine zG_ic 28 zfe_26_9 rfl (fun q => ?_) (fun q => ?_)
  · have w := w.2 (Int32.not_lt.mpr q)
    exact zs_26_28 g0 w
  · have w := w.1 (Int32.not_le.mp q)
    refine zR_aln zfe_26_12 g0 ?_
    obtain ⟨_, _, x5, hp, ho, hv, w⟩ := w
    refine zR_gf zfe_26_13 zlk_26_31 (by decide) hp ho hv ?_
    refine zR_aln zfe_26_16 g0 ?_
    obtain ⟨_, _, x7, hp, ho, hv, w⟩ := w
    refine zR_gf zfe_26_17 zlk_26_9 (by decide) hp ho hv ?_
    obtain ⟨_, _, _, hp, ho, ht, w⟩ := w
    refine zR_len zfe_26_20 hp ho ht ?_
    refine zG_ic 28 zfe_26_21 rfl (fun q => ?_) (fun q => ?_)
    · have w := w.2 (Int32.not_lt.mpr q)
      exact zs_26_28 g0 w
    · have w := w.1 (Int32.not_le.mp q)
      refine zG_p zfe_26_24 (zki_1 _) ?_
      refine zG_go 29 zfe_26_25 rfl ?_
      exact zs_26_29 g0 w
theorem zm_26 {xs : List Value} {d : Nat} {Q : zO → zH → Prop} {l0 : zP} {h : zH} (w : zw_26_0 xs d Q  l0 h) : zG xs d (26, 0, lv_args 0 [zo l0], []) h Q := zs_26_0  (by cases l0 <;> rfl) w
-- 27: PactLedger$Buffer.require(ZI)V
def zw_27_0 (xs : List Value) (d : Nat) (Q : zO → zH → Prop) (l0 : zP) (l1 : Int32) (l2 : Int32) (h : zH) : Prop := ((l1 = 0 → zPF l0 1 3 (Value.int l2) h fun h1 => zTH d 0 h1 Q) ∧ (¬ l1 = 0 → Q (.inl none) h))
theorem zs_27_0 {xs : List Value} {d : Nat} {Q : zO → zH → Prop} {l0 : zP} {l1 : Int32} {l2 : Int32} {h : zH} {lv : List (Nat × Value)} (g0 : zgetl lv 0 = some (zo l0)) (g1 : zgetl lv 1 = some (Value.int l1)) (g2 : zgetl lv 2 = some (Value.int l2)) (w : zw_27_0 xs d Q l0 l1 l2 h) : zG xs d (27, 0, lv, []) h Q := by
  unfold zw_27_0 at w
  refine zR_iln zfe_27_0 g1 ?_
  refine zG_if 17 zfe_27_1 rfl (fun q => ?_) (fun q => ?_)
  · have w := w.2 q
    exact zR_rv zfe_27_17 zrt_27 w
  · have w := w.1 (Decidable.not_not.mp q)
    refine zR_aln zfe_27_4 g0 ?_
    refine zR_iln zfe_27_5 g2 ?_
    obtain ⟨_, _, hp, ho, hj, w⟩ := w
    refine zR_pf zfe_27_6 zlk_27_25 (by decide) hp ho hj (zfit_i zft_1_3) (by decide) rfl ?_
    exact zR_thr zfe_27_9 zlk_27_113 zfe_27_12 zfe_27_13 zfe_27_16 rfl w.1 (by decide) w.2
theorem zm_27 {xs : List Value} {d : Nat} {Q : zO → zH → Prop} {l0 : zP} {l1 : Int32} {l2 : Int32} {h : zH} (w : zw_27_0 xs d Q  l0 l1 l2 h) : zG xs d (27, 0, lv_args 0 [zo l0, Value.int l1, Value.int l2], []) h Q := zs_27_0  (by cases l0 <;> rfl) (by cases l0 <;> rfl) (by cases l0 <;> rfl) w
-- 93: PactLedgerLaw.call(LPactLedger;III[J)I
def zw_93_0 (xs : List Value) (d : Nat) (Q : zO → zH → Prop) (l0 : zP) (l1 : Int32) (l2 : Int32) (l3 : Int32) (l4 : zP) (h : zH) : Prop := zCV xs d 94 0 l0 [Value.int l1, Value.int l2, Value.int l3] h (zKI (fun x1 h2 => zST 1 l4 (0 : Int32) (Value.long (x1).toInt64) h2 fun h3 => Q (.inl (some (Value.int (0 : Int32)))) h3) (fun e h => (e = 0 → Q (.inl (some (Value.int (1 : Int32)))) h) ∧ (e = 1 → Q (.inl (some (Value.int (2 : Int32)))) h) ∧ (e = 3 → Q (.inl (some (Value.int (3 : Int32)))) h) ∧ (e = 2 → Q (.inl (some (Value.int (4 : Int32)))) h) ∧ (¬ e = 0 ∧ ¬ e = 1 ∧ ¬ e = 3 ∧ ¬ e = 2 → Q (.inr e) h)))
theorem zlkh_93_13 : zlink 93 13 = some (15, 0, 0) := by decide +kernel
theorem zlkh_93_15 : zlink 93 15 = some (15, 1, 0) := by decide +kernel
theorem zlkh_93_27 : zlink 93 27 = some (15, 3, 0) := by decide +kernel
theorem zlkh_93_21 : zlink 93 21 = some (15, 2, 0) := by decide +kernel
theorem zhx_93_7 {e : Nat} (q0 : ¬ e = 0) (q1 : ¬ e = 1) (q3 : ¬ e = 3) (q2 : ¬ e = 2) : zcat 93 7 e = none := by
  unfold zcat
  rw [show z_hh.getD 93 [] = [(0, 12, 15, 13), (0, 12, 19, 15), (0, 12, 23, 27), (0, 12, 27, 21)] from rfl]
  simp only [List.find?_cons, List.find?_nil, zlkh_93_13, zlkh_93_15, zlkh_93_27, zlkh_93_21, show (0 == e) = false from by simpa using fun z => q0 z.symm, show (1 == e) = false from by simpa using fun z => q1 z.symm, show (3 == e) = false from by simpa using fun z => q3 z.symm, show (2 == e) = false from by simpa using fun z => q2 z.symm, Bool.and_false]
theorem zhy_93_7 {e : Nat} (q0 : ¬ e = 0) (q1 : ¬ e = 1) (q3 : ¬ e = 3) (q2 : ¬ e = 2) : zesc 93 7 e = true := by
  unfold zesc
  rw [show z_hh.getD 93 [] = [(0, 12, 15, 13), (0, 12, 19, 15), (0, 12, 23, 27), (0, 12, 27, 21)] from rfl]
  simp only [List.all_cons, List.all_nil, zlkh_93_13, zlkh_93_15, zlkh_93_27, zlkh_93_21, show (0 == e) = false from by simpa using fun z => q0 z.symm, show (1 == e) = false from by simpa using fun z => q1 z.symm, show (3 == e) = false from by simpa using fun z => q3 z.symm, show (2 == e) = false from by simpa using fun z => q2 z.symm, Bool.not_false, Bool.or_true, Bool.and_true]
theorem zs_93_0 {xs : List Value} {d : Nat} {Q : zO → zH → Prop} {l0 : zP} {l1 : Int32} {l2 : Int32} {l3 : Int32} {l4 : zP} {h : zH} {lv : List (Nat × Value)} (g0 : zgetl lv 0 = some (zo l0)) (g1 : zgetl lv 1 = some (Value.int l1)) (g2 : zgetl lv 2 = some (Value.int l2)) (g3 : zgetl lv 3 = some (Value.int l3)) (g4 : zgetl lv 4 = some (zo l4)) (w : zw_93_0 xs d Q l0 l1 l2 l3 l4 h) : zG xs d (93, 0, lv, []) h Q := by
  unfold zw_93_0 at w
  refine zR_al zfe_93_0 g4 ?_
  refine zG_p zfe_93_2 (zki_0 _) ?_
  refine zR_aln zfe_93_3 g0 ?_
  refine zR_iln zfe_93_4 g1 ?_
  refine zR_iln zfe_93_5 g2 ?_
  refine zR_iln zfe_93_6 g3 ?_
  obtain ⟨_, _, hp, ho, w⟩ := w
  refine zR_cv (args := [_, _, _]) (rest := [_, _]) zfe_93_7 zlk_93_23 rfl rfl hp ho rfl (by simp only [List.map_cons, List.map_nil, List.sum_cons, List.sum_nil, zo_c, zci, zcJ]; decide) (zent_of znl_94 (by simp only [List.map_cons, List.map_nil, List.sum_cons, List.sum_nil, zo_c, zci, zcJ]; decide) (by decide)) (zCall_mono w (zA_i (fun x1 h2 w => ?_) (fun e h w => ?_)))
  · refine zG_p zfe_93_10 rfl ?_
    obtain ⟨_, _, hp, ho, hj, hv, w⟩ := w
    refine zR_las zfe_93_11 hp ho hj hv rfl ?_
    refine zG_go 31 zfe_93_12 rfl ?_
    refine zG_p zfe_93_31 (zki_0 _) ?_
    exact zR_ri zfe_93_32 zrt_93 w
  by_cases q0 : e = 0
  · subst q0
    have w := w.1 rfl
    refine Or.inr ⟨17, 5, _, (by decide +kernel), znl_93, (by decide), ?_⟩
    refine zG_p zfe_93_17 (zki_1 _) ?_
    exact zR_ri zfe_93_18 zrt_93 w
  by_cases q1 : e = 1
  · subst q1
    have w := w.2.1 rfl
    refine Or.inr ⟨21, 5, _, (by decide +kernel), znl_93, (by decide), ?_⟩
    refine zG_p zfe_93_21 (zki_2 _) ?_
    exact zR_ri zfe_93_22 zrt_93 w
  by_cases q3 : e = 3
  · subst q3
    have w := w.2.2.1 rfl
    refine Or.inr ⟨25, 5, _, (by decide +kernel), znl_93, (by decide), ?_⟩
    refine zG_p zfe_93_25 (zki_3 _) ?_
    exact zR_ri zfe_93_26 zrt_93 w
  by_cases q2 : e = 2
  · subst q2
    have w := w.2.2.2.1 rfl
    refine Or.inr ⟨29, 5, _, (by decide +kernel), znl_93, (by decide), ?_⟩
    refine zG_p zfe_93_29 (zki_4 _) ?_
    exact zR_ri zfe_93_30 zrt_93 w
  exact Or.inl ⟨zhx_93_7 q0 q1 q3 q2, zhy_93_7 q0 q1 q3 q2, w.2.2.2.2 ⟨q0, q1, q3, q2⟩⟩
theorem zm_93 {xs : List Value} {d : Nat} {Q : zO → zH → Prop} {l0 : zP} {l1 : Int32} {l2 : Int32} {l3 : Int32} {l4 : zP} {h : zH} (w : zw_93_0 xs d Q  l0 l1 l2 l3 l4 h) : zG xs d (93, 0, lv_args 0 [zo l0, Value.int l1, Value.int l2, Value.int l3, zo l4], []) h Q := zs_93_0  (by cases l0 <;> cases l4 <;> rfl) (by cases l0 <;> cases l4 <;> rfl) (by cases l0 <;> cases l4 <;> rfl) (by cases l0 <;> cases l4 <;> rfl) (by cases l0 <;> cases l4 <;> rfl) w
-- 94: PactLedger.call(III)I
def zw_94_42 (xs : List Value) (d : Nat) (Q : zO → zH → Prop) (l0 : zP) (h : zH) : Prop := zGR l0 0 0 h fun x1 => zCV xs d 22 1 x1 [] h (zKV (fun h4 => zTH d 0 h4 Q) (fun e h => Q (.inr e) h))
theorem zs_94_42 {xs : List Value} {d : Nat} {Q : zO → zH → Prop} {l0 : zP} {h : zH} {lv : List (Nat × Value)} (g0 : zgetl lv 0 = some (zo l0)) (w : zw_94_42 xs d Q l0 h) : zG xs d (94, 42, lv, []) h Q := by
  unfold zw_94_42 at w
  refine zR_aln zfe_94_42 g0 ?_
  obtain ⟨_, _, x1, hp, ho, hv, w⟩ := w
  refine zR_gf zfe_94_43 zlk_94_10 (by decide) hp ho hv ?_
  obtain ⟨_, _, hp, ho, w⟩ := w
  refine zR_cv (args := []) (rest := []) zfe_94_46 zlk_94_46 rfl rfl hp ho rfl (by decide) (zent_of znl_22 (by simp only [List.map_cons, List.map_nil, List.sum_cons, List.sum_nil, zo_c, zci, zcJ]; decide) (by decide)) (zCall_mono w (zA_v (fun h4 w => ?_) (fun e h w => zA_x rfl w)))
  exact zR_thr zfe_94_49 zlk_94_33 zfe_94_52 zfe_94_53 zfe_94_56 rfl w.1 (by decide) w.2
def zw_94_162 (xs : List Value) (d : Nat) (Q : zO → zH → Prop)  (h : zH) : Prop := zTH d 3 h Q
theorem zs_94_162 {xs : List Value} {d : Nat} {Q : zO → zH → Prop}  {h : zH} {lv : List (Nat × Value)}  (w : zw_94_162 xs d Q h) : zG xs d (94, 162, lv, []) h Q := by
  unfold zw_94_162 at w
  exact zR_thr zfe_94_162 zlk_94_178 zfe_94_165 zfe_94_166 zfe_94_169 rfl w.1 (by decide) w.2
def zw_94_0 (xs : List Value) (d : Nat) (Q : zO → zH → Prop) (l0 : zP) (l1 : Int32) (l2 : Int32) (l3 : Int32) (h : zH) : Prop := zGR l0 0 1 h fun x1 => zCV xs d 95 2 x1 [] h (zKV (fun h4 => zCV xs d 8 0 l0 [Value.int l1] h4 (zKR (fun x5 h6 => ((x5 = none → zw_94_42 xs d Q l0 h6) ∧ (x5 ≠ none → ((l2 < (1 : Int32) → zw_94_42 xs d Q l0 h6) ∧ (¬ l2 < (1 : Int32) → (((120 : Int32) < l2 → zw_94_42 xs d Q l0 h6) ∧ (¬ (120 : Int32) < l2 → ((l3 < (1 : Int32) → zw_94_42 xs d Q l0 h6) ∧ (¬ l3 < (1 : Int32) → (((150 : Int32) < l3 → zw_94_42 xs d Q l0 h6) ∧ (¬ (150 : Int32) < l3 → zGR l0 0 0 h6 fun x9 => zGR l0 0 0 h6 fun x11 => zCV xs d 23 1 x11 [Value.int (1 : Int32)] h6 (zKR (fun x13 h14 => zCV xs d 46 4 x13 [Value.int (0 : Int32)] h14 (zKR (fun x15 h16 => zGR x5 10 0 h16 fun x17 => zCV xs d 96 1 x9 [zo x15, zo x17] h16 (zKR (fun x19 h20 => zNO 11 [Value.null, Value.null, Value.null, Value.int 0, Value.int 0, Value.int 0, Value.int 0] h20 fun a23 h24 => zGR l0 0 1 h24 fun x25 => zCN xs d 97 (some a23) [zo x25, Value.int l2, Value.int l3] h24 fun h28 => zGR x5 10 3 h28 fun x31 => zCall xs d 43 [Value.int (23 : Int32), zo x19, zo x31] h28 (zKR (fun x33 h34 => zCV xs d 98 11 (some a23) [zo x33] h34 (zKV (fun h36 => zGR x5 10 2 h36 fun x37 => zCV xs d 99 11 (some a23) [zo x37] h36 (zKV (fun h40 => zCV xs d 103 11 (some a23) [] h40 (zKR (fun x41 h42 => zCV xs d 12 3 x41 [] h42 (zKR (fun x45 h46 => zCV xs d 13 3 x45 [Value.int (100 : Int32)] h46 (zKI (fun x47 h48 => (((100 : Int32) < x47 → zw_94_162 xs d Q h48) ∧ (¬ (100 : Int32) < x47 → zCV xs d 81 3 x41 [] h48 (zKR (fun x49 h50 => zCV xs d 13 3 x49 [Value.int (100 : Int32)] h50 (zKI (fun x51 h52 => (((100 : Int32) < x51 → zw_94_162 xs d Q h52) ∧ (¬ (100 : Int32) < x51 → zCV xs d 81 3 x41 [] h52 (zKR (fun x53 h54 => zPF x5 10 3 (zo x53) h54 fun h55 => zGI x5 10 6 h55 fun x56 => zPF x5 10 6 (Value.int (x56 + (1 : Int32))) h55 fun h58 => zGI x5 10 7 h58 fun x59 => zGI (some a23) 11 6 h58 fun x61 => zPF x5 10 7 (Value.int (x59 + x61)) h58 fun h63 => zGR l0 0 1 h63 fun x64 => zCV xs d 12 3 x41 [] h63 (zKR (fun x66 h67 => zCV xs d 113 2 x64 [zo x66] h67 (zKV (fun h69 => zGI (some a23) 11 6 h69 fun x70 => Q (.inl (some (Value.int x70))) h69) (fun e h => Q (.inr e) h))) (fun e h => Q (.inr e) h))) (fun e h => Q (.inr e) h))))) (fun e h => Q (.inr e) h))) (fun e h => Q (.inr e) h))))) (fun e h => Q (.inr e) h))) (fun e h => Q (.inr e) h))) (fun e h => Q (.inr e) h))) (fun e h => Q (.inr e) h))) (fun e h => Q (.inr e) h))) (fun e h => Q (.inr e) h))) (fun e h => Q (.inr e) h))) (fun e h => Q (.inr e) h))) (fun e h => Q (.inr e) h))))))))))))) (fun e h => Q (.inr e) h))) (fun e h => Q (.inr e) h))
theorem zs_94_0 {xs : List Value} {d : Nat} {Q : zO → zH → Prop} {l0 : zP} {l1 : Int32} {l2 : Int32} {l3 : Int32} {h : zH} {lv : List (Nat × Value)} (g0 : zgetl lv 0 = some (zo l0)) (g1 : zgetl lv 1 = some (Value.int l1)) (g2 : zgetl lv 2 = some (Value.int l2)) (g3 : zgetl lv 3 = some (Value.int l3)) (w : zw_94_0 xs d Q l0 l1 l2 l3 h) : zG xs d (94, 0, lv, []) h Q := by
  unfold zw_94_0 at w
  refine zR_aln zfe_94_0 g0 ?_
  obtain ⟨_, _, x1, hp, ho, hv, w⟩ := w
  refine zR_gf zfe_94_1 zlk_94_19 (by decide) hp ho hv ?_
  obtain ⟨_, _, hp, ho, w⟩ := w
  refine zR_cv (args := []) (rest := []) zfe_94_4 zlk_94_126 rfl rfl hp ho rfl (by decide) (zent_of znl_95 (by simp only [List.map_cons, List.map_nil, List.sum_cons, List.sum_nil, zo_c, zci, zcJ]; decide) (by decide)) (zCall_mono w (zA_v (fun h4 w => ?_) (fun e h w => zA_x rfl w)))
  refine zR_aln zfe_94_7 g0 ?_
  refine zR_iln zfe_94_8 g1 ?_
  obtain ⟨_, _, hp, ho, w⟩ := w
  refine zR_cv (args := [_]) (rest := []) zfe_94_9 zlk_94_127 rfl rfl hp ho rfl (by decide) (zent_of znl_8 (by simp only [List.map_cons, List.map_nil, List.sum_cons, List.sum_nil, zo_c, zci, zcJ]; decide) (by decide)) (zCall_mono w (zA_r (fun x5 h6 w => ?_) (fun e h w => zA_x rfl w)))
  refine zR_as zfe_94_12 znl_94 (by decide) (fun lv8 e7 => ?_)
  replace g0 := zgl_n1 e7 g0 rfl (Or.inl (zo_c _))
  replace g2 := zgl_n1 e7 g2 rfl (Or.inl rfl)
  replace g3 := zgl_n1 e7 g3 rfl (Or.inl rfl)
  have g4 := zgl_s1 e7
  refine zR_al zfe_94_14 g4 ?_
  refine zR_ifn 42 zfe_94_16 rfl (fun q => ?_) (fun q => ?_)
  · have w := w.1 q
    exact zs_94_42 g0 w
  · have w := w.2 q
    refine zR_iln zfe_94_19 g2 ?_
    refine zG_p zfe_94_20 (zki_1 _) ?_
    refine zG_ic 42 zfe_94_21 rfl (fun q => ?_) (fun q => ?_)
    · have w := w.1 q
      exact zs_94_42 g0 w
    · have w := w.2 q
      refine zR_iln zfe_94_24 g2 ?_
      refine zG_p zfe_94_25 (zkb_120 _) ?_
      refine zG_ic 42 zfe_94_27 rfl (fun q => ?_) (fun q => ?_)
      · have w := w.1 q
        exact zs_94_42 g0 w
      · have w := w.2 q
        refine zR_iln zfe_94_30 g3 ?_
        refine zG_p zfe_94_31 (zki_1 _) ?_
        refine zG_ic 42 zfe_94_32 rfl (fun q => ?_) (fun q => ?_)
        · have w := w.1 q
          exact zs_94_42 g0 w
        · have w := w.2 q
          refine zR_iln zfe_94_35 g3 ?_
          refine zG_p zfe_94_36 (zks_150 _) ?_
          refine zG_ic 57 zfe_94_39 rfl (fun q => ?_) (fun q => ?_)
          · have w := w.2 (Int32.not_lt.mpr q)
            refine zR_aln zfe_94_57 g0 ?_
            obtain ⟨_, _, x9, hp, ho, hv, w⟩ := w
            refine zR_gf zfe_94_58 zlk_94_10 (by decide) hp ho hv ?_
            refine zR_aln zfe_94_61 g0 ?_
            obtain ⟨_, _, x11, hp, ho, hv, w⟩ := w
            refine zR_gf zfe_94_62 zlk_94_10 (by decide) hp ho hv ?_
            refine zG_p zfe_94_65 (zki_1 _) ?_
            obtain ⟨_, _, hp, ho, w⟩ := w
            refine zR_cv (args := [_]) (rest := [_]) zfe_94_66 zlk_94_49 rfl rfl hp ho rfl (by simp only [List.map_cons, List.map_nil, List.sum_cons, List.sum_nil, zo_c, zci, zcJ]; decide) (zent_of znl_23 (by simp only [List.map_cons, List.map_nil, List.sum_cons, List.sum_nil, zo_c, zci, zcJ]; decide) (by decide)) (zCall_mono w (zA_r (fun x13 h14 w => ?_) (fun e h w => zA_x rfl w)))
            refine zG_p zfe_94_69 (zki_0 _) ?_
            obtain ⟨_, _, hp, ho, w⟩ := w
            refine zR_cv (args := [_]) (rest := [_]) zfe_94_70 zlk_94_58 rfl rfl hp ho rfl (by simp only [List.map_cons, List.map_nil, List.sum_cons, List.sum_nil, zo_c, zci, zcJ]; decide) (zent_of znl_46 (by simp only [List.map_cons, List.map_nil, List.sum_cons, List.sum_nil, zo_c, zci, zcJ]; decide) (by decide)) (zCall_mono w (zA_r (fun x15 h16 w => ?_) (fun e h w => zA_x rfl w)))
            refine zR_al zfe_94_73 g4 ?_
            obtain ⟨_, _, x17, hp, ho, hv, w⟩ := w
            refine zR_gf zfe_94_75 zlk_94_131 (by decide) hp ho hv ?_
            obtain ⟨_, _, hp, ho, w⟩ := w
            refine zR_cv (args := [_, _]) (rest := []) zfe_94_78 zlk_94_135 rfl rfl hp ho rfl (by decide) (zent_of znl_96 (by simp only [List.map_cons, List.map_nil, List.sum_cons, List.sum_nil, zo_c, zci, zcJ]; decide) (by decide)) (zCall_mono w (zA_r (fun x19 h20 w => ?_) (fun e h w => zA_x rfl w)))
            refine zR_as zfe_94_81 znl_94 (by decide) (fun lv22 e21 => ?_)
            replace g0 := zgl_n1 e21 g0 rfl (Or.inl (zo_c _))
            replace g2 := zgl_n1 e21 g2 rfl (Or.inl rfl)
            replace g3 := zgl_n1 e21 g3 rfl (Or.inl rfl)
            replace g4 := zgl_n1 e21 g4 rfl (Or.inl (zo_c _))
            have g5 := zgl_s1 e21
            have w := zNO_u w
            refine zR_new zfe_94_83 zlk_94_139 rfl rfl rfl ?_
            refine zR_dup zfe_94_86 (zo_c _) ?_
            refine zR_aln zfe_94_87 g0 ?_
            obtain ⟨_, _, x25, hp, ho, hv, w⟩ := w
            refine zR_gf zfe_94_88 zlk_94_19 (by decide) hp ho hv ?_
            refine zR_iln zfe_94_91 g2 ?_
            refine zR_iln zfe_94_92 g3 ?_
            obtain ⟨_, hp, ho, w⟩ := w
            refine zR_ci zfe_94_93 zlk_94_141 (by decide) (rest := [_]) (args := [_, _, _]) rfl rfl hp ho (by simp only [List.map_cons, List.map_nil, List.sum_cons, List.sum_nil, zo_c, zci, zcJ]; decide) (zent_of znl_97 (by simp only [List.map_cons, List.map_nil, List.sum_cons, List.sum_nil, zo_c, zci, zcJ]; decide) (by decide)) w (fun h28 w => ?_)
            refine zR_as zfe_94_96 znl_94 (by decide) (fun lv30 e29 => ?_)
            replace g0 := zgl_n1 e29 g0 rfl (Or.inl (zo_c _))
            replace g4 := zgl_n1 e29 g4 rfl (Or.inl (zo_c _))
            replace g5 := zgl_n1 e29 g5 rfl (Or.inl (zo_c _))
            have g6 := zgl_s1 e29
            refine zR_al zfe_94_98 g6 ?_
            refine zG_p zfe_94_100 (zkb_23 _) ?_
            refine zR_al zfe_94_102 g5 ?_
            refine zR_al zfe_94_104 g4 ?_
            obtain ⟨_, _, x31, hp, ho, hv, w⟩ := w
            refine zR_gf zfe_94_106 zlk_94_144 (by decide) hp ho hv ?_
            refine zR_cs (args := [_, _, _]) (rest := [_]) zfe_94_109 zlk_94_147 (by decide) rfl rfl (by simp only [List.map_cons, List.map_nil, List.sum_cons, List.sum_nil, zo_c, zci, zcJ]; decide) (zent_of znl_43 (by simp only [List.map_cons, List.map_nil, List.sum_cons, List.sum_nil, zo_c, zci, zcJ]; decide) (by decide)) (zCall_mono w (zA_r (fun x33 h34 w => ?_) (fun e h w => zA_x rfl w)))
            obtain ⟨_, _, hp, ho, w⟩ := w
            refine zR_cv (args := [_]) (rest := []) zfe_94_112 zlk_94_153 rfl rfl hp ho rfl (by decide) (zent_of znl_98 (by simp only [List.map_cons, List.map_nil, List.sum_cons, List.sum_nil, zo_c, zci, zcJ]; decide) (by decide)) (zCall_mono w (zA_v (fun h36 w => ?_) (fun e h w => zA_x rfl w)))
            refine zR_al zfe_94_115 g6 ?_
            refine zR_al zfe_94_117 g4 ?_
            obtain ⟨_, _, x37, hp, ho, hv, w⟩ := w
            refine zR_gf zfe_94_119 zlk_94_157 (by decide) hp ho hv ?_
            obtain ⟨_, _, hp, ho, w⟩ := w
            refine zR_cv (args := [_]) (rest := []) zfe_94_122 zlk_94_161 rfl rfl hp ho rfl (by decide) (zent_of znl_99 (by simp only [List.map_cons, List.map_nil, List.sum_cons, List.sum_nil, zo_c, zci, zcJ]; decide) (by decide)) (zCall_mono w (zA_v (fun h40 w => ?_) (fun e h w => zA_x rfl w)))
            refine zR_al zfe_94_125 g6 ?_
            obtain ⟨_, _, hp, ho, w⟩ := w
            refine zR_cv (args := []) (rest := []) zfe_94_127 zlk_94_164 rfl rfl hp ho rfl (by decide) (zent_of znl_103 (by simp only [List.map_cons, List.map_nil, List.sum_cons, List.sum_nil, zo_c, zci, zcJ]; decide) (by decide)) (zCall_mono w (zA_r (fun x41 h42 w => ?_) (fun e h w => zA_x rfl w)))
            refine zR_as zfe_94_130 znl_94 (by decide) (fun lv44 e43 => ?_)
            replace g0 := zgl_n1 e43 g0 rfl (Or.inl (zo_c _))
            replace g4 := zgl_n1 e43 g4 rfl (Or.inl (zo_c _))
            replace g6 := zgl_n1 e43 g6 rfl (Or.inl (zo_c _))
            have g7 := zgl_s1 e43
            refine zR_al zfe_94_132 g7 ?_
            obtain ⟨_, _, hp, ho, w⟩ := w
            refine zR_cv (args := []) (rest := []) zfe_94_134 zlk_94_168 rfl rfl hp ho rfl (by decide) (zent_of znl_12 (by simp only [List.map_cons, List.map_nil, List.sum_cons, List.sum_nil, zo_c, zci, zcJ]; decide) (by decide)) (zCall_mono w (zA_r (fun x45 h46 w => ?_) (fun e h w => zA_x rfl w)))
            refine zG_p zfe_94_137 (zkb_100 _) ?_
            obtain ⟨_, _, hp, ho, w⟩ := w
            refine zR_cv (args := [_]) (rest := []) zfe_94_139 zlk_94_171 rfl rfl hp ho rfl (by decide) (zent_of znl_13 (by simp only [List.map_cons, List.map_nil, List.sum_cons, List.sum_nil, zo_c, zci, zcJ]; decide) (by decide)) (zCall_mono w (zA_i (fun x47 h48 w => ?_) (fun e h w => zA_x rfl w)))
            refine zG_p zfe_94_142 (zkb_100 _) ?_
            refine zG_ic 162 zfe_94_144 rfl (fun q => ?_) (fun q => ?_)
            · have w := w.1 q
              exact zs_94_162 w
            · have w := w.2 q
              refine zR_al zfe_94_147 g7 ?_
              obtain ⟨_, _, hp, ho, w⟩ := w
              refine zR_cv (args := []) (rest := []) zfe_94_149 zlk_94_175 rfl rfl hp ho rfl (by decide) (zent_of znl_81 (by simp only [List.map_cons, List.map_nil, List.sum_cons, List.sum_nil, zo_c, zci, zcJ]; decide) (by decide)) (zCall_mono w (zA_r (fun x49 h50 w => ?_) (fun e h w => zA_x rfl w)))
              refine zG_p zfe_94_152 (zkb_100 _) ?_
              obtain ⟨_, _, hp, ho, w⟩ := w
              refine zR_cv (args := [_]) (rest := []) zfe_94_154 zlk_94_171 rfl rfl hp ho rfl (by decide) (zent_of znl_13 (by simp only [List.map_cons, List.map_nil, List.sum_cons, List.sum_nil, zo_c, zci, zcJ]; decide) (by decide)) (zCall_mono w (zA_i (fun x51 h52 w => ?_) (fun e h w => zA_x rfl w)))
              refine zG_p zfe_94_157 (zkb_100 _) ?_
              refine zG_ic 170 zfe_94_159 rfl (fun q => ?_) (fun q => ?_)
              · have w := w.2 (Int32.not_lt.mpr q)
                refine zR_al zfe_94_170 g4 ?_
                refine zR_al zfe_94_172 g7 ?_
                obtain ⟨_, _, hp, ho, w⟩ := w
                refine zR_cv (args := []) (rest := [_]) zfe_94_174 zlk_94_175 rfl rfl hp ho rfl (by simp only [List.map_cons, List.map_nil, List.sum_cons, List.sum_nil, zo_c, zci, zcJ]; decide) (zent_of znl_81 (by simp only [List.map_cons, List.map_nil, List.sum_cons, List.sum_nil, zo_c, zci, zcJ]; decide) (by decide)) (zCall_mono w (zA_r (fun x53 h54 w => ?_) (fun e h w => zA_x rfl w)))
                obtain ⟨_, _, hp, ho, hj, w⟩ := w
                refine zR_pf zfe_94_177 zlk_94_144 (by decide) hp ho hj (zfit_o zft_10_3) (by decide) rfl ?_
                refine zR_al zfe_94_180 g4 ?_
                refine zR_al zfe_94_182 g4 ?_
                obtain ⟨_, _, x56, hp, ho, hv, w⟩ := w
                refine zR_gf zfe_94_184 zlk_94_181 (by decide) hp ho hv ?_
                refine zG_p zfe_94_187 (zki_1 _) ?_
                refine zG_p zfe_94_188 rfl ?_
                obtain ⟨_, _, hp, ho, hj, w⟩ := w
                refine zR_pf zfe_94_189 zlk_94_181 (by decide) hp ho hj (zfit_i zft_10_6) (by decide) rfl ?_
                refine zR_al zfe_94_192 g4 ?_
                refine zR_al zfe_94_194 g4 ?_
                obtain ⟨_, _, x59, hp, ho, hv, w⟩ := w
                refine zR_gf zfe_94_196 zlk_94_184 (by decide) hp ho hv ?_
                refine zR_al zfe_94_199 g6 ?_
                obtain ⟨_, _, x61, hp, ho, hv, w⟩ := w
                refine zR_gf zfe_94_201 zlk_94_187 (by decide) hp ho hv ?_
                refine zG_p zfe_94_204 rfl ?_
                obtain ⟨_, _, hp, ho, hj, w⟩ := w
                refine zR_pf zfe_94_205 zlk_94_184 (by decide) hp ho hj (zfit_i zft_10_7) (by decide) rfl ?_
                refine zR_aln zfe_94_208 g0 ?_
                obtain ⟨_, _, x64, hp, ho, hv, w⟩ := w
                refine zR_gf zfe_94_209 zlk_94_19 (by decide) hp ho hv ?_
                refine zR_al zfe_94_212 g7 ?_
                obtain ⟨_, _, hp, ho, w⟩ := w
                refine zR_cv (args := []) (rest := [_]) zfe_94_214 zlk_94_168 rfl rfl hp ho rfl (by simp only [List.map_cons, List.map_nil, List.sum_cons, List.sum_nil, zo_c, zci, zcJ]; decide) (zent_of znl_12 (by simp only [List.map_cons, List.map_nil, List.sum_cons, List.sum_nil, zo_c, zci, zcJ]; decide) (by decide)) (zCall_mono w (zA_r (fun x66 h67 w => ?_) (fun e h w => zA_x rfl w)))
                obtain ⟨_, _, hp, ho, w⟩ := w
                refine zR_cv (args := [_]) (rest := []) zfe_94_217 zlk_94_190 rfl rfl hp ho rfl (by decide) (zent_of znl_113 (by simp only [List.map_cons, List.map_nil, List.sum_cons, List.sum_nil, zo_c, zci, zcJ]; decide) (by decide)) (zCall_mono w (zA_v (fun h69 w => ?_) (fun e h w => zA_x rfl w)))
                refine zR_al zfe_94_220 g6 ?_
                obtain ⟨_, _, x70, hp, ho, hv, w⟩ := w
                refine zR_gf zfe_94_222 zlk_94_187 (by decide) hp ho hv ?_
                exact zR_ri zfe_94_225 zrt_94 w
              · have w := w.1 (Int32.not_le.mp q)
                exact zs_94_162 w
          · have w := w.1 (Int32.not_le.mp q)
            exact zs_94_42 g0 w
theorem zm_94 {xs : List Value} {d : Nat} {Q : zO → zH → Prop} {l0 : zP} {l1 : Int32} {l2 : Int32} {l3 : Int32} {h : zH} (w : zw_94_0 xs d Q  l0 l1 l2 l3 h) : zG xs d (94, 0, lv_args 0 [zo l0, Value.int l1, Value.int l2, Value.int l3], []) h Q := zs_94_0  (by cases l0 <;> rfl) (by cases l0 <;> rfl) (by cases l0 <;> rfl) (by cases l0 <;> rfl) w
-- 95: PactLedger$Output.clear()V
def zw_95_0 (xs : List Value) (d : Nat) (Q : zO → zH → Prop) (l0 : zP) (h : zH) : Prop := zPF l0 2 1 (Value.int (0 : Int32)) h fun h1 => Q (.inl none) h1
theorem zs_95_0 {xs : List Value} {d : Nat} {Q : zO → zH → Prop} {l0 : zP} {h : zH} {lv : List (Nat × Value)} (g0 : zgetl lv 0 = some (zo l0)) (w : zw_95_0 xs d Q l0 h) : zG xs d (95, 0, lv, []) h Q := by
  unfold zw_95_0 at w
  refine zR_aln zfe_95_0 g0 ?_
  refine zG_p zfe_95_1 (zki_0 _) ?_
  obtain ⟨_, _, hp, ho, hj, w⟩ := w
  refine zR_pf zfe_95_2 zlk_95_15 (by decide) hp ho hj (zfit_i zft_2_1) (by decide) rfl ?_
  exact zR_rv zfe_95_5 zrt_95 w
theorem zm_95 {xs : List Value} {d : Nat} {Q : zO → zH → Prop} {l0 : zP} {h : zH} (w : zw_95_0 xs d Q  l0 h) : zG xs d (95, 0, lv_args 0 [zo l0], []) h Q := zs_95_0  (by cases l0 <;> rfl) w
-- 146: PactLedgerLaw.storage(LPactLedger;I[J)I
def zw_146_0 (xs : List Value) (d : Nat) (Q : zO → zH → Prop) (l0 : zP) (l1 : Int32) (l2 : zP) (h : zH) : Prop := zCV xs d 147 0 l0 [Value.int l1] h (zKI (fun x1 h2 => zST 1 l2 (0 : Int32) (Value.long (x1).toInt64) h2 fun h3 => Q (.inl (some (Value.int (0 : Int32)))) h3) (fun e h => (e = 0 → Q (.inl (some (Value.int (1 : Int32)))) h) ∧ (¬ e = 0 → Q (.inr e) h)))
theorem zlkh_146_13 : zlink 146 13 = some (15, 0, 0) := by decide +kernel
theorem zhx_146_4 {e : Nat} (q0 : ¬ e = 0) : zcat 146 4 e = none := by
  unfold zcat
  rw [show z_hh.getD 146 [] = [(0, 9, 12, 13)] from rfl]
  simp only [List.find?_cons, List.find?_nil, zlkh_146_13, show (0 == e) = false from by simpa using fun z => q0 z.symm, Bool.and_false]
theorem zhy_146_4 {e : Nat} (q0 : ¬ e = 0) : zesc 146 4 e = true := by
  unfold zesc
  rw [show z_hh.getD 146 [] = [(0, 9, 12, 13)] from rfl]
  simp only [List.all_cons, List.all_nil, zlkh_146_13, show (0 == e) = false from by simpa using fun z => q0 z.symm, Bool.not_false, Bool.or_true, Bool.and_true]
theorem zs_146_0 {xs : List Value} {d : Nat} {Q : zO → zH → Prop} {l0 : zP} {l1 : Int32} {l2 : zP} {h : zH} {lv : List (Nat × Value)} (g0 : zgetl lv 0 = some (zo l0)) (g1 : zgetl lv 1 = some (Value.int l1)) (g2 : zgetl lv 2 = some (zo l2)) (w : zw_146_0 xs d Q l0 l1 l2 h) : zG xs d (146, 0, lv, []) h Q := by
  unfold zw_146_0 at w
  refine zR_aln zfe_146_0 g2 ?_
  refine zG_p zfe_146_1 (zki_0 _) ?_
  refine zR_aln zfe_146_2 g0 ?_
  refine zR_iln zfe_146_3 g1 ?_
  obtain ⟨_, _, hp, ho, w⟩ := w
  refine zR_cv (args := [_]) (rest := [_, _]) zfe_146_4 zlk_146_29 rfl rfl hp ho rfl (by simp only [List.map_cons, List.map_nil, List.sum_cons, List.sum_nil, zo_c, zci, zcJ]; decide) (zent_of znl_147 (by simp only [List.map_cons, List.map_nil, List.sum_cons, List.sum_nil, zo_c, zci, zcJ]; decide) (by decide)) (zCall_mono w (zA_i (fun x1 h2 w => ?_) (fun e h w => ?_)))
  · refine zG_p zfe_146_7 rfl ?_
    obtain ⟨_, _, hp, ho, hj, hv, w⟩ := w
    refine zR_las zfe_146_8 hp ho hj hv rfl ?_
    refine zG_go 15 zfe_146_9 rfl ?_
    refine zG_p zfe_146_15 (zki_0 _) ?_
    exact zR_ri zfe_146_16 zrt_146 w
  by_cases q0 : e = 0
  · subst q0
    have w := w.1 rfl
    refine Or.inr ⟨13, 3, _, (by decide +kernel), znl_146, (by decide), ?_⟩
    refine zG_p zfe_146_13 (zki_1 _) ?_
    exact zR_ri zfe_146_14 zrt_146 w
  exact Or.inl ⟨zhx_146_4 q0, zhy_146_4 q0, w.2 q0⟩
theorem zm_146 {xs : List Value} {d : Nat} {Q : zO → zH → Prop} {l0 : zP} {l1 : Int32} {l2 : zP} {h : zH} (w : zw_146_0 xs d Q  l0 l1 l2 h) : zG xs d (146, 0, lv_args 0 [zo l0, Value.int l1, zo l2], []) h Q := zs_146_0  (by cases l0 <;> cases l2 <;> rfl) (by cases l0 <;> cases l2 <;> rfl) (by cases l0 <;> cases l2 <;> rfl) w
-- 147: PactLedger.storage(I)I
def zw_147_0 (xs : List Value) (d : Nat) (Q : zO → zH → Prop) (l0 : zP) (l1 : Int32) (h : zH) : Prop := zCV xs d 8 0 l0 [Value.int l1] h (zKR (fun x1 h2 => ((x1 = none → zTH d 0 h2 Q) ∧ (x1 ≠ none → zGR l0 0 1 h2 fun x5 => zCV xs d 95 2 x5 [] h2 (zKV (fun h8 => zGR l0 0 1 h8 fun x9 => zCV xs d 148 10 x1 [] h8 (zKR (fun x11 h12 => zCV xs d 113 2 x9 [zo x11] h12 (zKV (fun h14 => zGR l0 0 1 h14 fun x15 => zGI x15 2 1 h14 fun x17 => Q (.inl (some (Value.int x17))) h14) (fun e h => Q (.inr e) h))) (fun e h => Q (.inr e) h))) (fun e h => Q (.inr e) h))))) (fun e h => Q (.inr e) h))
theorem zs_147_0 {xs : List Value} {d : Nat} {Q : zO → zH → Prop} {l0 : zP} {l1 : Int32} {h : zH} {lv : List (Nat × Value)} (g0 : zgetl lv 0 = some (zo l0)) (g1 : zgetl lv 1 = some (Value.int l1)) (w : zw_147_0 xs d Q l0 l1 h) : zG xs d (147, 0, lv, []) h Q := by
  unfold zw_147_0 at w
  refine zR_aln zfe_147_0 g0 ?_
  refine zR_iln zfe_147_1 g1 ?_
  obtain ⟨_, _, hp, ho, w⟩ := w
  refine zR_cv (args := [_]) (rest := []) zfe_147_2 zlk_147_127 rfl rfl hp ho rfl (by decide) (zent_of znl_8 (by simp only [List.map_cons, List.map_nil, List.sum_cons, List.sum_nil, zo_c, zci, zcJ]; decide) (by decide)) (zCall_mono w (zA_r (fun x1 h2 w => ?_) (fun e h w => zA_x rfl w)))
  refine zR_asn zfe_147_5 znl_147 (by decide) (fun lv4 e3 => ?_)
  replace g0 := zgl_n1 e3 g0 rfl (Or.inl (zo_c _))
  have g2 := zgl_s1 e3
  refine zR_aln zfe_147_6 g2 ?_
  refine zR_ifnn 18 zfe_147_7 rfl (fun q => ?_) (fun q => ?_)
  · have w := w.2 q
    refine zR_aln zfe_147_18 g0 ?_
    obtain ⟨_, _, x5, hp, ho, hv, w⟩ := w
    refine zR_gf zfe_147_19 zlk_147_19 (by decide) hp ho hv ?_
    obtain ⟨_, _, hp, ho, w⟩ := w
    refine zR_cv (args := []) (rest := []) zfe_147_22 zlk_147_126 rfl rfl hp ho rfl (by decide) (zent_of znl_95 (by simp only [List.map_cons, List.map_nil, List.sum_cons, List.sum_nil, zo_c, zci, zcJ]; decide) (by decide)) (zCall_mono w (zA_v (fun h8 w => ?_) (fun e h w => zA_x rfl w)))
    refine zR_aln zfe_147_25 g0 ?_
    obtain ⟨_, _, x9, hp, ho, hv, w⟩ := w
    refine zR_gf zfe_147_26 zlk_147_19 (by decide) hp ho hv ?_
    refine zR_aln zfe_147_29 g2 ?_
    obtain ⟨_, _, hp, ho, w⟩ := w
    refine zR_cv (args := []) (rest := [_]) zfe_147_30 zlk_147_193 rfl rfl hp ho rfl (by simp only [List.map_cons, List.map_nil, List.sum_cons, List.sum_nil, zo_c, zci, zcJ]; decide) (zent_of znl_148 (by simp only [List.map_cons, List.map_nil, List.sum_cons, List.sum_nil, zo_c, zci, zcJ]; decide) (by decide)) (zCall_mono w (zA_r (fun x11 h12 w => ?_) (fun e h w => zA_x rfl w)))
    obtain ⟨_, _, hp, ho, w⟩ := w
    refine zR_cv (args := [_]) (rest := []) zfe_147_33 zlk_147_190 rfl rfl hp ho rfl (by decide) (zent_of znl_113 (by simp only [List.map_cons, List.map_nil, List.sum_cons, List.sum_nil, zo_c, zci, zcJ]; decide) (by decide)) (zCall_mono w (zA_v (fun h14 w => ?_) (fun e h w => zA_x rfl w)))
    refine zR_aln zfe_147_36 g0 ?_
    obtain ⟨_, _, x15, hp, ho, hv, w⟩ := w
    refine zR_gf zfe_147_37 zlk_147_19 (by decide) hp ho hv ?_
    obtain ⟨_, _, x17, hp, ho, hv, w⟩ := w
    refine zR_gf zfe_147_40 zlk_147_196 (by decide) hp ho hv ?_
    exact zR_ri zfe_147_43 zrt_147 w
  · have w := w.1 q
    exact zR_thr zfe_147_10 zlk_147_33 zfe_147_13 zfe_147_14 zfe_147_17 rfl w.1 (by decide) w.2
theorem zm_147 {xs : List Value} {d : Nat} {Q : zO → zH → Prop} {l0 : zP} {l1 : Int32} {h : zH} (w : zw_147_0 xs d Q  l0 l1 h) : zG xs d (147, 0, lv_args 0 [zo l0, Value.int l1], []) h Q := zs_147_0  (by cases l0 <;> rfl) (by cases l0 <;> rfl) w
-- 149: PactLedgerLaw.find(LPactLedger;I[J)I
def zw_149_0 (xs : List Value) (d : Nat) (Q : zO → zH → Prop) (l0 : zP) (l1 : Int32) (l2 : zP) (h : zH) : Prop := zCV xs d 150 0 l0 [Value.int l1] h (zKI (fun x1 h2 => zST 1 l2 (0 : Int32) (Value.long (x1).toInt64) h2 fun h3 => Q (.inl (some (Value.int (0 : Int32)))) h3) (fun e h => (e = 0 → Q (.inl (some (Value.int (1 : Int32)))) h) ∧ (¬ e = 0 → Q (.inr e) h)))
theorem zlkh_149_13 : zlink 149 13 = some (15, 0, 0) := by decide +kernel
theorem zhx_149_4 {e : Nat} (q0 : ¬ e = 0) : zcat 149 4 e = none := by
  unfold zcat
  rw [show z_hh.getD 149 [] = [(0, 9, 12, 13)] from rfl]
  simp only [List.find?_cons, List.find?_nil, zlkh_149_13, show (0 == e) = false from by simpa using fun z => q0 z.symm, Bool.and_false]
theorem zhy_149_4 {e : Nat} (q0 : ¬ e = 0) : zesc 149 4 e = true := by
  unfold zesc
  rw [show z_hh.getD 149 [] = [(0, 9, 12, 13)] from rfl]
  simp only [List.all_cons, List.all_nil, zlkh_149_13, show (0 == e) = false from by simpa using fun z => q0 z.symm, Bool.not_false, Bool.or_true, Bool.and_true]
theorem zs_149_0 {xs : List Value} {d : Nat} {Q : zO → zH → Prop} {l0 : zP} {l1 : Int32} {l2 : zP} {h : zH} {lv : List (Nat × Value)} (g0 : zgetl lv 0 = some (zo l0)) (g1 : zgetl lv 1 = some (Value.int l1)) (g2 : zgetl lv 2 = some (zo l2)) (w : zw_149_0 xs d Q l0 l1 l2 h) : zG xs d (149, 0, lv, []) h Q := by
  unfold zw_149_0 at w
  refine zR_aln zfe_149_0 g2 ?_
  refine zG_p zfe_149_1 (zki_0 _) ?_
  refine zR_aln zfe_149_2 g0 ?_
  refine zR_iln zfe_149_3 g1 ?_
  obtain ⟨_, _, hp, ho, w⟩ := w
  refine zR_cv (args := [_]) (rest := [_, _]) zfe_149_4 zlk_149_33 rfl rfl hp ho rfl (by simp only [List.map_cons, List.map_nil, List.sum_cons, List.sum_nil, zo_c, zci, zcJ]; decide) (zent_of znl_150 (by simp only [List.map_cons, List.map_nil, List.sum_cons, List.sum_nil, zo_c, zci, zcJ]; decide) (by decide)) (zCall_mono w (zA_i (fun x1 h2 w => ?_) (fun e h w => ?_)))
  · refine zG_p zfe_149_7 rfl ?_
    obtain ⟨_, _, hp, ho, hj, hv, w⟩ := w
    refine zR_las zfe_149_8 hp ho hj hv rfl ?_
    refine zG_go 15 zfe_149_9 rfl ?_
    refine zG_p zfe_149_15 (zki_0 _) ?_
    exact zR_ri zfe_149_16 zrt_149 w
  by_cases q0 : e = 0
  · subst q0
    have w := w.1 rfl
    refine Or.inr ⟨13, 3, _, (by decide +kernel), znl_149, (by decide), ?_⟩
    refine zG_p zfe_149_13 (zki_1 _) ?_
    exact zR_ri zfe_149_14 zrt_149 w
  exact Or.inl ⟨zhx_149_4 q0, zhy_149_4 q0, w.2 q0⟩
theorem zm_149 {xs : List Value} {d : Nat} {Q : zO → zH → Prop} {l0 : zP} {l1 : Int32} {l2 : zP} {h : zH} (w : zw_149_0 xs d Q  l0 l1 l2 h) : zG xs d (149, 0, lv_args 0 [zo l0, Value.int l1, zo l2], []) h Q := zs_149_0  (by cases l0 <;> cases l2 <;> rfl) (by cases l0 <;> cases l2 <;> rfl) (by cases l0 <;> cases l2 <;> rfl) w
-- 150: PactLedger.find(I)I
def zw_150_17 (xs : List Value) (d : Nat) (Q : zO → zH → Prop) (l0 : zP) (h : zH) : Prop := zGR l0 0 0 h fun x1 => zCV xs d 22 1 x1 [] h (zKV (fun h4 => zTH d 0 h4 Q) (fun e h => Q (.inr e) h))
theorem zs_150_17 {xs : List Value} {d : Nat} {Q : zO → zH → Prop} {l0 : zP} {h : zH} {lv : List (Nat × Value)} (g0 : zgetl lv 0 = some (zo l0)) (w : zw_150_17 xs d Q l0 h) : zG xs d (150, 17, lv, []) h Q := by
  unfold zw_150_17 at w
  refine zR_aln zfe_150_17 g0 ?_
  obtain ⟨_, _, x1, hp, ho, hv, w⟩ := w
  refine zR_gf zfe_150_18 zlk_150_10 (by decide) hp ho hv ?_
  obtain ⟨_, _, hp, ho, w⟩ := w
  refine zR_cv (args := []) (rest := []) zfe_150_21 zlk_150_46 rfl rfl hp ho rfl (by decide) (zent_of znl_22 (by simp only [List.map_cons, List.map_nil, List.sum_cons, List.sum_nil, zo_c, zci, zcJ]; decide) (by decide)) (zCall_mono w (zA_v (fun h4 w => ?_) (fun e h w => zA_x rfl w)))
  exact zR_thr zfe_150_24 zlk_150_33 zfe_150_27 zfe_150_28 zfe_150_31 rfl w.1 (by decide) w.2
def zw_150_0 (xs : List Value) (d : Nat) (Q : zO → zH → Prop) (l0 : zP) (l1 : Int32) (h : zH) : Prop := zCV xs d 8 0 l0 [Value.int l1] h (zKR (fun x1 h2 => ((x1 = none → zw_150_17 xs d Q l0 h2) ∧ (x1 ≠ none → zCV xs d 9 10 x1 [] h2 (zKI (fun x5 h6 => ((x5 = 0 → zw_150_17 xs d Q l0 h6) ∧ (¬ x5 = 0 → zGR l0 0 0 h6 fun x7 => zGR l0 0 0 h6 fun x9 => zCV xs d 23 1 x9 [Value.int (1 : Int32)] h6 (zKR (fun x11 h12 => zCV xs d 46 4 x11 [Value.int (0 : Int32)] h12 (zKR (fun x13 h14 => zCV xs d 151 10 x1 [] h14 (zKR (fun x15 h16 => zCV xs d 96 1 x7 [zo x13, zo x15] h16 (zKR (fun x17 h18 => zGR l0 0 1 h18 fun x21 => zCV xs d 95 2 x21 [] h18 (zKV (fun h24 => zGR l0 0 1 h24 fun x25 => zCV xs d 11 10 x1 [] h24 (zKR (fun x27 h28 => zCV xs d 138 3 x27 [zo x17] h28 (zKR (fun x29 h30 => zCV xs d 113 2 x25 [zo x29] h30 (zKV (fun h32 => zGR l0 0 1 h32 fun x33 => zGI x33 2 1 h32 fun x35 => Q (.inl (some (Value.int x35))) h32) (fun e h => Q (.inr e) h))) (fun e h => Q (.inr e) h))) (fun e h => Q (.inr e) h))) (fun e h => Q (.inr e) h))) (fun e h => Q (.inr e) h))) (fun e h => Q (.inr e) h))) (fun e h => Q (.inr e) h))) (fun e h => Q (.inr e) h))))) (fun e h => Q (.inr e) h))))) (fun e h => Q (.inr e) h))
theorem zs_150_0 {xs : List Value} {d : Nat} {Q : zO → zH → Prop} {l0 : zP} {l1 : Int32} {h : zH} {lv : List (Nat × Value)} (g0 : zgetl lv 0 = some (zo l0)) (g1 : zgetl lv 1 = some (Value.int l1)) (w : zw_150_0 xs d Q l0 l1 h) : zG xs d (150, 0, lv, []) h Q := by
  unfold zw_150_0 at w
  refine zR_aln zfe_150_0 g0 ?_
  refine zR_iln zfe_150_1 g1 ?_
  obtain ⟨_, _, hp, ho, w⟩ := w
  refine zR_cv (args := [_]) (rest := []) zfe_150_2 zlk_150_127 rfl rfl hp ho rfl (by decide) (zent_of znl_8 (by simp only [List.map_cons, List.map_nil, List.sum_cons, List.sum_nil, zo_c, zci, zcJ]; decide) (by decide)) (zCall_mono w (zA_r (fun x1 h2 w => ?_) (fun e h w => zA_x rfl w)))
  refine zR_asn zfe_150_5 znl_150 (by decide) (fun lv4 e3 => ?_)
  replace g0 := zgl_n1 e3 g0 rfl (Or.inl (zo_c _))
  have g2 := zgl_s1 e3
  refine zR_aln zfe_150_6 g2 ?_
  refine zR_ifn 17 zfe_150_7 rfl (fun q => ?_) (fun q => ?_)
  · have w := w.1 q
    exact zs_150_17 g0 w
  · have w := w.2 q
    refine zR_aln zfe_150_10 g2 ?_
    obtain ⟨_, _, hp, ho, w⟩ := w
    refine zR_cv (args := []) (rest := []) zfe_150_11 zlk_150_197 rfl rfl hp ho rfl (by decide) (zent_of znl_9 (by simp only [List.map_cons, List.map_nil, List.sum_cons, List.sum_nil, zo_c, zci, zcJ]; decide) (by decide)) (zCall_mono w (zA_i (fun x5 h6 w => ?_) (fun e h w => zA_x rfl w)))
    refine zG_if 32 zfe_150_14 rfl (fun q => ?_) (fun q => ?_)
    · have w := w.2 q
      refine zR_aln zfe_150_32 g0 ?_
      obtain ⟨_, _, x7, hp, ho, hv, w⟩ := w
      refine zR_gf zfe_150_33 zlk_150_10 (by decide) hp ho hv ?_
      refine zR_aln zfe_150_36 g0 ?_
      obtain ⟨_, _, x9, hp, ho, hv, w⟩ := w
      refine zR_gf zfe_150_37 zlk_150_10 (by decide) hp ho hv ?_
      refine zG_p zfe_150_40 (zki_1 _) ?_
      obtain ⟨_, _, hp, ho, w⟩ := w
      refine zR_cv (args := [_]) (rest := [_]) zfe_150_41 zlk_150_49 rfl rfl hp ho rfl (by simp only [List.map_cons, List.map_nil, List.sum_cons, List.sum_nil, zo_c, zci, zcJ]; decide) (zent_of znl_23 (by simp only [List.map_cons, List.map_nil, List.sum_cons, List.sum_nil, zo_c, zci, zcJ]; decide) (by decide)) (zCall_mono w (zA_r (fun x11 h12 w => ?_) (fun e h w => zA_x rfl w)))
      refine zG_p zfe_150_44 (zki_0 _) ?_
      obtain ⟨_, _, hp, ho, w⟩ := w
      refine zR_cv (args := [_]) (rest := [_]) zfe_150_45 zlk_150_58 rfl rfl hp ho rfl (by simp only [List.map_cons, List.map_nil, List.sum_cons, List.sum_nil, zo_c, zci, zcJ]; decide) (zent_of znl_46 (by simp only [List.map_cons, List.map_nil, List.sum_cons, List.sum_nil, zo_c, zci, zcJ]; decide) (by decide)) (zCall_mono w (zA_r (fun x13 h14 w => ?_) (fun e h w => zA_x rfl w)))
      refine zR_aln zfe_150_48 g2 ?_
      obtain ⟨_, _, hp, ho, w⟩ := w
      refine zR_cv (args := []) (rest := [_, _]) zfe_150_49 zlk_150_200 rfl rfl hp ho rfl (by simp only [List.map_cons, List.map_nil, List.sum_cons, List.sum_nil, zo_c, zci, zcJ]; decide) (zent_of znl_151 (by simp only [List.map_cons, List.map_nil, List.sum_cons, List.sum_nil, zo_c, zci, zcJ]; decide) (by decide)) (zCall_mono w (zA_r (fun x15 h16 w => ?_) (fun e h w => zA_x rfl w)))
      obtain ⟨_, _, hp, ho, w⟩ := w
      refine zR_cv (args := [_, _]) (rest := []) zfe_150_52 zlk_150_135 rfl rfl hp ho rfl (by decide) (zent_of znl_96 (by simp only [List.map_cons, List.map_nil, List.sum_cons, List.sum_nil, zo_c, zci, zcJ]; decide) (by decide)) (zCall_mono w (zA_r (fun x17 h18 w => ?_) (fun e h w => zA_x rfl w)))
      refine zR_asn zfe_150_55 znl_150 (by decide) (fun lv20 e19 => ?_)
      replace g0 := zgl_n1 e19 g0 rfl (Or.inl (zo_c _))
      replace g2 := zgl_n1 e19 g2 rfl (Or.inl (zo_c _))
      have g3 := zgl_s1 e19
      refine zR_aln zfe_150_56 g0 ?_
      obtain ⟨_, _, x21, hp, ho, hv, w⟩ := w
      refine zR_gf zfe_150_57 zlk_150_19 (by decide) hp ho hv ?_
      obtain ⟨_, _, hp, ho, w⟩ := w
      refine zR_cv (args := []) (rest := []) zfe_150_60 zlk_150_126 rfl rfl hp ho rfl (by decide) (zent_of znl_95 (by simp only [List.map_cons, List.map_nil, List.sum_cons, List.sum_nil, zo_c, zci, zcJ]; decide) (by decide)) (zCall_mono w (zA_v (fun h24 w => ?_) (fun e h w => zA_x rfl w)))
      refine zR_aln zfe_150_63 g0 ?_
      obtain ⟨_, _, x25, hp, ho, hv, w⟩ := w
      refine zR_gf zfe_150_64 zlk_150_19 (by decide) hp ho hv ?_
      refine zR_aln zfe_150_67 g2 ?_
      obtain ⟨_, _, hp, ho, w⟩ := w
      refine zR_cv (args := []) (rest := [_]) zfe_150_68 zlk_150_204 rfl rfl hp ho rfl (by simp only [List.map_cons, List.map_nil, List.sum_cons, List.sum_nil, zo_c, zci, zcJ]; decide) (zent_of znl_11 (by simp only [List.map_cons, List.map_nil, List.sum_cons, List.sum_nil, zo_c, zci, zcJ]; decide) (by decide)) (zCall_mono w (zA_r (fun x27 h28 w => ?_) (fun e h w => zA_x rfl w)))
      refine zR_aln zfe_150_71 g3 ?_
      obtain ⟨_, _, hp, ho, w⟩ := w
      refine zR_cv (args := [_]) (rest := [_]) zfe_150_72 zlk_150_207 rfl rfl hp ho rfl (by simp only [List.map_cons, List.map_nil, List.sum_cons, List.sum_nil, zo_c, zci, zcJ]; decide) (zent_of znl_138 (by simp only [List.map_cons, List.map_nil, List.sum_cons, List.sum_nil, zo_c, zci, zcJ]; decide) (by decide)) (zCall_mono w (zA_r (fun x29 h30 w => ?_) (fun e h w => zA_x rfl w)))
      obtain ⟨_, _, hp, ho, w⟩ := w
      refine zR_cv (args := [_]) (rest := []) zfe_150_75 zlk_150_190 rfl rfl hp ho rfl (by decide) (zent_of znl_113 (by simp only [List.map_cons, List.map_nil, List.sum_cons, List.sum_nil, zo_c, zci, zcJ]; decide) (by decide)) (zCall_mono w (zA_v (fun h32 w => ?_) (fun e h w => zA_x rfl w)))
      refine zR_aln zfe_150_78 g0 ?_
      obtain ⟨_, _, x33, hp, ho, hv, w⟩ := w
      refine zR_gf zfe_150_79 zlk_150_19 (by decide) hp ho hv ?_
      obtain ⟨_, _, x35, hp, ho, hv, w⟩ := w
      refine zR_gf zfe_150_82 zlk_150_196 (by decide) hp ho hv ?_
      exact zR_ri zfe_150_85 zrt_150 w
    · have w := w.1 (Decidable.not_not.mp q)
      exact zs_150_17 g0 w
theorem zm_150 {xs : List Value} {d : Nat} {Q : zO → zH → Prop} {l0 : zP} {l1 : Int32} {h : zH} (w : zw_150_0 xs d Q  l0 l1 h) : zG xs d (150, 0, lv_args 0 [zo l0, Value.int l1], []) h Q := zs_150_0  (by cases l0 <;> rfl) (by cases l0 <;> rfl) w
-- 152: PactLedgerModel.<init>()V
def zw_152_0 (xs : List Value) (d : Nat) (Q : zO → zH → Prop) (l0 : zP) (h : zH) : Prop := ∃ k1 : Nat, l0 = some k1 ∧ zNA 0 (Value.int 0) (8660 : Int32) h fun a2 h3 => zPF l0 12 1 (zo (some a2)) h3 fun h4 => zNA 0 (Value.int 0) (2800 : Int32) h4 fun a5 h6 => zPF l0 12 2 (zo (some a5)) h6 fun h7 => zPF l0 12 5 (Value.int (-1 : Int32)) h7 fun h8 => zNA 0 (Value.int 0) (100 : Int32) h8 fun a9 h10 => zPF l0 12 9 (zo (some a9)) h10 fun h11 => zNA 0 (Value.int 0) (100 : Int32) h11 fun a12 h13 => zPF l0 12 10 (zo (some a12)) h13 fun h14 => zNA 0 (Value.int 0) (100 : Int32) h14 fun a15 h16 => zPF l0 12 11 (zo (some a15)) h16 fun h17 => zNA 0 (Value.int 0) (100 : Int32) h17 fun a18 h19 => zPF l0 12 12 (zo (some a18)) h19 fun h20 => zNA 0 (Value.int 0) (100 : Int32) h20 fun a21 h22 => zPF l0 12 13 (zo (some a21)) h22 fun h23 => zNA 0 (Value.int 0) (100 : Int32) h23 fun a24 h25 => zPF l0 12 14 (zo (some a24)) h25 fun h26 => zNA 0 (Value.int 0) (100 : Int32) h26 fun a27 h28 => zPF l0 12 15 (zo (some a27)) h28 fun h29 => zNA 0 (Value.int 0) (100 : Int32) h29 fun a30 h31 => zPF l0 12 16 (zo (some a30)) h31 fun h32 => zNA 1 (Value.long 0) (100 : Int32) h32 fun a33 h34 => zPF l0 12 17 (zo (some a33)) h34 fun h35 => zNA 1 (Value.long 0) (100 : Int32) h35 fun a36 h37 => zPF l0 12 18 (zo (some a36)) h37 fun h38 => zNA 0 (Value.int 0) (10 : Int32) h38 fun a39 h40 => zPF l0 12 19 (zo (some a39)) h40 fun h41 => zNA 0 (Value.int 0) (10 : Int32) h41 fun a42 h43 => zPF l0 12 20 (zo (some a42)) h43 fun h44 => zNA 0 (Value.int 0) (220 : Int32) h44 fun a45 h46 => zPF l0 12 22 (zo (some a45)) h46 fun h47 => zNA 0 (Value.int 0) (220 : Int32) h47 fun a48 h49 => zPF l0 12 23 (zo (some a48)) h49 fun h50 => zNA 0 (Value.int 0) (220 : Int32) h50 fun a51 h52 => zPF l0 12 24 (zo (some a51)) h52 fun h53 => zNA 0 (Value.int 0) (220 : Int32) h53 fun a54 h55 => zPF l0 12 25 (zo (some a54)) h55 fun h56 => zNA 4 (Value.int 0) (220 : Int32) h56 fun a57 h58 => zPF l0 12 26 (zo (some a57)) h58 fun h59 => zNA 2 (Value.int 0) (1400 : Int32) h59 fun a60 h61 => zPF l0 12 30 (zo (some a60)) h61 fun h62 => zNA 3 (Value.int 0) (1400 : Int32) h62 fun a63 h64 => zPF l0 12 31 (zo (some a63)) h64 fun h65 => zNA 3 (Value.int 0) (1400 : Int32) h65 fun a66 h67 => zPF l0 12 32 (zo (some a66)) h67 fun h68 => zNA 1 (Value.long 0) (600 : Int32) h68 fun a69 h70 => zPF l0 12 33 (zo (some a69)) h70 fun h71 => zNA 1 (Value.long 0) (600 : Int32) h71 fun a72 h73 => zPF l0 12 34 (zo (some a72)) h73 fun h74 => zNA 0 (Value.int 0) (60 : Int32) h74 fun a75 h76 => zPF l0 12 35 (zo (some a75)) h76 fun h77 => zNA 0 (Value.int 0) (60 : Int32) h77 fun a78 h79 => zPF l0 12 36 (zo (some a78)) h79 fun h80 => zNA 0 (Value.int 0) (60 : Int32) h80 fun a81 h82 => zPF l0 12 37 (zo (some a81)) h82 fun h83 => zNA 0 (Value.int 0) (12 : Int32) h83 fun a84 h85 => zPF l0 12 38 (zo (some a84)) h85 fun h86 => zNA 0 (Value.int 0) (12 : Int32) h86 fun a87 h88 => zPF l0 12 39 (zo (some a87)) h88 fun h89 => zNA 0 (Value.int 0) (12 : Int32) h89 fun a90 h91 => zPF l0 12 40 (zo (some a90)) h91 fun h92 => zNA 0 (Value.int 0) (12 : Int32) h92 fun a93 h94 => zPF l0 12 41 (zo (some a93)) h94 fun h95 => zNA 0 (Value.int 0) (12 : Int32) h95 fun a96 h97 => zPF l0 12 42 (zo (some a96)) h97 fun h98 => zNA 0 (Value.int 0) (12 : Int32) h98 fun a99 h100 => zPF l0 12 43 (zo (some a99)) h100 fun h101 => zNA 0 (Value.int 0) (144 : Int32) h101 fun a102 h103 => zPF l0 12 44 (zo (some a102)) h103 fun h104 => zNA 0 (Value.int 0) (12 : Int32) h104 fun a105 h106 => zPF l0 12 45 (zo (some a105)) h106 fun h107 => zNA 0 (Value.int 0) (144 : Int32) h107 fun a108 h109 => zPF l0 12 46 (zo (some a108)) h109 fun h110 => zNA 0 (Value.int 0) (12 : Int32) h110 fun a111 h112 => zPF l0 12 47 (zo (some a111)) h112 fun h113 => zNA 0 (Value.int 0) (16 : Int32) h113 fun a114 h115 => zPF l0 12 48 (zo (some a114)) h115 fun h116 => zNA 0 (Value.int 0) (4 : Int32) h116 fun a117 h118 => zPF l0 12 61 (zo (some a117)) h118 fun h119 => zNA 0 (Value.int 0) (4 : Int32) h119 fun a120 h121 => zPF l0 12 62 (zo (some a120)) h121 fun h122 => zNA 0 (Value.int 0) (24 : Int32) h122 fun a123 h124 => zPF l0 12 63 (zo (some a123)) h124 fun h125 => zNA 0 (Value.int 0) (100 : Int32) h125 fun a126 h127 => zPF l0 12 64 (zo (some a126)) h127 fun h128 => Q (.inl none) h128
theorem zs_152_0 {xs : List Value} {d : Nat} {Q : zO → zH → Prop} {l0 : zP} {h : zH} {lv : List (Nat × Value)} (g0 : zgetl lv 0 = some (zo l0)) (w : zw_152_0 xs d Q l0 h) : zG xs d (152, 0, lv, []) h Q := by
  unfold zw_152_0 at w
  refine zR_aln zfe_152_0 g0 ?_
  obtain ⟨_, hp, w⟩ := w
  refine zR_obj zfe_152_1 zlk_152_1 hp (by decide) ?_
  refine zR_aln zfe_152_4 g0 ?_
  refine zG_p zfe_152_5 (zks_8660 _) ?_
  obtain ⟨hn, w⟩ := w
  refine zR_na zfe_152_8 rfl hn rfl rfl ?_
  obtain ⟨_, _, hp, ho, hj, w⟩ := w
  refine zR_pf zfe_152_10 zlk_152_7 (by decide) hp ho hj (zfit_a zft_12_1) (by decide) rfl ?_
  refine zR_aln zfe_152_13 g0 ?_
  refine zG_p zfe_152_14 (zks_2800 _) ?_
  obtain ⟨hn, w⟩ := w
  refine zR_na zfe_152_17 rfl hn rfl rfl ?_
  obtain ⟨_, _, hp, ho, hj, w⟩ := w
  refine zR_pf zfe_152_19 zlk_152_13 (by decide) hp ho hj (zfit_a zft_12_2) (by decide) rfl ?_
  refine zR_aln zfe_152_22 g0 ?_
  refine zG_p zfe_152_23 (zki_m1 _) ?_
  obtain ⟨_, _, hp, ho, hj, w⟩ := w
  refine zR_pf zfe_152_24 zlk_152_16 (by decide) hp ho hj (zfit_i zft_12_5) (by decide) rfl ?_
  refine zR_aln zfe_152_27 g0 ?_
  refine zG_p zfe_152_28 (zkb_100 _) ?_
  obtain ⟨hn, w⟩ := w
  refine zR_na zfe_152_30 rfl hn rfl rfl ?_
  obtain ⟨_, _, hp, ho, hj, w⟩ := w
  refine zR_pf zfe_152_32 zlk_152_20 (by decide) hp ho hj (zfit_a zft_12_9) (by decide) rfl ?_
  refine zR_aln zfe_152_35 g0 ?_
  refine zG_p zfe_152_36 (zkb_100 _) ?_
  obtain ⟨hn, w⟩ := w
  refine zR_na zfe_152_38 rfl hn rfl rfl ?_
  obtain ⟨_, _, hp, ho, hj, w⟩ := w
  refine zR_pf zfe_152_40 zlk_152_23 (by decide) hp ho hj (zfit_a zft_12_10) (by decide) rfl ?_
  refine zR_aln zfe_152_43 g0 ?_
  refine zG_p zfe_152_44 (zkb_100 _) ?_
  obtain ⟨hn, w⟩ := w
  refine zR_na zfe_152_46 rfl hn rfl rfl ?_
  obtain ⟨_, _, hp, ho, hj, w⟩ := w
  refine zR_pf zfe_152_48 zlk_152_26 (by decide) hp ho hj (zfit_a zft_12_11) (by decide) rfl ?_
  refine zR_aln zfe_152_51 g0 ?_
  refine zG_p zfe_152_52 (zkb_100 _) ?_
  obtain ⟨hn, w⟩ := w
  refine zR_na zfe_152_54 rfl hn rfl rfl ?_
  obtain ⟨_, _, hp, ho, hj, w⟩ := w
  refine zR_pf zfe_152_56 zlk_152_29 (by decide) hp ho hj (zfit_a zft_12_12) (by decide) rfl ?_
  refine zR_aln zfe_152_59 g0 ?_
  refine zG_p zfe_152_60 (zkb_100 _) ?_
  obtain ⟨hn, w⟩ := w
  refine zR_na zfe_152_62 rfl hn rfl rfl ?_
  obtain ⟨_, _, hp, ho, hj, w⟩ := w
  refine zR_pf zfe_152_64 zlk_152_32 (by decide) hp ho hj (zfit_a zft_12_13) (by decide) rfl ?_
  refine zR_aln zfe_152_67 g0 ?_
  refine zG_p zfe_152_68 (zkb_100 _) ?_
  obtain ⟨hn, w⟩ := w
  refine zR_na zfe_152_70 rfl hn rfl rfl ?_
  obtain ⟨_, _, hp, ho, hj, w⟩ := w
  refine zR_pf zfe_152_72 zlk_152_35 (by decide) hp ho hj (zfit_a zft_12_14) (by decide) rfl ?_
  refine zR_aln zfe_152_75 g0 ?_
  refine zG_p zfe_152_76 (zkb_100 _) ?_
  obtain ⟨hn, w⟩ := w
  refine zR_na zfe_152_78 rfl hn rfl rfl ?_
  obtain ⟨_, _, hp, ho, hj, w⟩ := w
  refine zR_pf zfe_152_80 zlk_152_38 (by decide) hp ho hj (zfit_a zft_12_15) (by decide) rfl ?_
  refine zR_aln zfe_152_83 g0 ?_
  refine zG_p zfe_152_84 (zkb_100 _) ?_
  obtain ⟨hn, w⟩ := w
  refine zR_na zfe_152_86 rfl hn rfl rfl ?_
  obtain ⟨_, _, hp, ho, hj, w⟩ := w
  refine zR_pf zfe_152_88 zlk_152_41 (by decide) hp ho hj (zfit_a zft_12_16) (by decide) rfl ?_
  refine zR_aln zfe_152_91 g0 ?_
  refine zG_p zfe_152_92 (zkb_100 _) ?_
  obtain ⟨hn, w⟩ := w
  refine zR_na zfe_152_94 rfl hn rfl rfl ?_
  obtain ⟨_, _, hp, ho, hj, w⟩ := w
  refine zR_pf zfe_152_96 zlk_152_44 (by decide) hp ho hj (zfit_a zft_12_17) (by decide) rfl ?_
  refine zR_aln zfe_152_99 g0 ?_
  refine zG_p zfe_152_100 (zkb_100 _) ?_
  obtain ⟨hn, w⟩ := w
  refine zR_na zfe_152_102 rfl hn rfl rfl ?_
  obtain ⟨_, _, hp, ho, hj, w⟩ := w
  refine zR_pf zfe_152_104 zlk_152_48 (by decide) hp ho hj (zfit_a zft_12_18) (by decide) rfl ?_
  refine zR_aln zfe_152_107 g0 ?_
  refine zG_p zfe_152_108 (zkb_10 _) ?_
  obtain ⟨hn, w⟩ := w
  refine zR_na zfe_152_110 rfl hn rfl rfl ?_
  obtain ⟨_, _, hp, ho, hj, w⟩ := w
  refine zR_pf zfe_152_112 zlk_152_51 (by decide) hp ho hj (zfit_a zft_12_19) (by decide) rfl ?_
  refine zR_aln zfe_152_115 g0 ?_
  refine zG_p zfe_152_116 (zkb_10 _) ?_
  obtain ⟨hn, w⟩ := w
  refine zR_na zfe_152_118 rfl hn rfl rfl ?_
  obtain ⟨_, _, hp, ho, hj, w⟩ := w
  refine zR_pf zfe_152_120 zlk_152_54 (by decide) hp ho hj (zfit_a zft_12_20) (by decide) rfl ?_
  refine zR_aln zfe_152_123 g0 ?_
  refine zG_p zfe_152_124 (zks_220 _) ?_
  obtain ⟨hn, w⟩ := w
  refine zR_na zfe_152_127 rfl hn rfl rfl ?_
  obtain ⟨_, _, hp, ho, hj, w⟩ := w
  refine zR_pf zfe_152_129 zlk_152_57 (by decide) hp ho hj (zfit_a zft_12_22) (by decide) rfl ?_
  refine zR_aln zfe_152_132 g0 ?_
  refine zG_p zfe_152_133 (zks_220 _) ?_
  obtain ⟨hn, w⟩ := w
  refine zR_na zfe_152_136 rfl hn rfl rfl ?_
  obtain ⟨_, _, hp, ho, hj, w⟩ := w
  refine zR_pf zfe_152_138 zlk_152_60 (by decide) hp ho hj (zfit_a zft_12_23) (by decide) rfl ?_
  refine zR_aln zfe_152_141 g0 ?_
  refine zG_p zfe_152_142 (zks_220 _) ?_
  obtain ⟨hn, w⟩ := w
  refine zR_na zfe_152_145 rfl hn rfl rfl ?_
  obtain ⟨_, _, hp, ho, hj, w⟩ := w
  refine zR_pf zfe_152_147 zlk_152_63 (by decide) hp ho hj (zfit_a zft_12_24) (by decide) rfl ?_
  refine zR_aln zfe_152_150 g0 ?_
  refine zG_p zfe_152_151 (zks_220 _) ?_
  obtain ⟨hn, w⟩ := w
  refine zR_na zfe_152_154 rfl hn rfl rfl ?_
  obtain ⟨_, _, hp, ho, hj, w⟩ := w
  refine zR_pf zfe_152_156 zlk_152_66 (by decide) hp ho hj (zfit_a zft_12_25) (by decide) rfl ?_
  refine zR_aln zfe_152_159 g0 ?_
  refine zG_p zfe_152_160 (zks_220 _) ?_
  obtain ⟨hn, w⟩ := w
  refine zR_na zfe_152_163 rfl hn rfl rfl ?_
  obtain ⟨_, _, hp, ho, hj, w⟩ := w
  refine zR_pf zfe_152_165 zlk_152_69 (by decide) hp ho hj (zfit_a zft_12_26) (by decide) rfl ?_
  refine zR_aln zfe_152_168 g0 ?_
  refine zG_p zfe_152_169 (zks_1400 _) ?_
  obtain ⟨hn, w⟩ := w
  refine zR_na zfe_152_172 rfl hn rfl rfl ?_
  obtain ⟨_, _, hp, ho, hj, w⟩ := w
  refine zR_pf zfe_152_174 zlk_152_73 (by decide) hp ho hj (zfit_a zft_12_30) (by decide) rfl ?_
  refine zR_aln zfe_152_177 g0 ?_
  refine zG_p zfe_152_178 (zks_1400 _) ?_
  obtain ⟨hn, w⟩ := w
  refine zR_na zfe_152_181 rfl hn rfl rfl ?_
  obtain ⟨_, _, hp, ho, hj, w⟩ := w
  refine zR_pf zfe_152_183 zlk_152_77 (by decide) hp ho hj (zfit_a zft_12_31) (by decide) rfl ?_
  refine zR_aln zfe_152_186 g0 ?_
  refine zG_p zfe_152_187 (zks_1400 _) ?_
  obtain ⟨hn, w⟩ := w
  refine zR_na zfe_152_190 rfl hn rfl rfl ?_
  obtain ⟨_, _, hp, ho, hj, w⟩ := w
  refine zR_pf zfe_152_192 zlk_152_81 (by decide) hp ho hj (zfit_a zft_12_32) (by decide) rfl ?_
  refine zR_aln zfe_152_195 g0 ?_
  refine zG_p zfe_152_196 (zks_600 _) ?_
  obtain ⟨hn, w⟩ := w
  refine zR_na zfe_152_199 rfl hn rfl rfl ?_
  obtain ⟨_, _, hp, ho, hj, w⟩ := w
  refine zR_pf zfe_152_201 zlk_152_84 (by decide) hp ho hj (zfit_a zft_12_33) (by decide) rfl ?_
  refine zR_aln zfe_152_204 g0 ?_
  refine zG_p zfe_152_205 (zks_600 _) ?_
  obtain ⟨hn, w⟩ := w
  refine zR_na zfe_152_208 rfl hn rfl rfl ?_
  obtain ⟨_, _, hp, ho, hj, w⟩ := w
  refine zR_pf zfe_152_210 zlk_152_87 (by decide) hp ho hj (zfit_a zft_12_34) (by decide) rfl ?_
  refine zR_aln zfe_152_213 g0 ?_
  refine zG_p zfe_152_214 (zkb_60 _) ?_
  obtain ⟨hn, w⟩ := w
  refine zR_na zfe_152_216 rfl hn rfl rfl ?_
  obtain ⟨_, _, hp, ho, hj, w⟩ := w
  refine zR_pf zfe_152_218 zlk_152_90 (by decide) hp ho hj (zfit_a zft_12_35) (by decide) rfl ?_
  refine zR_aln zfe_152_221 g0 ?_
  refine zG_p zfe_152_222 (zkb_60 _) ?_
  obtain ⟨hn, w⟩ := w
  refine zR_na zfe_152_224 rfl hn rfl rfl ?_
  obtain ⟨_, _, hp, ho, hj, w⟩ := w
  refine zR_pf zfe_152_226 zlk_152_93 (by decide) hp ho hj (zfit_a zft_12_36) (by decide) rfl ?_
  refine zR_aln zfe_152_229 g0 ?_
  refine zG_p zfe_152_230 (zkb_60 _) ?_
  obtain ⟨hn, w⟩ := w
  refine zR_na zfe_152_232 rfl hn rfl rfl ?_
  obtain ⟨_, _, hp, ho, hj, w⟩ := w
  refine zR_pf zfe_152_234 zlk_152_96 (by decide) hp ho hj (zfit_a zft_12_37) (by decide) rfl ?_
  refine zR_aln zfe_152_237 g0 ?_
  refine zG_p zfe_152_238 (zkb_12 _) ?_
  obtain ⟨hn, w⟩ := w
  refine zR_na zfe_152_240 rfl hn rfl rfl ?_
  obtain ⟨_, _, hp, ho, hj, w⟩ := w
  refine zR_pf zfe_152_242 zlk_152_99 (by decide) hp ho hj (zfit_a zft_12_38) (by decide) rfl ?_
  refine zR_aln zfe_152_245 g0 ?_
  refine zG_p zfe_152_246 (zkb_12 _) ?_
  obtain ⟨hn, w⟩ := w
  refine zR_na zfe_152_248 rfl hn rfl rfl ?_
  obtain ⟨_, _, hp, ho, hj, w⟩ := w
  refine zR_pf zfe_152_250 zlk_152_102 (by decide) hp ho hj (zfit_a zft_12_39) (by decide) rfl ?_
  refine zR_aln zfe_152_253 g0 ?_
  refine zG_p zfe_152_254 (zkb_12 _) ?_
  obtain ⟨hn, w⟩ := w
  refine zR_na zfe_152_256 rfl hn rfl rfl ?_
  obtain ⟨_, _, hp, ho, hj, w⟩ := w
  refine zR_pf zfe_152_258 zlk_152_105 (by decide) hp ho hj (zfit_a zft_12_40) (by decide) rfl ?_
  refine zR_aln zfe_152_261 g0 ?_
  refine zG_p zfe_152_262 (zkb_12 _) ?_
  obtain ⟨hn, w⟩ := w
  refine zR_na zfe_152_264 rfl hn rfl rfl ?_
  obtain ⟨_, _, hp, ho, hj, w⟩ := w
  refine zR_pf zfe_152_266 zlk_152_108 (by decide) hp ho hj (zfit_a zft_12_41) (by decide) rfl ?_
  refine zR_aln zfe_152_269 g0 ?_
  refine zG_p zfe_152_270 (zkb_12 _) ?_
  obtain ⟨hn, w⟩ := w
  refine zR_na zfe_152_272 rfl hn rfl rfl ?_
  obtain ⟨_, _, hp, ho, hj, w⟩ := w
  refine zR_pf zfe_152_274 zlk_152_111 (by decide) hp ho hj (zfit_a zft_12_42) (by decide) rfl ?_
  refine zR_aln zfe_152_277 g0 ?_
  refine zG_p zfe_152_278 (zkb_12 _) ?_
  obtain ⟨hn, w⟩ := w
  refine zR_na zfe_152_280 rfl hn rfl rfl ?_
  obtain ⟨_, _, hp, ho, hj, w⟩ := w
  refine zR_pf zfe_152_282 zlk_152_114 (by decide) hp ho hj (zfit_a zft_12_43) (by decide) rfl ?_
  refine zR_aln zfe_152_285 g0 ?_
  refine zG_p zfe_152_286 (zks_144 _) ?_
  obtain ⟨hn, w⟩ := w
  refine zR_na zfe_152_289 rfl hn rfl rfl ?_
  obtain ⟨_, _, hp, ho, hj, w⟩ := w
  refine zR_pf zfe_152_291 zlk_152_117 (by decide) hp ho hj (zfit_a zft_12_44) (by decide) rfl ?_
  refine zR_aln zfe_152_294 g0 ?_
  refine zG_p zfe_152_295 (zkb_12 _) ?_
  obtain ⟨hn, w⟩ := w
  refine zR_na zfe_152_297 rfl hn rfl rfl ?_
  obtain ⟨_, _, hp, ho, hj, w⟩ := w
  refine zR_pf zfe_152_299 zlk_152_120 (by decide) hp ho hj (zfit_a zft_12_45) (by decide) rfl ?_
  refine zR_aln zfe_152_302 g0 ?_
  refine zG_p zfe_152_303 (zks_144 _) ?_
  obtain ⟨hn, w⟩ := w
  refine zR_na zfe_152_306 rfl hn rfl rfl ?_
  obtain ⟨_, _, hp, ho, hj, w⟩ := w
  refine zR_pf zfe_152_308 zlk_152_123 (by decide) hp ho hj (zfit_a zft_12_46) (by decide) rfl ?_
  refine zR_aln zfe_152_311 g0 ?_
  refine zG_p zfe_152_312 (zkb_12 _) ?_
  obtain ⟨hn, w⟩ := w
  refine zR_na zfe_152_314 rfl hn rfl rfl ?_
  obtain ⟨_, _, hp, ho, hj, w⟩ := w
  refine zR_pf zfe_152_316 zlk_152_126 (by decide) hp ho hj (zfit_a zft_12_47) (by decide) rfl ?_
  refine zR_aln zfe_152_319 g0 ?_
  refine zG_p zfe_152_320 (zkb_16 _) ?_
  obtain ⟨hn, w⟩ := w
  refine zR_na zfe_152_322 rfl hn rfl rfl ?_
  obtain ⟨_, _, hp, ho, hj, w⟩ := w
  refine zR_pf zfe_152_324 zlk_152_129 (by decide) hp ho hj (zfit_a zft_12_48) (by decide) rfl ?_
  refine zR_aln zfe_152_327 g0 ?_
  refine zG_p zfe_152_328 (zki_4 _) ?_
  obtain ⟨hn, w⟩ := w
  refine zR_na zfe_152_329 rfl hn rfl rfl ?_
  obtain ⟨_, _, hp, ho, hj, w⟩ := w
  refine zR_pf zfe_152_331 zlk_152_132 (by decide) hp ho hj (zfit_a zft_12_61) (by decide) rfl ?_
  refine zR_aln zfe_152_334 g0 ?_
  refine zG_p zfe_152_335 (zki_4 _) ?_
  obtain ⟨hn, w⟩ := w
  refine zR_na zfe_152_336 rfl hn rfl rfl ?_
  obtain ⟨_, _, hp, ho, hj, w⟩ := w
  refine zR_pf zfe_152_338 zlk_152_135 (by decide) hp ho hj (zfit_a zft_12_62) (by decide) rfl ?_
  refine zR_aln zfe_152_341 g0 ?_
  refine zG_p zfe_152_342 (zkb_24 _) ?_
  obtain ⟨hn, w⟩ := w
  refine zR_na zfe_152_344 rfl hn rfl rfl ?_
  obtain ⟨_, _, hp, ho, hj, w⟩ := w
  refine zR_pf zfe_152_346 zlk_152_138 (by decide) hp ho hj (zfit_a zft_12_63) (by decide) rfl ?_
  refine zR_aln zfe_152_349 g0 ?_
  refine zG_p zfe_152_350 (zkb_100 _) ?_
  obtain ⟨hn, w⟩ := w
  refine zR_na zfe_152_352 rfl hn rfl rfl ?_
  obtain ⟨_, _, hp, ho, hj, w⟩ := w
  refine zR_pf zfe_152_354 zlk_152_141 (by decide) hp ho hj (zfit_a zft_12_64) (by decide) rfl ?_
  exact zR_rv zfe_152_357 zrt_152 w
theorem zm_152 {xs : List Value} {d : Nat} {Q : zO → zH → Prop} {l0 : zP} {h : zH} (w : zw_152_0 xs d Q  l0 h) : zG xs d (152, 0, lv_args 0 [zo l0], []) h Q := zs_152_0  (by cases l0 <;> rfl) w
-- 153: PactLedgerModel.thrown()I
def zw_153_0 (xs : List Value) (d : Nat) (Q : zO → zH → Prop) (l0 : zP) (h : zH) : Prop := zGI l0 12 0 h fun x1 => Q (.inl (some (Value.int x1))) h
theorem zs_153_0 {xs : List Value} {d : Nat} {Q : zO → zH → Prop} {l0 : zP} {h : zH} {lv : List (Nat × Value)} (g0 : zgetl lv 0 = some (zo l0)) (w : zw_153_0 xs d Q l0 h) : zG xs d (153, 0, lv, []) h Q := by
  unfold zw_153_0 at w
  refine zR_aln zfe_153_0 g0 ?_
  obtain ⟨_, _, x1, hp, ho, hv, w⟩ := w
  refine zR_gf zfe_153_1 zlk_153_144 (by decide) hp ho hv ?_
  exact zR_ri zfe_153_4 zrt_153 w
theorem zm_153 {xs : List Value} {d : Nat} {Q : zO → zH → Prop} {l0 : zP} {h : zH} (w : zw_153_0 xs d Q  l0 h) : zG xs d (153, 0, lv_args 0 [zo l0], []) h Q := zs_153_0  (by cases l0 <;> rfl) w
-- 154: PactLedgerModel.put(JI)I
def zw_154_102 (xs : List Value) (d : Nat) (Q : zO → zH → Prop) (J41 : zP → Int64 → Int32 → zH → Prop) (s0 : Int32) (h : zH) : Prop := Q (.inl (some (Value.int s0))) h
theorem zs_154_102 {xs : List Value} {d : Nat} {Q : zO → zH → Prop} {J41 : zP → Int64 → Int32 → zH → Prop} {s0 : Int32} {h : zH} {lv : List (Nat × Value)} (HJ41 : ∀ (l0 : zP) (l1 : Int64) (l4 : Int32)  (h : zH) (lv : List (Nat × Value)), zgetl lv 0 = some (zo l0) → zgetl lv 1 = some (Value.long l1) → zgetl lv 4 = some (Value.int l4) → J41 l0 l1 l4 h → zG xs d (154, 41, lv, []) h Q)  (w : zw_154_102 xs d Q J41 s0 h) : zG xs d (154, 102, lv, [Value.int s0]) h Q := by
  unfold zw_154_102 at w
  exact zR_ri zfe_154_102 zrt_154 w
def zw_154_87 (xs : List Value) (d : Nat) (Q : zO → zH → Prop) (J41 : zP → Int64 → Int32 → zH → Prop) (l0 : zP) (h : zH) : Prop := zGI l0 12 0 h fun x1 => ((x1 = 0 → zGI l0 12 3 h fun x3 => zw_154_102 xs d Q J41 x3 h) ∧ (¬ x1 = 0 → zw_154_102 xs d Q J41 (0 : Int32) h))
theorem zs_154_87 {xs : List Value} {d : Nat} {Q : zO → zH → Prop} {J41 : zP → Int64 → Int32 → zH → Prop} {l0 : zP} {h : zH} {lv : List (Nat × Value)} (HJ41 : ∀ (l0 : zP) (l1 : Int64) (l4 : Int32)  (h : zH) (lv : List (Nat × Value)), zgetl lv 0 = some (zo l0) → zgetl lv 1 = some (Value.long l1) → zgetl lv 4 = some (Value.int l4) → J41 l0 l1 l4 h → zG xs d (154, 41, lv, []) h Q) (g0 : zgetl lv 0 = some (zo l0)) (w : zw_154_87 xs d Q J41 l0 h) : zG xs d (154, 87, lv, []) h Q := by
  unfold zw_154_87 at w
  refine zR_aln zfe_154_87 g0 ?_
  obtain ⟨_, _, x1, hp, ho, hv, w⟩ := w
  refine zR_gf zfe_154_88 zlk_154_144 (by decide) hp ho hv ?_
  refine zG_if 101 zfe_154_91 rfl (fun q => ?_) (fun q => ?_)
  · have w := w.2 q
    refine zG_p zfe_154_101 (zki_0 _) ?_
    exact zs_154_102 HJ41 w
  · have w := w.1 (Decidable.not_not.mp q)
    refine zR_aln zfe_154_94 g0 ?_
    obtain ⟨_, _, x3, hp, ho, hv, w⟩ := w
    refine zR_gf zfe_154_95 zlk_154_419 (by decide) hp ho hv ?_
    refine zG_go 102 zfe_154_98 rfl ?_
    exact zs_154_102 HJ41 w
def zw_154_41 (xs : List Value) (d : Nat) (Q : zO → zH → Prop) (J41 : zP → Int64 → Int32 → zH → Prop) (l0 : zP) (l1 : Int64) (l4 : Int32) (h : zH) : Prop := ((l4 < 0 → zw_154_87 xs d Q J41 l0 h) ∧ (¬ l4 < 0 → zGI l0 12 0 h fun x1 => ((x1 = 0 → zGR l0 12 1 h fun x3 => zGI l0 12 3 h fun x5 => zPF l0 12 3 (Value.int (x5 + (1 : Int32))) h fun h7 => zST 0 x3 x5 (Value.int (((l1 >>> ((((8 : Int32) * l4)).toInt64 &&& 63)) &&& (255 : Int64))).toInt32) h7 fun h8 => ∀ x11 : Int32, x11 = (l4 + (-1 : Int32)) → J41 l0 l1 x11 h8) ∧ (¬ x1 = 0 → zw_154_87 xs d Q J41 l0 h))))
theorem zs_154_41 {xs : List Value} {d : Nat} {Q : zO → zH → Prop} {J41 : zP → Int64 → Int32 → zH → Prop} {l0 : zP} {l1 : Int64} {l4 : Int32} {h : zH} {lv : List (Nat × Value)} (HJ41 : ∀ (l0 : zP) (l1 : Int64) (l4 : Int32)  (h : zH) (lv : List (Nat × Value)), zgetl lv 0 = some (zo l0) → zgetl lv 1 = some (Value.long l1) → zgetl lv 4 = some (Value.int l4) → J41 l0 l1 l4 h → zG xs d (154, 41, lv, []) h Q) (g0 : zgetl lv 0 = some (zo l0)) (g1 : zgetl lv 1 = some (Value.long l1)) (g4 : zgetl lv 4 = some (Value.int l4)) (w : zw_154_41 xs d Q J41 l0 l1 l4 h) : zG xs d (154, 41, lv, []) h Q := by
  unfold zw_154_41 at w
  refine zR_il zfe_154_41 g4 ?_
  refine zG_if 87 zfe_154_43 rfl (fun q => ?_) (fun q => ?_)
  · have w := w.1 q
    exact zs_154_87 HJ41 g0 w
  · have w := w.2 q
    refine zR_aln zfe_154_46 g0 ?_
    obtain ⟨_, _, x1, hp, ho, hv, w⟩ := w
    refine zR_gf zfe_154_47 zlk_154_144 (by decide) hp ho hv ?_
    refine zG_if 87 zfe_154_50 rfl (fun q => ?_) (fun q => ?_)
    · have w := w.2 q
      exact zs_154_87 HJ41 g0 w
    · have w := w.1 (Decidable.not_not.mp q)
      refine zR_aln zfe_154_53 g0 ?_
      obtain ⟨_, _, x3, hp, ho, hv, w⟩ := w
      refine zR_gf zfe_154_54 zlk_154_7 (by decide) hp ho hv ?_
      refine zR_aln zfe_154_57 g0 ?_
      refine zR_dup zfe_154_58 (zo_c _) ?_
      obtain ⟨_, _, x5, hp, ho, hv, w⟩ := w
      refine zR_gf zfe_154_59 zlk_154_419 (by decide) hp ho hv ?_
      refine zR_dx1 zfe_154_62 rfl (zo_c _) ?_
      refine zG_p zfe_154_63 (zki_1 _) ?_
      refine zG_p zfe_154_64 rfl ?_
      obtain ⟨_, _, hp, ho, hj, w⟩ := w
      refine zR_pf zfe_154_65 zlk_154_419 (by decide) hp ho hj (zfit_i zft_12_3) (by decide) rfl ?_
      refine zR_lln zfe_154_68 g1 ?_
      refine zG_p zfe_154_69 (zkb_8 _) ?_
      refine zR_il zfe_154_71 g4 ?_
      refine zG_p zfe_154_73 rfl ?_
      refine zG_p zfe_154_74 rfl ?_
      refine zR_ldc zfe_154_75 zlk_154_422 (v := 255) rfl ?_
      refine zG_p zfe_154_78 rfl ?_
      refine zG_p zfe_154_79 rfl ?_
      obtain ⟨_, _, hp, ho, hj, hv, w⟩ := w
      refine zR_ias zfe_154_80 hp ho hj hv rfl ?_
      refine zR_inc zfe_154_81 znl_154 (by decide) zkn_1 g4 (fun lv10 e9 => ?_)
      replace g0 := zgl_n1 e9 g0 rfl (Or.inl (zo_c _))
      replace g1 := zgl_n1 e9 g1 rfl (Or.inr rfl)
      have g4 := zgl_s1 e9
      have w := w _ rfl
      refine zG_go 41 zfe_154_84 rfl ?_
      exact HJ41 _ _ _ _ _ g0 g1 g4 w
def zw_154_33 (xs : List Value) (d : Nat) (Q : zO → zH → Prop) (J41 : zP → Int64 → Int32 → zH → Prop) (l0 : zP) (l1 : Int64) (l3 : Int32) (s0 : Int32) (s1 : zP) (h : zH) : Prop := zPF s1 12 0 (Value.int s0) h fun h1 => ∀ x4 : Int32, x4 = (l3 - (1 : Int32)) → J41 l0 l1 x4 h1
theorem zs_154_33 {xs : List Value} {d : Nat} {Q : zO → zH → Prop} {J41 : zP → Int64 → Int32 → zH → Prop} {l0 : zP} {l1 : Int64} {l3 : Int32} {s0 : Int32} {s1 : zP} {h : zH} {lv : List (Nat × Value)} (HJ41 : ∀ (l0 : zP) (l1 : Int64) (l4 : Int32)  (h : zH) (lv : List (Nat × Value)), zgetl lv 0 = some (zo l0) → zgetl lv 1 = some (Value.long l1) → zgetl lv 4 = some (Value.int l4) → J41 l0 l1 l4 h → zG xs d (154, 41, lv, []) h Q) (g0 : zgetl lv 0 = some (zo l0)) (g1 : zgetl lv 1 = some (Value.long l1)) (g3 : zgetl lv 3 = some (Value.int l3)) (w : zw_154_33 xs d Q J41 l0 l1 l3 s0 s1 h) : zG xs d (154, 33, lv, [Value.int s0, zo s1]) h Q := by
  unfold zw_154_33 at w
  obtain ⟨_, _, hp, ho, hj, w⟩ := w
  refine zR_pf zfe_154_33 zlk_154_144 (by decide) hp ho hj (zfit_i zft_12_0) (by decide) rfl ?_
  refine zR_iln zfe_154_36 g3 ?_
  refine zG_p zfe_154_37 (zki_1 _) ?_
  refine zG_p zfe_154_38 rfl ?_
  refine zR_is zfe_154_39 znl_154 (by decide) (fun lv3 e2 => ?_)
  replace g0 := zgl_n1 e2 g0 rfl (Or.inl (zo_c _))
  replace g1 := zgl_n1 e2 g1 rfl (Or.inr rfl)
  have g4 := zgl_s1 e2
  have w := w _ rfl
  exact HJ41 _ _ _ _ _ g0 g1 g4 w
def zw_154_12 (xs : List Value) (d : Nat) (Q : zO → zH → Prop) (J41 : zP → Int64 → Int32 → zH → Prop) (l0 : zP) (l1 : Int64) (l3 : Int32) (s0 : zP) (h : zH) : Prop := zw_154_33 xs d Q J41 l0 l1 l3 (1 : Int32) s0 h
theorem zs_154_12 {xs : List Value} {d : Nat} {Q : zO → zH → Prop} {J41 : zP → Int64 → Int32 → zH → Prop} {l0 : zP} {l1 : Int64} {l3 : Int32} {s0 : zP} {h : zH} {lv : List (Nat × Value)} (HJ41 : ∀ (l0 : zP) (l1 : Int64) (l4 : Int32)  (h : zH) (lv : List (Nat × Value)), zgetl lv 0 = some (zo l0) → zgetl lv 1 = some (Value.long l1) → zgetl lv 4 = some (Value.int l4) → J41 l0 l1 l4 h → zG xs d (154, 41, lv, []) h Q) (g0 : zgetl lv 0 = some (zo l0)) (g1 : zgetl lv 1 = some (Value.long l1)) (g3 : zgetl lv 3 = some (Value.int l3)) (w : zw_154_12 xs d Q J41 l0 l1 l3 s0 h) : zG xs d (154, 12, lv, [zo s0]) h Q := by
  unfold zw_154_12 at w
  refine zG_p zfe_154_12 (zki_1 _) ?_
  refine zG_go 33 zfe_154_13 rfl ?_
  exact zs_154_33 HJ41 g0 g1 g3 w
def zw_154_0 (xs : List Value) (d : Nat) (Q : zO → zH → Prop) (J41 : zP → Int64 → Int32 → zH → Prop) (l0 : zP) (l1 : Int64) (l3 : Int32) (h : zH) : Prop := ((l3 < (1 : Int32) → zw_154_12 xs d Q J41 l0 l1 l3 l0 h) ∧ (¬ l3 < (1 : Int32) → (((8 : Int32) < l3 → zw_154_12 xs d Q J41 l0 l1 l3 l0 h) ∧ (¬ (8 : Int32) < l3 → zGI l0 12 3 h fun x1 => (((240 : Int32) < (x1 + l3) → zw_154_33 xs d Q J41 l0 l1 l3 (2 : Int32) l0 h) ∧ (¬ (240 : Int32) < (x1 + l3) → zw_154_33 xs d Q J41 l0 l1 l3 (0 : Int32) l0 h))))))
theorem zs_154_0 {xs : List Value} {d : Nat} {Q : zO → zH → Prop} {J41 : zP → Int64 → Int32 → zH → Prop} {l0 : zP} {l1 : Int64} {l3 : Int32} {h : zH} {lv : List (Nat × Value)} (HJ41 : ∀ (l0 : zP) (l1 : Int64) (l4 : Int32)  (h : zH) (lv : List (Nat × Value)), zgetl lv 0 = some (zo l0) → zgetl lv 1 = some (Value.long l1) → zgetl lv 4 = some (Value.int l4) → J41 l0 l1 l4 h → zG xs d (154, 41, lv, []) h Q) (g0 : zgetl lv 0 = some (zo l0)) (g1 : zgetl lv 1 = some (Value.long l1)) (g3 : zgetl lv 3 = some (Value.int l3)) (w : zw_154_0 xs d Q J41 l0 l1 l3 h) : zG xs d (154, 0, lv, []) h Q := by
  unfold zw_154_0 at w
  refine zR_aln zfe_154_0 g0 ?_
  refine zR_iln zfe_154_1 g3 ?_
  refine zG_p zfe_154_2 (zki_1 _) ?_
  refine zG_ic 12 zfe_154_3 rfl (fun q => ?_) (fun q => ?_)
  · have w := w.1 q
    exact zs_154_12 HJ41 g0 g1 g3 w
  · have w := w.2 q
    refine zR_iln zfe_154_6 g3 ?_
    refine zG_p zfe_154_7 (zkb_8 _) ?_
    refine zG_ic 16 zfe_154_9 rfl (fun q => ?_) (fun q => ?_)
    · have w := w.2 (Int32.not_lt.mpr q)
      refine zR_aln zfe_154_16 g0 ?_
      obtain ⟨_, _, x1, hp, ho, hv, w⟩ := w
      refine zR_gf zfe_154_17 zlk_154_419 (by decide) hp ho hv ?_
      refine zR_iln zfe_154_20 g3 ?_
      refine zG_p zfe_154_21 rfl ?_
      refine zG_p zfe_154_22 (zks_240 _) ?_
      refine zG_ic 32 zfe_154_25 rfl (fun q => ?_) (fun q => ?_)
      · have w := w.2 (Int32.not_lt.mpr q)
        refine zG_p zfe_154_32 (zki_0 _) ?_
        exact zs_154_33 HJ41 g0 g1 g3 w
      · have w := w.1 (Int32.not_le.mp q)
        refine zG_p zfe_154_28 (zki_2 _) ?_
        refine zG_go 33 zfe_154_29 rfl ?_
        exact zs_154_33 HJ41 g0 g1 g3 w
    · have w := w.1 (Int32.not_le.mp q)
      exact zs_154_12 HJ41 g0 g1 g3 w
theorem zl_154 {xs : List Value} {d : Nat} {Q : zO → zH → Prop} (I41 : Nat → zP → Int64 → Int32 → zH → Prop) (k41 : ∀ (n : Nat) (l0 : zP) (l1 : Int64) (l4 : Int32) (h : zH), I41 n l0 l1 l4 h → zw_154_41 xs d Q (fun l0 l1 l4 h => ∃ n1, n1 < n ∧ I41 n1 l0 l1 l4 h) l0 l1 l4 h) : ∀ n : Nat, (∀ (l0 : zP) (l1 : Int64) (l4 : Int32) (h : zH) (lv : List (Nat × Value)), zgetl lv 0 = some (zo l0) → zgetl lv 1 = some (Value.long l1) → zgetl lv 4 = some (Value.int l4) → I41 n l0 l1 l4 h → zG xs d (154, 41, lv, []) h Q) := by
  intro n
  induction n using Nat.strongRecOn with
  | ind n ih =>
    exact fun l0 l1 l4 h lv g0 g1 g2 w => zs_154_41 (fun _ _ _ _ _ g0 g1 g2 w => by obtain ⟨n1, hn, w⟩ := w; exact (ih n1 hn) _ _ _ _ _ g0 g1 g2 w) g0 g1 g2 (k41 n l0 l1 l4 h w)
theorem zm_154 {xs : List Value} {d : Nat} {Q : zO → zH → Prop} {l0 : zP} {l1 : Int64} {l3 : Int32} {h : zH} (I41 : Nat → zP → Int64 → Int32 → zH → Prop) (k41 : ∀ (n : Nat) (l0 : zP) (l1 : Int64) (l4 : Int32) (h : zH), I41 n l0 l1 l4 h → zw_154_41 xs d Q (fun l0 l1 l4 h => ∃ n1, n1 < n ∧ I41 n1 l0 l1 l4 h) l0 l1 l4 h) (w : zw_154_0 xs d Q (fun l0 l1 l4 h => ∃ n1, I41 n1 l0 l1 l4 h) l0 l1 l3 h) : zG xs d (154, 0, lv_args 0 [zo l0, Value.long l1, Value.int l3], []) h Q := zs_154_0 (fun _ _ _ _ _ g0 g1 g2 w => by obtain ⟨n1, w⟩ := w; exact (zl_154 I41 k41 n1) _ _ _ _ _ g0 g1 g2 w) (by cases l0 <;> rfl) (by cases l0 <;> rfl) (by cases l0 <;> rfl) w
-- 155: PactLedgerModel.deploy()I
def zw_155_58 (xs : List Value) (d : Nat) (Q : zO → zH → Prop) (J97 : zP → Int32 → Int32 → Int32 → Int32 → zH → Prop) (J141 : zP → Int32 → Int32 → Int32 → Int32 → zH → Prop) (l0 : zP) (h : zH) : Prop := zCV xs d 156 12 l0 [Value.int (3 : Int32), Value.int (0 : Int32)] h (zKI (fun x1 h2 => Q (.inl (some (Value.int x1))) h2) (fun e h => Q (.inr e) h))
theorem zs_155_58 {xs : List Value} {d : Nat} {Q : zO → zH → Prop} {J97 : zP → Int32 → Int32 → Int32 → Int32 → zH → Prop} {J141 : zP → Int32 → Int32 → Int32 → Int32 → zH → Prop} {l0 : zP} {h : zH} {lv : List (Nat × Value)} (HJ97 : ∀ (l0 : zP) (l1 : Int32) (l2 : Int32) (l3 : Int32) (l4 : Int32)  (h : zH) (lv : List (Nat × Value)), zgetl lv 0 = some (zo l0) → zgetl lv 1 = some (Value.int l1) → zgetl lv 2 = some (Value.int l2) → zgetl lv 3 = some (Value.int l3) → zgetl lv 4 = some (Value.int l4) → J97 l0 l1 l2 l3 l4 h → zG xs d (155, 97, lv, []) h Q) (HJ141 : ∀ (l0 : zP) (l1 : Int32) (l2 : Int32) (l3 : Int32) (l4 : Int32)  (h : zH) (lv : List (Nat × Value)), zgetl lv 0 = some (zo l0) → zgetl lv 1 = some (Value.int l1) → zgetl lv 2 = some (Value.int l2) → zgetl lv 3 = some (Value.int l3) → zgetl lv 4 = some (Value.int l4) → J141 l0 l1 l2 l3 l4 h → zG xs d (155, 141, lv, []) h Q) (g0 : zgetl lv 0 = some (zo l0)) (w : zw_155_58 xs d Q J97 J141 l0 h) : zG xs d (155, 58, lv, []) h Q := by
  unfold zw_155_58 at w
  refine zR_aln zfe_155_58 g0 ?_
  refine zG_p zfe_155_59 (zki_3 _) ?_
  refine zG_p zfe_155_60 (zki_0 _) ?_
  obtain ⟨_, _, hp, ho, w⟩ := w
  refine zR_cv (args := [_, _]) (rest := []) zfe_155_61 zlk_155_427 rfl rfl hp ho rfl (by decide) (zent_of znl_156 (by simp only [List.map_cons, List.map_nil, List.sum_cons, List.sum_nil, zo_c, zci, zcJ]; decide) (by decide)) (zCall_mono w (zA_i (fun x1 h2 w => ?_) (fun e h w => zA_x rfl w)))
  exact zR_ri zfe_155_64 zrt_155 w
def zw_155_251 (xs : List Value) (d : Nat) (Q : zO → zH → Prop) (J97 : zP → Int32 → Int32 → Int32 → Int32 → zH → Prop) (J141 : zP → Int32 → Int32 → Int32 → Int32 → zH → Prop) (l0 : zP) (l2 : Int32) (s0 : Int32) (s1 : Int32) (s2 : zP) (h : zH) : Prop := zST 0 s2 s1 (Value.int s0) h fun h1 => zGR l0 12 63 h1 fun x2 => zGI l0 12 51 h1 fun x4 => zST 0 x2 (((6 : Int32) * l2) + (1 : Int32)) (Value.int x4) h1 fun h6 => zGR l0 12 63 h6 fun x7 => zGI l0 12 52 h6 fun x9 => zST 0 x7 ((6 : Int32) * l2) (Value.int x9) h6 fun h11 => zGI l0 12 53 h11 fun x12 => zPF l0 12 53 (Value.int (x12 + (1 : Int32))) h11 fun h14 => zCV xs d 156 12 l0 [Value.int (0 : Int32), Value.int l2] h14 (zKI (fun x15 h16 => Q (.inl (some (Value.int x15))) h16) (fun e h => Q (.inr e) h))
theorem zs_155_251 {xs : List Value} {d : Nat} {Q : zO → zH → Prop} {J97 : zP → Int32 → Int32 → Int32 → Int32 → zH → Prop} {J141 : zP → Int32 → Int32 → Int32 → Int32 → zH → Prop} {l0 : zP} {l2 : Int32} {s0 : Int32} {s1 : Int32} {s2 : zP} {h : zH} {lv : List (Nat × Value)} (HJ97 : ∀ (l0 : zP) (l1 : Int32) (l2 : Int32) (l3 : Int32) (l4 : Int32)  (h : zH) (lv : List (Nat × Value)), zgetl lv 0 = some (zo l0) → zgetl lv 1 = some (Value.int l1) → zgetl lv 2 = some (Value.int l2) → zgetl lv 3 = some (Value.int l3) → zgetl lv 4 = some (Value.int l4) → J97 l0 l1 l2 l3 l4 h → zG xs d (155, 97, lv, []) h Q) (HJ141 : ∀ (l0 : zP) (l1 : Int32) (l2 : Int32) (l3 : Int32) (l4 : Int32)  (h : zH) (lv : List (Nat × Value)), zgetl lv 0 = some (zo l0) → zgetl lv 1 = some (Value.int l1) → zgetl lv 2 = some (Value.int l2) → zgetl lv 3 = some (Value.int l3) → zgetl lv 4 = some (Value.int l4) → J141 l0 l1 l2 l3 l4 h → zG xs d (155, 141, lv, []) h Q) (g0 : zgetl lv 0 = some (zo l0)) (g2 : zgetl lv 2 = some (Value.int l2)) (w : zw_155_251 xs d Q J97 J141 l0 l2 s0 s1 s2 h) : zG xs d (155, 251, lv, [Value.int s0, Value.int s1, zo s2]) h Q := by
  unfold zw_155_251 at w
  obtain ⟨_, _, hp, ho, hj, hv, w⟩ := w
  refine zR_ias zfe_155_251 hp ho hj hv rfl ?_
  refine zR_aln zfe_155_252 g0 ?_
  obtain ⟨_, _, x2, hp, ho, hv, w⟩ := w
  refine zR_gf zfe_155_253 zlk_155_138 (by decide) hp ho hv ?_
  refine zG_p zfe_155_256 (zkb_6 _) ?_
  refine zR_iln zfe_155_258 g2 ?_
  refine zG_p zfe_155_259 rfl ?_
  refine zG_p zfe_155_260 (zki_1 _) ?_
  refine zG_p zfe_155_261 rfl ?_
  refine zR_aln zfe_155_262 g0 ?_
  obtain ⟨_, _, x4, hp, ho, hv, w⟩ := w
  refine zR_gf zfe_155_263 zlk_155_299 (by decide) hp ho hv ?_
  obtain ⟨_, _, hp, ho, hj, hv, w⟩ := w
  refine zR_ias zfe_155_266 hp ho hj hv rfl ?_
  refine zR_aln zfe_155_267 g0 ?_
  obtain ⟨_, _, x7, hp, ho, hv, w⟩ := w
  refine zR_gf zfe_155_268 zlk_155_138 (by decide) hp ho hv ?_
  refine zG_p zfe_155_271 (zkb_6 _) ?_
  refine zR_iln zfe_155_273 g2 ?_
  refine zG_p zfe_155_274 rfl ?_
  refine zR_aln zfe_155_275 g0 ?_
  obtain ⟨_, _, x9, hp, ho, hv, w⟩ := w
  refine zR_gf zfe_155_276 zlk_155_329 (by decide) hp ho hv ?_
  obtain ⟨_, _, hp, ho, hj, hv, w⟩ := w
  refine zR_ias zfe_155_279 hp ho hj hv rfl ?_
  refine zR_aln zfe_155_280 g0 ?_
  refine zR_dup zfe_155_281 (zo_c _) ?_
  obtain ⟨_, _, x12, hp, ho, hv, w⟩ := w
  refine zR_gf zfe_155_282 zlk_155_424 (by decide) hp ho hv ?_
  refine zG_p zfe_155_285 (zki_1 _) ?_
  refine zG_p zfe_155_286 rfl ?_
  obtain ⟨_, _, hp, ho, hj, w⟩ := w
  refine zR_pf zfe_155_287 zlk_155_424 (by decide) hp ho hj (zfit_i zft_12_53) (by decide) rfl ?_
  refine zR_aln zfe_155_290 g0 ?_
  refine zG_p zfe_155_291 (zki_0 _) ?_
  refine zR_iln zfe_155_292 g2 ?_
  obtain ⟨_, _, hp, ho, w⟩ := w
  refine zR_cv (args := [_, _]) (rest := []) zfe_155_293 zlk_155_427 rfl rfl hp ho rfl (by decide) (zent_of znl_156 (by simp only [List.map_cons, List.map_nil, List.sum_cons, List.sum_nil, zo_c, zci, zcJ]; decide) (by decide)) (zCall_mono w (zA_i (fun x15 h16 w => ?_) (fun e h w => zA_x rfl w)))
  exact zR_ri zfe_155_296 zrt_155 w
def zw_155_141 (xs : List Value) (d : Nat) (Q : zO → zH → Prop) (J97 : zP → Int32 → Int32 → Int32 → Int32 → zH → Prop) (J141 : zP → Int32 → Int32 → Int32 → Int32 → zH → Prop) (l0 : zP) (l1 : Int32) (l2 : Int32) (l3 : Int32) (l4 : Int32) (h : zH) : Prop := ((l4 < l1 → zGR l0 12 1 h fun x22 => zGR l0 12 10 h fun x24 => zIA xs x24 l3 h fun x26 => zGR l0 12 1 h fun x27 => zIA xs x27 l4 h fun x29 => zST 0 x22 ((((1200 : Int32) + ((1860 : Int32) * l2)) + l4) - x26) (Value.int x29) h fun h30 => ∀ x33 : Int32, x33 = (l4 + (1 : Int32)) → J141 l0 l1 l2 l3 x33 h30) ∧ (¬ l4 < l1 → zGR l0 12 61 h fun x1 => zST 0 x1 l2 (Value.int l1) h fun h3 => zGR l0 12 62 h3 fun x4 => zGR l0 12 10 h3 fun x6 => zIA xs x6 l3 h3 fun x8 => zST 0 x4 l2 (Value.int (l1 - x8)) h3 fun h9 => zGR l0 12 63 h9 fun x10 => zGI l0 12 8 h9 fun x12 => zST 0 x10 (((6 : Int32) * l2) + (5 : Int32)) (Value.int (x12 - l3)) h9 fun h14 => zGR l0 12 63 h14 fun x15 => zCV xs d 195 12 l0 [] h14 (zKI (fun x17 h18 => ((x17 = 0 → zw_155_251 xs d Q J97 J141 l0 l2 (-1 : Int32) (((6 : Int32) * l2) + (4 : Int32)) x15 h18) ∧ (¬ x17 = 0 → zGR l0 12 12 h18 fun x19 => zIA xs x19 (l3 + (1 : Int32)) h18 fun x21 => zw_155_251 xs d Q J97 J141 l0 l2 x21 (((6 : Int32) * l2) + (4 : Int32)) x15 h18))) (fun e h => Q (.inr e) h))))
theorem zs_155_141 {xs : List Value} {d : Nat} {Q : zO → zH → Prop} {J97 : zP → Int32 → Int32 → Int32 → Int32 → zH → Prop} {J141 : zP → Int32 → Int32 → Int32 → Int32 → zH → Prop} {l0 : zP} {l1 : Int32} {l2 : Int32} {l3 : Int32} {l4 : Int32} {h : zH} {lv : List (Nat × Value)} (HJ97 : ∀ (l0 : zP) (l1 : Int32) (l2 : Int32) (l3 : Int32) (l4 : Int32)  (h : zH) (lv : List (Nat × Value)), zgetl lv 0 = some (zo l0) → zgetl lv 1 = some (Value.int l1) → zgetl lv 2 = some (Value.int l2) → zgetl lv 3 = some (Value.int l3) → zgetl lv 4 = some (Value.int l4) → J97 l0 l1 l2 l3 l4 h → zG xs d (155, 97, lv, []) h Q) (HJ141 : ∀ (l0 : zP) (l1 : Int32) (l2 : Int32) (l3 : Int32) (l4 : Int32)  (h : zH) (lv : List (Nat × Value)), zgetl lv 0 = some (zo l0) → zgetl lv 1 = some (Value.int l1) → zgetl lv 2 = some (Value.int l2) → zgetl lv 3 = some (Value.int l3) → zgetl lv 4 = some (Value.int l4) → J141 l0 l1 l2 l3 l4 h → zG xs d (155, 141, lv, []) h Q) (g0 : zgetl lv 0 = some (zo l0)) (g1 : zgetl lv 1 = some (Value.int l1)) (g2 : zgetl lv 2 = some (Value.int l2)) (g3 : zgetl lv 3 = some (Value.int l3)) (g4 : zgetl lv 4 = some (Value.int l4)) (w : zw_155_141 xs d Q J97 J141 l0 l1 l2 l3 l4 h) : zG xs d (155, 141, lv, []) h Q := by
  unfold zw_155_141 at w
  refine zR_il zfe_155_141 g4 ?_
  refine zR_iln zfe_155_143 g1 ?_
  refine zG_ic 184 zfe_155_144 rfl (fun q => ?_) (fun q => ?_)
  · have w := w.2 (Int32.not_lt.mpr q)
    refine zR_aln zfe_155_184 g0 ?_
    obtain ⟨_, _, x1, hp, ho, hv, w⟩ := w
    refine zR_gf zfe_155_185 zlk_155_132 (by decide) hp ho hv ?_
    refine zR_iln zfe_155_188 g2 ?_
    refine zR_iln zfe_155_189 g1 ?_
    obtain ⟨_, _, hp, ho, hj, hv, w⟩ := w
    refine zR_ias zfe_155_190 hp ho hj hv rfl ?_
    refine zR_aln zfe_155_191 g0 ?_
    obtain ⟨_, _, x4, hp, ho, hv, w⟩ := w
    refine zR_gf zfe_155_192 zlk_155_135 (by decide) hp ho hv ?_
    refine zR_iln zfe_155_195 g2 ?_
    refine zR_iln zfe_155_196 g1 ?_
    refine zR_aln zfe_155_197 g0 ?_
    obtain ⟨_, _, x6, hp, ho, hv, w⟩ := w
    refine zR_gf zfe_155_198 zlk_155_23 (by decide) hp ho hv ?_
    refine zR_iln zfe_155_201 g3 ?_
    obtain ⟨_, _, _, hp, ho, hj, hv, w⟩ := w
    refine zR_ia zfe_155_202 hp ho hj hv ?_
    refine zG_p zfe_155_203 rfl ?_
    obtain ⟨_, _, hp, ho, hj, hv, w⟩ := w
    refine zR_ias zfe_155_204 hp ho hj hv rfl ?_
    refine zR_aln zfe_155_205 g0 ?_
    obtain ⟨_, _, x10, hp, ho, hv, w⟩ := w
    refine zR_gf zfe_155_206 zlk_155_138 (by decide) hp ho hv ?_
    refine zG_p zfe_155_209 (zkb_6 _) ?_
    refine zR_iln zfe_155_211 g2 ?_
    refine zG_p zfe_155_212 rfl ?_
    refine zG_p zfe_155_213 (zki_5 _) ?_
    refine zG_p zfe_155_214 rfl ?_
    refine zR_aln zfe_155_215 g0 ?_
    obtain ⟨_, _, x12, hp, ho, hv, w⟩ := w
    refine zR_gf zfe_155_216 zlk_155_153 (by decide) hp ho hv ?_
    refine zR_iln zfe_155_219 g3 ?_
    refine zG_p zfe_155_220 rfl ?_
    obtain ⟨_, _, hp, ho, hj, hv, w⟩ := w
    refine zR_ias zfe_155_221 hp ho hj hv rfl ?_
    refine zR_aln zfe_155_222 g0 ?_
    obtain ⟨_, _, x15, hp, ho, hv, w⟩ := w
    refine zR_gf zfe_155_223 zlk_155_138 (by decide) hp ho hv ?_
    refine zG_p zfe_155_226 (zkb_6 _) ?_
    refine zR_iln zfe_155_228 g2 ?_
    refine zG_p zfe_155_229 rfl ?_
    refine zG_p zfe_155_230 (zki_4 _) ?_
    refine zG_p zfe_155_231 rfl ?_
    refine zR_aln zfe_155_232 g0 ?_
    obtain ⟨_, _, hp, ho, w⟩ := w
    refine zR_cv (args := []) (rest := [_, _]) zfe_155_233 zlk_155_416 rfl rfl hp ho rfl (by simp only [List.map_cons, List.map_nil, List.sum_cons, List.sum_nil, zo_c, zci, zcJ]; decide) (zent_of znl_195 (by simp only [List.map_cons, List.map_nil, List.sum_cons, List.sum_nil, zo_c, zci, zcJ]; decide) (by decide)) (zCall_mono w (zA_i (fun x17 h18 w => ?_) (fun e h w => zA_x rfl w)))
    refine zG_if 250 zfe_155_236 rfl (fun q => ?_) (fun q => ?_)
    · have w := w.1 q
      refine zG_p zfe_155_250 (zki_m1 _) ?_
      exact zs_155_251 HJ97 HJ141 g0 g2 w
    · have w := w.2 q
      refine zR_aln zfe_155_239 g0 ?_
      obtain ⟨_, _, x19, hp, ho, hv, w⟩ := w
      refine zR_gf zfe_155_240 zlk_155_29 (by decide) hp ho hv ?_
      refine zR_iln zfe_155_243 g3 ?_
      refine zG_p zfe_155_244 (zki_1 _) ?_
      refine zG_p zfe_155_245 rfl ?_
      obtain ⟨_, _, _, hp, ho, hj, hv, w⟩ := w
      refine zR_ia zfe_155_246 hp ho hj hv ?_
      refine zG_go 251 zfe_155_247 rfl ?_
      exact zs_155_251 HJ97 HJ141 g0 g2 w
  · have w := w.1 (Int32.not_le.mp q)
    refine zR_aln zfe_155_147 g0 ?_
    obtain ⟨_, _, x22, hp, ho, hv, w⟩ := w
    refine zR_gf zfe_155_148 zlk_155_7 (by decide) hp ho hv ?_
    refine zG_p zfe_155_151 (zks_1200 _) ?_
    refine zG_p zfe_155_154 (zks_1860 _) ?_
    refine zR_iln zfe_155_157 g2 ?_
    refine zG_p zfe_155_158 rfl ?_
    refine zG_p zfe_155_159 rfl ?_
    refine zR_il zfe_155_160 g4 ?_
    refine zG_p zfe_155_162 rfl ?_
    refine zR_aln zfe_155_163 g0 ?_
    obtain ⟨_, _, x24, hp, ho, hv, w⟩ := w
    refine zR_gf zfe_155_164 zlk_155_23 (by decide) hp ho hv ?_
    refine zR_iln zfe_155_167 g3 ?_
    obtain ⟨_, _, _, hp, ho, hj, hv, w⟩ := w
    refine zR_ia zfe_155_168 hp ho hj hv ?_
    refine zG_p zfe_155_169 rfl ?_
    refine zR_aln zfe_155_170 g0 ?_
    obtain ⟨_, _, x27, hp, ho, hv, w⟩ := w
    refine zR_gf zfe_155_171 zlk_155_7 (by decide) hp ho hv ?_
    refine zR_il zfe_155_174 g4 ?_
    obtain ⟨_, _, _, hp, ho, hj, hv, w⟩ := w
    refine zR_ia zfe_155_176 hp ho hj hv ?_
    obtain ⟨_, _, hp, ho, hj, hv, w⟩ := w
    refine zR_ias zfe_155_177 hp ho hj hv rfl ?_
    refine zR_inc zfe_155_178 znl_155 (by decide) zkn1 g4 (fun lv32 e31 => ?_)
    replace g0 := zgl_n1 e31 g0 rfl (Or.inl (zo_c _))
    replace g1 := zgl_n1 e31 g1 rfl (Or.inl rfl)
    replace g2 := zgl_n1 e31 g2 rfl (Or.inl rfl)
    replace g3 := zgl_n1 e31 g3 rfl (Or.inl rfl)
    have g4 := zgl_s1 e31
    have w := w _ rfl
    refine zG_go 141 zfe_155_181 rfl ?_
    exact HJ141 _ _ _ _ _ _ _ g0 g1 g2 g3 g4 w
def zw_155_97 (xs : List Value) (d : Nat) (Q : zO → zH → Prop) (J97 : zP → Int32 → Int32 → Int32 → Int32 → zH → Prop) (J141 : zP → Int32 → Int32 → Int32 → Int32 → zH → Prop) (l0 : zP) (l1 : Int32) (l2 : Int32) (l3 : Int32) (l4 : Int32) (h : zH) : Prop := ((l4 < l1 → zGR l0 12 1 h fun x6 => zGR l0 12 1 h fun x8 => zIA xs x8 l4 h fun x10 => zST 0 x6 (((240 : Int32) + ((240 : Int32) * l2)) + l4) (Value.int x10) h fun h11 => ∀ x14 : Int32, x14 = (l4 + (1 : Int32)) → J97 l0 l1 l2 l3 x14 h11) ∧ (¬ l4 < l1 → zGR l0 12 10 h fun x1 => zIA xs x1 l3 h fun x3 => J141 l0 l1 l2 l3 x3 h))
theorem zs_155_97 {xs : List Value} {d : Nat} {Q : zO → zH → Prop} {J97 : zP → Int32 → Int32 → Int32 → Int32 → zH → Prop} {J141 : zP → Int32 → Int32 → Int32 → Int32 → zH → Prop} {l0 : zP} {l1 : Int32} {l2 : Int32} {l3 : Int32} {l4 : Int32} {h : zH} {lv : List (Nat × Value)} (HJ97 : ∀ (l0 : zP) (l1 : Int32) (l2 : Int32) (l3 : Int32) (l4 : Int32)  (h : zH) (lv : List (Nat × Value)), zgetl lv 0 = some (zo l0) → zgetl lv 1 = some (Value.int l1) → zgetl lv 2 = some (Value.int l2) → zgetl lv 3 = some (Value.int l3) → zgetl lv 4 = some (Value.int l4) → J97 l0 l1 l2 l3 l4 h → zG xs d (155, 97, lv, []) h Q) (HJ141 : ∀ (l0 : zP) (l1 : Int32) (l2 : Int32) (l3 : Int32) (l4 : Int32)  (h : zH) (lv : List (Nat × Value)), zgetl lv 0 = some (zo l0) → zgetl lv 1 = some (Value.int l1) → zgetl lv 2 = some (Value.int l2) → zgetl lv 3 = some (Value.int l3) → zgetl lv 4 = some (Value.int l4) → J141 l0 l1 l2 l3 l4 h → zG xs d (155, 141, lv, []) h Q) (g0 : zgetl lv 0 = some (zo l0)) (g1 : zgetl lv 1 = some (Value.int l1)) (g2 : zgetl lv 2 = some (Value.int l2)) (g3 : zgetl lv 3 = some (Value.int l3)) (g4 : zgetl lv 4 = some (Value.int l4)) (w : zw_155_97 xs d Q J97 J141 l0 l1 l2 l3 l4 h) : zG xs d (155, 97, lv, []) h Q := by
  unfold zw_155_97 at w
  refine zR_il zfe_155_97 g4 ?_
  refine zR_iln zfe_155_99 g1 ?_
  refine zG_ic 133 zfe_155_100 rfl (fun q => ?_) (fun q => ?_)
  · have w := w.2 (Int32.not_lt.mpr q)
    refine zR_aln zfe_155_133 g0 ?_
    obtain ⟨_, _, x1, hp, ho, hv, w⟩ := w
    refine zR_gf zfe_155_134 zlk_155_23 (by decide) hp ho hv ?_
    refine zR_iln zfe_155_137 g3 ?_
    obtain ⟨_, _, _, hp, ho, hj, hv, w⟩ := w
    refine zR_ia zfe_155_138 hp ho hj hv ?_
    refine zR_is zfe_155_139 znl_155 (by decide) (fun lv5 e4 => ?_)
    replace g0 := zgl_n1 e4 g0 rfl (Or.inl (zo_c _))
    replace g1 := zgl_n1 e4 g1 rfl (Or.inl rfl)
    replace g2 := zgl_n1 e4 g2 rfl (Or.inl rfl)
    replace g3 := zgl_n1 e4 g3 rfl (Or.inl rfl)
    have g4 := zgl_s1 e4
    exact HJ141 _ _ _ _ _ _ _ g0 g1 g2 g3 g4 w
  · have w := w.1 (Int32.not_le.mp q)
    refine zR_aln zfe_155_103 g0 ?_
    obtain ⟨_, _, x6, hp, ho, hv, w⟩ := w
    refine zR_gf zfe_155_104 zlk_155_7 (by decide) hp ho hv ?_
    refine zG_p zfe_155_107 (zks_240 _) ?_
    refine zG_p zfe_155_110 (zks_240 _) ?_
    refine zR_iln zfe_155_113 g2 ?_
    refine zG_p zfe_155_114 rfl ?_
    refine zG_p zfe_155_115 rfl ?_
    refine zR_il zfe_155_116 g4 ?_
    refine zG_p zfe_155_118 rfl ?_
    refine zR_aln zfe_155_119 g0 ?_
    obtain ⟨_, _, x8, hp, ho, hv, w⟩ := w
    refine zR_gf zfe_155_120 zlk_155_7 (by decide) hp ho hv ?_
    refine zR_il zfe_155_123 g4 ?_
    obtain ⟨_, _, _, hp, ho, hj, hv, w⟩ := w
    refine zR_ia zfe_155_125 hp ho hj hv ?_
    obtain ⟨_, _, hp, ho, hj, hv, w⟩ := w
    refine zR_ias zfe_155_126 hp ho hj hv rfl ?_
    refine zR_inc zfe_155_127 znl_155 (by decide) zkn1 g4 (fun lv13 e12 => ?_)
    replace g0 := zgl_n1 e12 g0 rfl (Or.inl (zo_c _))
    replace g1 := zgl_n1 e12 g1 rfl (Or.inl rfl)
    replace g2 := zgl_n1 e12 g2 rfl (Or.inl rfl)
    replace g3 := zgl_n1 e12 g3 rfl (Or.inl rfl)
    have g4 := zgl_s1 e12
    have w := w _ rfl
    refine zG_go 97 zfe_155_130 rfl ?_
    exact HJ97 _ _ _ _ _ _ _ g0 g1 g2 g3 g4 w
def zw_155_0 (xs : List Value) (d : Nat) (Q : zO → zH → Prop) (J97 : zP → Int32 → Int32 → Int32 → Int32 → zH → Prop) (J141 : zP → Int32 → Int32 → Int32 → Int32 → zH → Prop) (l0 : zP) (h : zH) : Prop := zGI l0 12 3 h fun x1 => zGI l0 12 53 h fun x5 => zPF l0 12 3 (Value.int (0 : Int32)) h fun h9 => ((x5 = (4 : Int32) → zCV xs d 156 12 l0 [Value.int (1 : Int32), Value.int (0 : Int32)] h9 (zKI (fun x33 h34 => Q (.inl (some (Value.int x33))) h34) (fun e h => Q (.inr e) h))) ∧ (¬ x5 = (4 : Int32) → zCV xs d 157 12 l0 [Value.int (0 : Int32), Value.int x1, Value.int (5 : Int32)] h9 (zKI (fun x10 h11 => ((x10 = 0 → zCV xs d 156 12 l0 [Value.int (2 : Int32), Value.int (0 : Int32)] h11 (zKI (fun x31 h32 => Q (.inl (some (Value.int x31))) h32) (fun e h => Q (.inr e) h))) ∧ (¬ x10 = 0 → zCV xs d 161 12 l0 [] h11 (zKI (fun x12 h13 => ((x12 = 0 → zw_155_58 xs d Q J97 J141 l0 h13) ∧ (¬ x12 = 0 → zCV xs d 167 12 l0 [] h13 (zKI (fun x14 h15 => ((x14 = 0 → zw_155_58 xs d Q J97 J141 l0 h15) ∧ (¬ x14 = 0 → zGR l0 12 13 h15 fun x16 => zGI l0 12 57 h15 fun x18 => zIA xs x16 x18 h15 fun x20 => zGI l0 12 56 h15 fun x23 => zCV xs d 182 12 l0 [Value.int x20, Value.int x23] h15 (zKI (fun x25 h26 => ((x25 < 0 → zCV xs d 156 12 l0 [Value.int (3 : Int32), Value.int (0 : Int32)] h26 (zKI (fun x29 h30 => Q (.inl (some (Value.int x29))) h30) (fun e h => Q (.inr e) h))) ∧ (¬ x25 < 0 → J97 l0 x1 x5 x20 (0 : Int32) h26))) (fun e h => Q (.inr e) h))))) (fun e h => Q (.inr e) h))))) (fun e h => Q (.inr e) h))))) (fun e h => Q (.inr e) h))))
theorem zs_155_0 {xs : List Value} {d : Nat} {Q : zO → zH → Prop} {J97 : zP → Int32 → Int32 → Int32 → Int32 → zH → Prop} {J141 : zP → Int32 → Int32 → Int32 → Int32 → zH → Prop} {l0 : zP} {h : zH} {lv : List (Nat × Value)} (HJ97 : ∀ (l0 : zP) (l1 : Int32) (l2 : Int32) (l3 : Int32) (l4 : Int32)  (h : zH) (lv : List (Nat × Value)), zgetl lv 0 = some (zo l0) → zgetl lv 1 = some (Value.int l1) → zgetl lv 2 = some (Value.int l2) → zgetl lv 3 = some (Value.int l3) → zgetl lv 4 = some (Value.int l4) → J97 l0 l1 l2 l3 l4 h → zG xs d (155, 97, lv, []) h Q) (HJ141 : ∀ (l0 : zP) (l1 : Int32) (l2 : Int32) (l3 : Int32) (l4 : Int32)  (h : zH) (lv : List (Nat × Value)), zgetl lv 0 = some (zo l0) → zgetl lv 1 = some (Value.int l1) → zgetl lv 2 = some (Value.int l2) → zgetl lv 3 = some (Value.int l3) → zgetl lv 4 = some (Value.int l4) → J141 l0 l1 l2 l3 l4 h → zG xs d (155, 141, lv, []) h Q) (g0 : zgetl lv 0 = some (zo l0)) (w : zw_155_0 xs d Q J97 J141 l0 h) : zG xs d (155, 0, lv, []) h Q := by
  unfold zw_155_0 at w
  refine zR_aln zfe_155_0 g0 ?_
  obtain ⟨_, _, x1, hp, ho, hv, w⟩ := w
  refine zR_gf zfe_155_1 zlk_155_419 (by decide) hp ho hv ?_
  refine zR_isn zfe_155_4 znl_155 (by decide) (fun lv4 e3 => ?_)
  replace g0 := zgl_n1 e3 g0 rfl (Or.inl (zo_c _))
  have g1 := zgl_s1 e3
  refine zR_aln zfe_155_5 g0 ?_
  obtain ⟨_, _, x5, hp, ho, hv, w⟩ := w
  refine zR_gf zfe_155_6 zlk_155_424 (by decide) hp ho hv ?_
  refine zR_isn zfe_155_9 znl_155 (by decide) (fun lv8 e7 => ?_)
  replace g0 := zgl_n1 e7 g0 rfl (Or.inl (zo_c _))
  replace g1 := zgl_n1 e7 g1 rfl (Or.inl rfl)
  have g2 := zgl_s1 e7
  refine zR_aln zfe_155_10 g0 ?_
  refine zG_p zfe_155_11 (zki_0 _) ?_
  obtain ⟨_, _, hp, ho, hj, w⟩ := w
  refine zR_pf zfe_155_12 zlk_155_419 (by decide) hp ho hj (zfit_i zft_12_3) (by decide) rfl ?_
  refine zR_iln zfe_155_15 g2 ?_
  refine zG_p zfe_155_16 (zki_4 _) ?_
  refine zG_ic 27 zfe_155_17 rfl (fun q => ?_) (fun q => ?_)
  · have w := w.2 q
    refine zR_aln zfe_155_27 g0 ?_
    refine zG_p zfe_155_28 (zki_0 _) ?_
    refine zR_iln zfe_155_29 g1 ?_
    refine zG_p zfe_155_30 (zki_5 _) ?_
    obtain ⟨_, _, hp, ho, w⟩ := w
    refine zR_cv (args := [_, _, _]) (rest := []) zfe_155_31 zlk_155_409 rfl rfl hp ho rfl (by decide) (zent_of znl_157 (by simp only [List.map_cons, List.map_nil, List.sum_cons, List.sum_nil, zo_c, zci, zcJ]; decide) (by decide)) (zCall_mono w (zA_i (fun x10 h11 w => ?_) (fun e h w => zA_x rfl w)))
    refine zG_if 44 zfe_155_34 rfl (fun q => ?_) (fun q => ?_)
    · have w := w.2 q
      refine zR_aln zfe_155_44 g0 ?_
      obtain ⟨_, _, hp, ho, w⟩ := w
      refine zR_cv (args := []) (rest := []) zfe_155_45 zlk_155_412 rfl rfl hp ho rfl (by decide) (zent_of znl_161 (by simp only [List.map_cons, List.map_nil, List.sum_cons, List.sum_nil, zo_c, zci, zcJ]; decide) (by decide)) (zCall_mono w (zA_i (fun x12 h13 w => ?_) (fun e h w => zA_x rfl w)))
      refine zG_if 58 zfe_155_48 rfl (fun q => ?_) (fun q => ?_)
      · have w := w.1 q
        exact zs_155_58 HJ97 HJ141 g0 w
      · have w := w.2 q
        refine zR_aln zfe_155_51 g0 ?_
        obtain ⟨_, _, hp, ho, w⟩ := w
        refine zR_cv (args := []) (rest := []) zfe_155_52 zlk_155_430 rfl rfl hp ho rfl (by decide) (zent_of znl_167 (by simp only [List.map_cons, List.map_nil, List.sum_cons, List.sum_nil, zo_c, zci, zcJ]; decide) (by decide)) (zCall_mono w (zA_i (fun x14 h15 w => ?_) (fun e h w => zA_x rfl w)))
        refine zG_if 65 zfe_155_55 rfl (fun q => ?_) (fun q => ?_)
        · have w := w.2 q
          refine zR_aln zfe_155_65 g0 ?_
          obtain ⟨_, _, x16, hp, ho, hv, w⟩ := w
          refine zR_gf zfe_155_66 zlk_155_32 (by decide) hp ho hv ?_
          refine zR_aln zfe_155_69 g0 ?_
          obtain ⟨_, _, x18, hp, ho, hv, w⟩ := w
          refine zR_gf zfe_155_70 zlk_155_338 (by decide) hp ho hv ?_
          obtain ⟨_, _, _, hp, ho, hj, hv, w⟩ := w
          refine zR_ia zfe_155_73 hp ho hj hv ?_
          refine zR_isn zfe_155_74 znl_155 (by decide) (fun lv22 e21 => ?_)
          replace g0 := zgl_n1 e21 g0 rfl (Or.inl (zo_c _))
          replace g1 := zgl_n1 e21 g1 rfl (Or.inl rfl)
          replace g2 := zgl_n1 e21 g2 rfl (Or.inl rfl)
          have g3 := zgl_s1 e21
          refine zR_aln zfe_155_75 g0 ?_
          refine zR_iln zfe_155_76 g3 ?_
          refine zR_aln zfe_155_77 g0 ?_
          obtain ⟨_, _, x23, hp, ho, hv, w⟩ := w
          refine zR_gf zfe_155_78 zlk_155_335 (by decide) hp ho hv ?_
          obtain ⟨_, _, hp, ho, w⟩ := w
          refine zR_cv (args := [_, _]) (rest := []) zfe_155_81 zlk_155_312 rfl rfl hp ho rfl (by decide) (zent_of znl_182 (by simp only [List.map_cons, List.map_nil, List.sum_cons, List.sum_nil, zo_c, zci, zcJ]; decide) (by decide)) (zCall_mono w (zA_i (fun x25 h26 w => ?_) (fun e h w => zA_x rfl w)))
          refine zG_if 94 zfe_155_84 rfl (fun q => ?_) (fun q => ?_)
          · have w := w.2 (Int32.not_lt.mpr q)
            refine zG_p zfe_155_94 (zki_0 _) ?_
            refine zR_is zfe_155_95 znl_155 (by decide) (fun lv28 e27 => ?_)
            replace g0 := zgl_n1 e27 g0 rfl (Or.inl (zo_c _))
            replace g1 := zgl_n1 e27 g1 rfl (Or.inl rfl)
            replace g2 := zgl_n1 e27 g2 rfl (Or.inl rfl)
            replace g3 := zgl_n1 e27 g3 rfl (Or.inl rfl)
            have g4 := zgl_s1 e27
            exact HJ97 _ _ _ _ _ _ _ g0 g1 g2 g3 g4 w
          · have w := w.1 (Int32.not_le.mp q)
            refine zR_aln zfe_155_87 g0 ?_
            refine zG_p zfe_155_88 (zki_3 _) ?_
            refine zG_p zfe_155_89 (zki_0 _) ?_
            obtain ⟨_, _, hp, ho, w⟩ := w
            refine zR_cv (args := [_, _]) (rest := []) zfe_155_90 zlk_155_427 rfl rfl hp ho rfl (by decide) (zent_of znl_156 (by simp only [List.map_cons, List.map_nil, List.sum_cons, List.sum_nil, zo_c, zci, zcJ]; decide) (by decide)) (zCall_mono w (zA_i (fun x29 h30 w => ?_) (fun e h w => zA_x rfl w)))
            exact zR_ri zfe_155_93 zrt_155 w
        · have w := w.1 (Decidable.not_not.mp q)
          exact zs_155_58 HJ97 HJ141 g0 w
    · have w := w.1 (Decidable.not_not.mp q)
      refine zR_aln zfe_155_37 g0 ?_
      refine zG_p zfe_155_38 (zki_2 _) ?_
      refine zG_p zfe_155_39 (zki_0 _) ?_
      obtain ⟨_, _, hp, ho, w⟩ := w
      refine zR_cv (args := [_, _]) (rest := []) zfe_155_40 zlk_155_427 rfl rfl hp ho rfl (by decide) (zent_of znl_156 (by simp only [List.map_cons, List.map_nil, List.sum_cons, List.sum_nil, zo_c, zci, zcJ]; decide) (by decide)) (zCall_mono w (zA_i (fun x31 h32 w => ?_) (fun e h w => zA_x rfl w)))
      exact zR_ri zfe_155_43 zrt_155 w
  · have w := w.1 (Decidable.not_not.mp q)
    refine zR_aln zfe_155_20 g0 ?_
    refine zG_p zfe_155_21 (zki_1 _) ?_
    refine zG_p zfe_155_22 (zki_0 _) ?_
    obtain ⟨_, _, hp, ho, w⟩ := w
    refine zR_cv (args := [_, _]) (rest := []) zfe_155_23 zlk_155_427 rfl rfl hp ho rfl (by decide) (zent_of znl_156 (by simp only [List.map_cons, List.map_nil, List.sum_cons, List.sum_nil, zo_c, zci, zcJ]; decide) (by decide)) (zCall_mono w (zA_i (fun x33 h34 w => ?_) (fun e h w => zA_x rfl w)))
    exact zR_ri zfe_155_26 zrt_155 w
theorem zl_155 {xs : List Value} {d : Nat} {Q : zO → zH → Prop} (I97 : Nat → zP → Int32 → Int32 → Int32 → Int32 → zH → Prop) (I141 : Nat → zP → Int32 → Int32 → Int32 → Int32 → zH → Prop) (k97 : ∀ (n : Nat) (l0 : zP) (l1 : Int32) (l2 : Int32) (l3 : Int32) (l4 : Int32) (h : zH), I97 n l0 l1 l2 l3 l4 h → zw_155_97 xs d Q (fun l0 l1 l2 l3 l4 h => ∃ n1, n1 < n ∧ I97 n1 l0 l1 l2 l3 l4 h) (fun l0 l1 l2 l3 l4 h => ∃ n1, n1 < n ∧ I141 n1 l0 l1 l2 l3 l4 h) l0 l1 l2 l3 l4 h) (k141 : ∀ (n : Nat) (l0 : zP) (l1 : Int32) (l2 : Int32) (l3 : Int32) (l4 : Int32) (h : zH), I141 n l0 l1 l2 l3 l4 h → zw_155_141 xs d Q (fun l0 l1 l2 l3 l4 h => ∃ n1, n1 < n ∧ I97 n1 l0 l1 l2 l3 l4 h) (fun l0 l1 l2 l3 l4 h => ∃ n1, n1 < n ∧ I141 n1 l0 l1 l2 l3 l4 h) l0 l1 l2 l3 l4 h) : ∀ n : Nat, (∀ (l0 : zP) (l1 : Int32) (l2 : Int32) (l3 : Int32) (l4 : Int32) (h : zH) (lv : List (Nat × Value)), zgetl lv 0 = some (zo l0) → zgetl lv 1 = some (Value.int l1) → zgetl lv 2 = some (Value.int l2) → zgetl lv 3 = some (Value.int l3) → zgetl lv 4 = some (Value.int l4) → I97 n l0 l1 l2 l3 l4 h → zG xs d (155, 97, lv, []) h Q) ∧ (∀ (l0 : zP) (l1 : Int32) (l2 : Int32) (l3 : Int32) (l4 : Int32) (h : zH) (lv : List (Nat × Value)), zgetl lv 0 = some (zo l0) → zgetl lv 1 = some (Value.int l1) → zgetl lv 2 = some (Value.int l2) → zgetl lv 3 = some (Value.int l3) → zgetl lv 4 = some (Value.int l4) → I141 n l0 l1 l2 l3 l4 h → zG xs d (155, 141, lv, []) h Q) := by
  intro n
  induction n using Nat.strongRecOn with
  | ind n ih =>
    exact ⟨fun l0 l1 l2 l3 l4 h lv g0 g1 g2 g3 g4 w => zs_155_97 (fun _ _ _ _ _ _ _ g0 g1 g2 g3 g4 w => by obtain ⟨n1, hn, w⟩ := w; exact (ih n1 hn).1 _ _ _ _ _ _ _ g0 g1 g2 g3 g4 w) (fun _ _ _ _ _ _ _ g0 g1 g2 g3 g4 w => by obtain ⟨n1, hn, w⟩ := w; exact (ih n1 hn).2 _ _ _ _ _ _ _ g0 g1 g2 g3 g4 w) g0 g1 g2 g3 g4 (k97 n l0 l1 l2 l3 l4 h w), fun l0 l1 l2 l3 l4 h lv g0 g1 g2 g3 g4 w => zs_155_141 (fun _ _ _ _ _ _ _ g0 g1 g2 g3 g4 w => by obtain ⟨n1, hn, w⟩ := w; exact (ih n1 hn).1 _ _ _ _ _ _ _ g0 g1 g2 g3 g4 w) (fun _ _ _ _ _ _ _ g0 g1 g2 g3 g4 w => by obtain ⟨n1, hn, w⟩ := w; exact (ih n1 hn).2 _ _ _ _ _ _ _ g0 g1 g2 g3 g4 w) g0 g1 g2 g3 g4 (k141 n l0 l1 l2 l3 l4 h w)⟩
theorem zm_155 {xs : List Value} {d : Nat} {Q : zO → zH → Prop} {l0 : zP} {h : zH} (I97 : Nat → zP → Int32 → Int32 → Int32 → Int32 → zH → Prop) (I141 : Nat → zP → Int32 → Int32 → Int32 → Int32 → zH → Prop) (k97 : ∀ (n : Nat) (l0 : zP) (l1 : Int32) (l2 : Int32) (l3 : Int32) (l4 : Int32) (h : zH), I97 n l0 l1 l2 l3 l4 h → zw_155_97 xs d Q (fun l0 l1 l2 l3 l4 h => ∃ n1, n1 < n ∧ I97 n1 l0 l1 l2 l3 l4 h) (fun l0 l1 l2 l3 l4 h => ∃ n1, n1 < n ∧ I141 n1 l0 l1 l2 l3 l4 h) l0 l1 l2 l3 l4 h) (k141 : ∀ (n : Nat) (l0 : zP) (l1 : Int32) (l2 : Int32) (l3 : Int32) (l4 : Int32) (h : zH), I141 n l0 l1 l2 l3 l4 h → zw_155_141 xs d Q (fun l0 l1 l2 l3 l4 h => ∃ n1, n1 < n ∧ I97 n1 l0 l1 l2 l3 l4 h) (fun l0 l1 l2 l3 l4 h => ∃ n1, n1 < n ∧ I141 n1 l0 l1 l2 l3 l4 h) l0 l1 l2 l3 l4 h) (w : zw_155_0 xs d Q (fun l0 l1 l2 l3 l4 h => ∃ n1, I97 n1 l0 l1 l2 l3 l4 h) (fun l0 l1 l2 l3 l4 h => ∃ n1, I141 n1 l0 l1 l2 l3 l4 h) l0 h) : zG xs d (155, 0, lv_args 0 [zo l0], []) h Q := zs_155_0 (fun _ _ _ _ _ _ _ g0 g1 g2 g3 g4 w => by obtain ⟨n1, w⟩ := w; exact (zl_155 I97 I141 k97 k141 n1).1 _ _ _ _ _ _ _ g0 g1 g2 g3 g4 w) (fun _ _ _ _ _ _ _ g0 g1 g2 g3 g4 w => by obtain ⟨n1, w⟩ := w; exact (zl_155 I97 I141 k97 k141 n1).2 _ _ _ _ _ _ _ g0 g1 g2 g3 g4 w) (by cases l0 <;> rfl) w
-- 156: PactLedgerModel.give(II)I
def zw_156_0 (xs : List Value) (d : Nat) (Q : zO → zH → Prop) (l0 : zP) (l1 : Int32) (l2 : Int32) (h : zH) : Prop := zPF l0 12 0 (Value.int l1) h fun h1 => Q (.inl (some (Value.int l2))) h1
theorem zs_156_0 {xs : List Value} {d : Nat} {Q : zO → zH → Prop} {l0 : zP} {l1 : Int32} {l2 : Int32} {h : zH} {lv : List (Nat × Value)} (g0 : zgetl lv 0 = some (zo l0)) (g1 : zgetl lv 1 = some (Value.int l1)) (g2 : zgetl lv 2 = some (Value.int l2)) (w : zw_156_0 xs d Q l0 l1 l2 h) : zG xs d (156, 0, lv, []) h Q := by
  unfold zw_156_0 at w
  refine zR_aln zfe_156_0 g0 ?_
  refine zR_iln zfe_156_1 g1 ?_
  obtain ⟨_, _, hp, ho, hj, w⟩ := w
  refine zR_pf zfe_156_2 zlk_156_144 (by decide) hp ho hj (zfit_i zft_12_0) (by decide) rfl ?_
  refine zR_iln zfe_156_5 g2 ?_
  exact zR_ri zfe_156_6 zrt_156 w
theorem zm_156 {xs : List Value} {d : Nat} {Q : zO → zH → Prop} {l0 : zP} {l1 : Int32} {l2 : Int32} {h : zH} (w : zw_156_0 xs d Q  l0 l1 l2 h) : zG xs d (156, 0, lv_args 0 [zo l0, Value.int l1, Value.int l2], []) h Q := zs_156_0  (by cases l0 <;> rfl) (by cases l0 <;> rfl) (by cases l0 <;> rfl) w
-- 157: PactLedgerModel.readNodes(III)Z
def zw_157_350 (xs : List Value) (d : Nat) (Q : zO → zH → Prop) (J34 : zP → Int32 → Int32 → Int32 → Int32 → Int32 → zH → Prop) (J215 : zP → Int32 → Int32 → Int32 → Int32 → Int32 → Int32 → Int32 → zH → Prop) (s0 : Int32) (h : zH) : Prop := ((s0 = 0 ∨ s0 = 1) ∧ Q (.inl (some (Value.int s0))) h)
theorem zs_157_350 {xs : List Value} {d : Nat} {Q : zO → zH → Prop} {J34 : zP → Int32 → Int32 → Int32 → Int32 → Int32 → zH → Prop} {J215 : zP → Int32 → Int32 → Int32 → Int32 → Int32 → Int32 → Int32 → zH → Prop} {s0 : Int32} {h : zH} {lv : List (Nat × Value)} (HJ34 : ∀ (l0 : zP) (l3 : Int32) (l4 : Int32) (l5 : Int32) (l6 : Int32) (l7 : Int32)  (h : zH) (lv : List (Nat × Value)), zgetl lv 0 = some (zo l0) → zgetl lv 3 = some (Value.int l3) → zgetl lv 4 = some (Value.int l4) → zgetl lv 5 = some (Value.int l5) → zgetl lv 6 = some (Value.int l6) → zgetl lv 7 = some (Value.int l7) → J34 l0 l3 l4 l5 l6 l7 h → zG xs d (157, 34, lv, []) h Q) (HJ215 : ∀ (l0 : zP) (l3 : Int32) (l4 : Int32) (l5 : Int32) (l6 : Int32) (l7 : Int32) (l9 : Int32) (l10 : Int32)  (h : zH) (lv : List (Nat × Value)), zgetl lv 0 = some (zo l0) → zgetl lv 3 = some (Value.int l3) → zgetl lv 4 = some (Value.int l4) → zgetl lv 5 = some (Value.int l5) → zgetl lv 6 = some (Value.int l6) → zgetl lv 7 = some (Value.int l7) → zgetl lv 9 = some (Value.int l9) → zgetl lv 10 = some (Value.int l10) → J215 l0 l3 l4 l5 l6 l7 l9 l10 h → zG xs d (157, 215, lv, []) h Q)  (w : zw_157_350 xs d Q J34 J215 s0 h) : zG xs d (157, 350, lv, [Value.int s0]) h Q := by
  unfold zw_157_350 at w
  exact zR_rb zfe_157_350 zrt_157 w.1 w.2
def zw_157_345 (xs : List Value) (d : Nat) (Q : zO → zH → Prop) (J34 : zP → Int32 → Int32 → Int32 → Int32 → Int32 → zH → Prop) (J215 : zP → Int32 → Int32 → Int32 → Int32 → Int32 → Int32 → Int32 → zH → Prop)  (h : zH) : Prop := zw_157_350 xs d Q J34 J215 (1 : Int32) h
theorem zs_157_345 {xs : List Value} {d : Nat} {Q : zO → zH → Prop} {J34 : zP → Int32 → Int32 → Int32 → Int32 → Int32 → zH → Prop} {J215 : zP → Int32 → Int32 → Int32 → Int32 → Int32 → Int32 → Int32 → zH → Prop}  {h : zH} {lv : List (Nat × Value)} (HJ34 : ∀ (l0 : zP) (l3 : Int32) (l4 : Int32) (l5 : Int32) (l6 : Int32) (l7 : Int32)  (h : zH) (lv : List (Nat × Value)), zgetl lv 0 = some (zo l0) → zgetl lv 3 = some (Value.int l3) → zgetl lv 4 = some (Value.int l4) → zgetl lv 5 = some (Value.int l5) → zgetl lv 6 = some (Value.int l6) → zgetl lv 7 = some (Value.int l7) → J34 l0 l3 l4 l5 l6 l7 h → zG xs d (157, 34, lv, []) h Q) (HJ215 : ∀ (l0 : zP) (l3 : Int32) (l4 : Int32) (l5 : Int32) (l6 : Int32) (l7 : Int32) (l9 : Int32) (l10 : Int32)  (h : zH) (lv : List (Nat × Value)), zgetl lv 0 = some (zo l0) → zgetl lv 3 = some (Value.int l3) → zgetl lv 4 = some (Value.int l4) → zgetl lv 5 = some (Value.int l5) → zgetl lv 6 = some (Value.int l6) → zgetl lv 7 = some (Value.int l7) → zgetl lv 9 = some (Value.int l9) → zgetl lv 10 = some (Value.int l10) → J215 l0 l3 l4 l5 l6 l7 l9 l10 h → zG xs d (157, 215, lv, []) h Q)  (w : zw_157_345 xs d Q J34 J215 h) : zG xs d (157, 345, lv, []) h Q := by
  unfold zw_157_345 at w
  refine zG_p zfe_157_345 (zki_1 _) ?_
  refine zG_go 350 zfe_157_346 rfl ?_
  exact zs_157_350 HJ34 HJ215 w
def zw_157_327 (xs : List Value) (d : Nat) (Q : zO → zH → Prop) (J34 : zP → Int32 → Int32 → Int32 → Int32 → Int32 → zH → Prop) (J215 : zP → Int32 → Int32 → Int32 → Int32 → Int32 → Int32 → Int32 → zH → Prop) (l0 : zP) (l5 : Int32) (h : zH) : Prop := zGI l0 12 7 h fun x1 => ((l5 = x1 → zw_157_345 xs d Q J34 J215 h) ∧ (¬ l5 = x1 → zCV xs d 158 12 l0 [Value.int l5] h (zKI (fun x3 h4 => ((x3 < 0 → zw_157_350 xs d Q J34 J215 (0 : Int32) h4) ∧ (¬ x3 < 0 → zw_157_345 xs d Q J34 J215 h4))) (fun e h => Q (.inr e) h))))
theorem zs_157_327 {xs : List Value} {d : Nat} {Q : zO → zH → Prop} {J34 : zP → Int32 → Int32 → Int32 → Int32 → Int32 → zH → Prop} {J215 : zP → Int32 → Int32 → Int32 → Int32 → Int32 → Int32 → Int32 → zH → Prop} {l0 : zP} {l5 : Int32} {h : zH} {lv : List (Nat × Value)} (HJ34 : ∀ (l0 : zP) (l3 : Int32) (l4 : Int32) (l5 : Int32) (l6 : Int32) (l7 : Int32)  (h : zH) (lv : List (Nat × Value)), zgetl lv 0 = some (zo l0) → zgetl lv 3 = some (Value.int l3) → zgetl lv 4 = some (Value.int l4) → zgetl lv 5 = some (Value.int l5) → zgetl lv 6 = some (Value.int l6) → zgetl lv 7 = some (Value.int l7) → J34 l0 l3 l4 l5 l6 l7 h → zG xs d (157, 34, lv, []) h Q) (HJ215 : ∀ (l0 : zP) (l3 : Int32) (l4 : Int32) (l5 : Int32) (l6 : Int32) (l7 : Int32) (l9 : Int32) (l10 : Int32)  (h : zH) (lv : List (Nat × Value)), zgetl lv 0 = some (zo l0) → zgetl lv 3 = some (Value.int l3) → zgetl lv 4 = some (Value.int l4) → zgetl lv 5 = some (Value.int l5) → zgetl lv 6 = some (Value.int l6) → zgetl lv 7 = some (Value.int l7) → zgetl lv 9 = some (Value.int l9) → zgetl lv 10 = some (Value.int l10) → J215 l0 l3 l4 l5 l6 l7 l9 l10 h → zG xs d (157, 215, lv, []) h Q) (g0 : zgetl lv 0 = some (zo l0)) (g5 : zgetl lv 5 = some (Value.int l5)) (w : zw_157_327 xs d Q J34 J215 l0 l5 h) : zG xs d (157, 327, lv, []) h Q := by
  unfold zw_157_327 at w
  refine zR_il zfe_157_327 g5 ?_
  refine zR_aln zfe_157_329 g0 ?_
  obtain ⟨_, _, x1, hp, ho, hv, w⟩ := w
  refine zR_gf zfe_157_330 zlk_157_150 (by decide) hp ho hv ?_
  refine zG_ic 345 zfe_157_333 rfl (fun q => ?_) (fun q => ?_)
  · have w := w.1 q
    exact zs_157_345 HJ34 HJ215 w
  · have w := w.2 q
    refine zR_aln zfe_157_336 g0 ?_
    refine zR_il zfe_157_337 g5 ?_
    obtain ⟨_, _, hp, ho, w⟩ := w
    refine zR_cv (args := [_]) (rest := []) zfe_157_339 zlk_157_156 rfl rfl hp ho rfl (by decide) (zent_of znl_158 (by simp only [List.map_cons, List.map_nil, List.sum_cons, List.sum_nil, zo_c, zci, zcJ]; decide) (by decide)) (zCall_mono w (zA_i (fun x3 h4 w => ?_) (fun e h w => zA_x rfl w)))
    refine zG_if 349 zfe_157_342 rfl (fun q => ?_) (fun q => ?_)
    · have w := w.1 q
      refine zG_p zfe_157_349 (zki_0 _) ?_
      exact zs_157_350 HJ34 HJ215 w
    · have w := w.2 q
      exact zs_157_345 HJ34 HJ215 w
def zw_157_104 (xs : List Value) (d : Nat) (Q : zO → zH → Prop) (J34 : zP → Int32 → Int32 → Int32 → Int32 → Int32 → zH → Prop) (J215 : zP → Int32 → Int32 → Int32 → Int32 → Int32 → Int32 → Int32 → zH → Prop) (s0 : Int32) (h : zH) : Prop := ((s0 = 0 ∨ s0 = 1) ∧ Q (.inl (some (Value.int s0))) h)
theorem zs_157_104 {xs : List Value} {d : Nat} {Q : zO → zH → Prop} {J34 : zP → Int32 → Int32 → Int32 → Int32 → Int32 → zH → Prop} {J215 : zP → Int32 → Int32 → Int32 → Int32 → Int32 → Int32 → Int32 → zH → Prop} {s0 : Int32} {h : zH} {lv : List (Nat × Value)} (HJ34 : ∀ (l0 : zP) (l3 : Int32) (l4 : Int32) (l5 : Int32) (l6 : Int32) (l7 : Int32)  (h : zH) (lv : List (Nat × Value)), zgetl lv 0 = some (zo l0) → zgetl lv 3 = some (Value.int l3) → zgetl lv 4 = some (Value.int l4) → zgetl lv 5 = some (Value.int l5) → zgetl lv 6 = some (Value.int l6) → zgetl lv 7 = some (Value.int l7) → J34 l0 l3 l4 l5 l6 l7 h → zG xs d (157, 34, lv, []) h Q) (HJ215 : ∀ (l0 : zP) (l3 : Int32) (l4 : Int32) (l5 : Int32) (l6 : Int32) (l7 : Int32) (l9 : Int32) (l10 : Int32)  (h : zH) (lv : List (Nat × Value)), zgetl lv 0 = some (zo l0) → zgetl lv 3 = some (Value.int l3) → zgetl lv 4 = some (Value.int l4) → zgetl lv 5 = some (Value.int l5) → zgetl lv 6 = some (Value.int l6) → zgetl lv 7 = some (Value.int l7) → zgetl lv 9 = some (Value.int l9) → zgetl lv 10 = some (Value.int l10) → J215 l0 l3 l4 l5 l6 l7 l9 l10 h → zG xs d (157, 215, lv, []) h Q)  (w : zw_157_104 xs d Q J34 J215 s0 h) : zG xs d (157, 104, lv, [Value.int s0]) h Q := by
  unfold zw_157_104 at w
  exact zR_rb zfe_157_104 zrt_157 w.1 w.2
def zw_157_90 (xs : List Value) (d : Nat) (Q : zO → zH → Prop) (J34 : zP → Int32 → Int32 → Int32 → Int32 → Int32 → zH → Prop) (J215 : zP → Int32 → Int32 → Int32 → Int32 → Int32 → Int32 → Int32 → zH → Prop) (l0 : zP) (l5 : Int32) (h : zH) : Prop := zCV xs d 158 12 l0 [Value.int l5] h (zKI (fun x1 h2 => ((x1 < 0 → zw_157_104 xs d Q J34 J215 (0 : Int32) h2) ∧ (¬ x1 < 0 → zw_157_104 xs d Q J34 J215 (1 : Int32) h2))) (fun e h => Q (.inr e) h))
theorem zs_157_90 {xs : List Value} {d : Nat} {Q : zO → zH → Prop} {J34 : zP → Int32 → Int32 → Int32 → Int32 → Int32 → zH → Prop} {J215 : zP → Int32 → Int32 → Int32 → Int32 → Int32 → Int32 → Int32 → zH → Prop} {l0 : zP} {l5 : Int32} {h : zH} {lv : List (Nat × Value)} (HJ34 : ∀ (l0 : zP) (l3 : Int32) (l4 : Int32) (l5 : Int32) (l6 : Int32) (l7 : Int32)  (h : zH) (lv : List (Nat × Value)), zgetl lv 0 = some (zo l0) → zgetl lv 3 = some (Value.int l3) → zgetl lv 4 = some (Value.int l4) → zgetl lv 5 = some (Value.int l5) → zgetl lv 6 = some (Value.int l6) → zgetl lv 7 = some (Value.int l7) → J34 l0 l3 l4 l5 l6 l7 h → zG xs d (157, 34, lv, []) h Q) (HJ215 : ∀ (l0 : zP) (l3 : Int32) (l4 : Int32) (l5 : Int32) (l6 : Int32) (l7 : Int32) (l9 : Int32) (l10 : Int32)  (h : zH) (lv : List (Nat × Value)), zgetl lv 0 = some (zo l0) → zgetl lv 3 = some (Value.int l3) → zgetl lv 4 = some (Value.int l4) → zgetl lv 5 = some (Value.int l5) → zgetl lv 6 = some (Value.int l6) → zgetl lv 7 = some (Value.int l7) → zgetl lv 9 = some (Value.int l9) → zgetl lv 10 = some (Value.int l10) → J215 l0 l3 l4 l5 l6 l7 l9 l10 h → zG xs d (157, 215, lv, []) h Q) (g0 : zgetl lv 0 = some (zo l0)) (g5 : zgetl lv 5 = some (Value.int l5)) (w : zw_157_90 xs d Q J34 J215 l0 l5 h) : zG xs d (157, 90, lv, []) h Q := by
  unfold zw_157_90 at w
  refine zR_aln zfe_157_90 g0 ?_
  refine zR_il zfe_157_91 g5 ?_
  obtain ⟨_, _, hp, ho, w⟩ := w
  refine zR_cv (args := [_]) (rest := []) zfe_157_93 zlk_157_156 rfl rfl hp ho rfl (by decide) (zent_of znl_158 (by simp only [List.map_cons, List.map_nil, List.sum_cons, List.sum_nil, zo_c, zci, zcJ]; decide) (by decide)) (zCall_mono w (zA_i (fun x1 h2 w => ?_) (fun e h w => zA_x rfl w)))
  refine zG_if 103 zfe_157_96 rfl (fun q => ?_) (fun q => ?_)
  · have w := w.1 q
    refine zG_p zfe_157_103 (zki_0 _) ?_
    exact zs_157_104 HJ34 HJ215 w
  · have w := w.2 q
    refine zG_p zfe_157_99 (zki_1 _) ?_
    refine zG_go 104 zfe_157_100 rfl ?_
    exact zs_157_104 HJ34 HJ215 w
def zw_157_318 (xs : List Value) (d : Nat) (Q : zO → zH → Prop) (J34 : zP → Int32 → Int32 → Int32 → Int32 → Int32 → zH → Prop) (J215 : zP → Int32 → Int32 → Int32 → Int32 → Int32 → Int32 → Int32 → zH → Prop) (l0 : zP) (l3 : Int32) (l4 : Int32) (l5 : Int32) (l7 : Int32) (s0 : Int32) (s1 : Int32) (h : zH) : Prop := ∀ x3 : Int32, x3 = (s1 + s0) → ∀ x6 : Int32, x6 = (l7 + (1 : Int32)) → J34 l0 l3 l4 l5 x3 x6 h
theorem zs_157_318 {xs : List Value} {d : Nat} {Q : zO → zH → Prop} {J34 : zP → Int32 → Int32 → Int32 → Int32 → Int32 → zH → Prop} {J215 : zP → Int32 → Int32 → Int32 → Int32 → Int32 → Int32 → Int32 → zH → Prop} {l0 : zP} {l3 : Int32} {l4 : Int32} {l5 : Int32} {l7 : Int32} {s0 : Int32} {s1 : Int32} {h : zH} {lv : List (Nat × Value)} (HJ34 : ∀ (l0 : zP) (l3 : Int32) (l4 : Int32) (l5 : Int32) (l6 : Int32) (l7 : Int32)  (h : zH) (lv : List (Nat × Value)), zgetl lv 0 = some (zo l0) → zgetl lv 3 = some (Value.int l3) → zgetl lv 4 = some (Value.int l4) → zgetl lv 5 = some (Value.int l5) → zgetl lv 6 = some (Value.int l6) → zgetl lv 7 = some (Value.int l7) → J34 l0 l3 l4 l5 l6 l7 h → zG xs d (157, 34, lv, []) h Q) (HJ215 : ∀ (l0 : zP) (l3 : Int32) (l4 : Int32) (l5 : Int32) (l6 : Int32) (l7 : Int32) (l9 : Int32) (l10 : Int32)  (h : zH) (lv : List (Nat × Value)), zgetl lv 0 = some (zo l0) → zgetl lv 3 = some (Value.int l3) → zgetl lv 4 = some (Value.int l4) → zgetl lv 5 = some (Value.int l5) → zgetl lv 6 = some (Value.int l6) → zgetl lv 7 = some (Value.int l7) → zgetl lv 9 = some (Value.int l9) → zgetl lv 10 = some (Value.int l10) → J215 l0 l3 l4 l5 l6 l7 l9 l10 h → zG xs d (157, 215, lv, []) h Q) (g0 : zgetl lv 0 = some (zo l0)) (g3 : zgetl lv 3 = some (Value.int l3)) (g4 : zgetl lv 4 = some (Value.int l4)) (g5 : zgetl lv 5 = some (Value.int l5)) (g7 : zgetl lv 7 = some (Value.int l7)) (w : zw_157_318 xs d Q J34 J215 l0 l3 l4 l5 l7 s0 s1 h) : zG xs d (157, 318, lv, [Value.int s0, Value.int s1]) h Q := by
  unfold zw_157_318 at w
  refine zG_p zfe_157_318 rfl ?_
  refine zR_is zfe_157_319 znl_157 (by decide) (fun lv2 e1 => ?_)
  replace g0 := zgl_n1 e1 g0 rfl (Or.inl (zo_c _))
  replace g3 := zgl_n1 e1 g3 rfl (Or.inl rfl)
  replace g4 := zgl_n1 e1 g4 rfl (Or.inl rfl)
  replace g5 := zgl_n1 e1 g5 rfl (Or.inl rfl)
  replace g7 := zgl_n1 e1 g7 rfl (Or.inl rfl)
  have g6 := zgl_s1 e1
  have w := w _ rfl
  refine zR_inc zfe_157_321 znl_157 (by decide) zkn1 g7 (fun lv5 e4 => ?_)
  replace g0 := zgl_n1 e4 g0 rfl (Or.inl (zo_c _))
  replace g3 := zgl_n1 e4 g3 rfl (Or.inl rfl)
  replace g4 := zgl_n1 e4 g4 rfl (Or.inl rfl)
  replace g5 := zgl_n1 e4 g5 rfl (Or.inl rfl)
  replace g6 := zgl_n1 e4 g6 rfl (Or.inl rfl)
  have g7 := zgl_s1 e4
  have w := w _ rfl
  refine zG_go 34 zfe_157_324 rfl ?_
  exact HJ34 _ _ _ _ _ _ _ _ g0 g3 g4 g5 g6 g7 w
def zw_157_306 (xs : List Value) (d : Nat) (Q : zO → zH → Prop) (J34 : zP → Int32 → Int32 → Int32 → Int32 → Int32 → zH → Prop) (J215 : zP → Int32 → Int32 → Int32 → Int32 → Int32 → Int32 → Int32 → zH → Prop) (l0 : zP) (l3 : Int32) (l4 : Int32) (l5 : Int32) (l6 : Int32) (l7 : Int32) (h : zH) : Prop := ((l4 = 0 → zw_157_318 xs d Q J34 J215 l0 l3 l4 l5 l7 (1 : Int32) l6 h) ∧ (¬ l4 = 0 → zw_157_318 xs d Q J34 J215 l0 l3 l4 l5 l7 (0 : Int32) l6 h))
theorem zs_157_306 {xs : List Value} {d : Nat} {Q : zO → zH → Prop} {J34 : zP → Int32 → Int32 → Int32 → Int32 → Int32 → zH → Prop} {J215 : zP → Int32 → Int32 → Int32 → Int32 → Int32 → Int32 → Int32 → zH → Prop} {l0 : zP} {l3 : Int32} {l4 : Int32} {l5 : Int32} {l6 : Int32} {l7 : Int32} {h : zH} {lv : List (Nat × Value)} (HJ34 : ∀ (l0 : zP) (l3 : Int32) (l4 : Int32) (l5 : Int32) (l6 : Int32) (l7 : Int32)  (h : zH) (lv : List (Nat × Value)), zgetl lv 0 = some (zo l0) → zgetl lv 3 = some (Value.int l3) → zgetl lv 4 = some (Value.int l4) → zgetl lv 5 = some (Value.int l5) → zgetl lv 6 = some (Value.int l6) → zgetl lv 7 = some (Value.int l7) → J34 l0 l3 l4 l5 l6 l7 h → zG xs d (157, 34, lv, []) h Q) (HJ215 : ∀ (l0 : zP) (l3 : Int32) (l4 : Int32) (l5 : Int32) (l6 : Int32) (l7 : Int32) (l9 : Int32) (l10 : Int32)  (h : zH) (lv : List (Nat × Value)), zgetl lv 0 = some (zo l0) → zgetl lv 3 = some (Value.int l3) → zgetl lv 4 = some (Value.int l4) → zgetl lv 5 = some (Value.int l5) → zgetl lv 6 = some (Value.int l6) → zgetl lv 7 = some (Value.int l7) → zgetl lv 9 = some (Value.int l9) → zgetl lv 10 = some (Value.int l10) → J215 l0 l3 l4 l5 l6 l7 l9 l10 h → zG xs d (157, 215, lv, []) h Q) (g0 : zgetl lv 0 = some (zo l0)) (g3 : zgetl lv 3 = some (Value.int l3)) (g4 : zgetl lv 4 = some (Value.int l4)) (g5 : zgetl lv 5 = some (Value.int l5)) (g6 : zgetl lv 6 = some (Value.int l6)) (g7 : zgetl lv 7 = some (Value.int l7)) (w : zw_157_306 xs d Q J34 J215 l0 l3 l4 l5 l6 l7 h) : zG xs d (157, 306, lv, []) h Q := by
  unfold zw_157_306 at w
  refine zR_il zfe_157_306 g6 ?_
  refine zR_il zfe_157_308 g4 ?_
  refine zG_if 317 zfe_157_310 rfl (fun q => ?_) (fun q => ?_)
  · have w := w.2 q
    refine zG_p zfe_157_317 (zki_0 _) ?_
    exact zs_157_318 HJ34 HJ215 g0 g3 g4 g5 g7 w
  · have w := w.1 (Decidable.not_not.mp q)
    refine zG_p zfe_157_313 (zki_1 _) ?_
    refine zG_go 318 zfe_157_314 rfl ?_
    exact zs_157_318 HJ34 HJ215 g0 g3 g4 g5 g7 w
def zw_157_300 (xs : List Value) (d : Nat) (Q : zO → zH → Prop) (J34 : zP → Int32 → Int32 → Int32 → Int32 → Int32 → zH → Prop) (J215 : zP → Int32 → Int32 → Int32 → Int32 → Int32 → Int32 → Int32 → zH → Prop) (l0 : zP) (l3 : Int32) (l4 : Int32) (l5 : Int32) (l6 : Int32) (l7 : Int32) (l9 : Int32) (l10 : Int32) (h : zH) : Prop := ∀ x3 : Int32, x3 = (l10 + (1 : Int32)) → J215 l0 l3 l4 l5 l6 l7 l9 x3 h
theorem zs_157_300 {xs : List Value} {d : Nat} {Q : zO → zH → Prop} {J34 : zP → Int32 → Int32 → Int32 → Int32 → Int32 → zH → Prop} {J215 : zP → Int32 → Int32 → Int32 → Int32 → Int32 → Int32 → Int32 → zH → Prop} {l0 : zP} {l3 : Int32} {l4 : Int32} {l5 : Int32} {l6 : Int32} {l7 : Int32} {l9 : Int32} {l10 : Int32} {h : zH} {lv : List (Nat × Value)} (HJ34 : ∀ (l0 : zP) (l3 : Int32) (l4 : Int32) (l5 : Int32) (l6 : Int32) (l7 : Int32)  (h : zH) (lv : List (Nat × Value)), zgetl lv 0 = some (zo l0) → zgetl lv 3 = some (Value.int l3) → zgetl lv 4 = some (Value.int l4) → zgetl lv 5 = some (Value.int l5) → zgetl lv 6 = some (Value.int l6) → zgetl lv 7 = some (Value.int l7) → J34 l0 l3 l4 l5 l6 l7 h → zG xs d (157, 34, lv, []) h Q) (HJ215 : ∀ (l0 : zP) (l3 : Int32) (l4 : Int32) (l5 : Int32) (l6 : Int32) (l7 : Int32) (l9 : Int32) (l10 : Int32)  (h : zH) (lv : List (Nat × Value)), zgetl lv 0 = some (zo l0) → zgetl lv 3 = some (Value.int l3) → zgetl lv 4 = some (Value.int l4) → zgetl lv 5 = some (Value.int l5) → zgetl lv 6 = some (Value.int l6) → zgetl lv 7 = some (Value.int l7) → zgetl lv 9 = some (Value.int l9) → zgetl lv 10 = some (Value.int l10) → J215 l0 l3 l4 l5 l6 l7 l9 l10 h → zG xs d (157, 215, lv, []) h Q) (g0 : zgetl lv 0 = some (zo l0)) (g3 : zgetl lv 3 = some (Value.int l3)) (g4 : zgetl lv 4 = some (Value.int l4)) (g5 : zgetl lv 5 = some (Value.int l5)) (g6 : zgetl lv 6 = some (Value.int l6)) (g7 : zgetl lv 7 = some (Value.int l7)) (g9 : zgetl lv 9 = some (Value.int l9)) (g10 : zgetl lv 10 = some (Value.int l10)) (w : zw_157_300 xs d Q J34 J215 l0 l3 l4 l5 l6 l7 l9 l10 h) : zG xs d (157, 300, lv, []) h Q := by
  unfold zw_157_300 at w
  refine zR_inc zfe_157_300 znl_157 (by decide) zkn1 g10 (fun lv2 e1 => ?_)
  replace g0 := zgl_n1 e1 g0 rfl (Or.inl (zo_c _))
  replace g3 := zgl_n1 e1 g3 rfl (Or.inl rfl)
  replace g4 := zgl_n1 e1 g4 rfl (Or.inl rfl)
  replace g5 := zgl_n1 e1 g5 rfl (Or.inl rfl)
  replace g6 := zgl_n1 e1 g6 rfl (Or.inl rfl)
  replace g7 := zgl_n1 e1 g7 rfl (Or.inl rfl)
  replace g9 := zgl_n1 e1 g9 rfl (Or.inl rfl)
  have g10 := zgl_s1 e1
  have w := w _ rfl
  refine zG_go 215 zfe_157_303 rfl ?_
  exact HJ215 _ _ _ _ _ _ _ _ _ _ g0 g3 g4 g5 g6 g7 g9 g10 w
def zw_157_276 (xs : List Value) (d : Nat) (Q : zO → zH → Prop) (J34 : zP → Int32 → Int32 → Int32 → Int32 → Int32 → zH → Prop) (J215 : zP → Int32 → Int32 → Int32 → Int32 → Int32 → Int32 → Int32 → zH → Prop) (l0 : zP) (l3 : Int32) (l5 : Int32) (l6 : Int32) (l7 : Int32) (l9 : Int32) (l10 : Int32) (s0 : Int32) (s1 : Int32) (h : zH) : Prop := ∀ x3 : Int32, x3 = (s1 - s0) → ((l9 = 0 → zw_157_300 xs d Q J34 J215 l0 l3 x3 l5 l6 l7 l9 l10 h) ∧ (¬ l9 = 0 → zGR l0 12 13 h fun x4 => zGR l0 12 19 h fun x6 => zIA xs x6 x3 h fun x8 => zGI l0 12 8 h fun x9 => zST 0 x4 x8 (Value.int x9) h fun h11 => zw_157_300 xs d Q J34 J215 l0 l3 x3 l5 l6 l7 l9 l10 h11))
theorem zs_157_276 {xs : List Value} {d : Nat} {Q : zO → zH → Prop} {J34 : zP → Int32 → Int32 → Int32 → Int32 → Int32 → zH → Prop} {J215 : zP → Int32 → Int32 → Int32 → Int32 → Int32 → Int32 → Int32 → zH → Prop} {l0 : zP} {l3 : Int32} {l5 : Int32} {l6 : Int32} {l7 : Int32} {l9 : Int32} {l10 : Int32} {s0 : Int32} {s1 : Int32} {h : zH} {lv : List (Nat × Value)} (HJ34 : ∀ (l0 : zP) (l3 : Int32) (l4 : Int32) (l5 : Int32) (l6 : Int32) (l7 : Int32)  (h : zH) (lv : List (Nat × Value)), zgetl lv 0 = some (zo l0) → zgetl lv 3 = some (Value.int l3) → zgetl lv 4 = some (Value.int l4) → zgetl lv 5 = some (Value.int l5) → zgetl lv 6 = some (Value.int l6) → zgetl lv 7 = some (Value.int l7) → J34 l0 l3 l4 l5 l6 l7 h → zG xs d (157, 34, lv, []) h Q) (HJ215 : ∀ (l0 : zP) (l3 : Int32) (l4 : Int32) (l5 : Int32) (l6 : Int32) (l7 : Int32) (l9 : Int32) (l10 : Int32)  (h : zH) (lv : List (Nat × Value)), zgetl lv 0 = some (zo l0) → zgetl lv 3 = some (Value.int l3) → zgetl lv 4 = some (Value.int l4) → zgetl lv 5 = some (Value.int l5) → zgetl lv 6 = some (Value.int l6) → zgetl lv 7 = some (Value.int l7) → zgetl lv 9 = some (Value.int l9) → zgetl lv 10 = some (Value.int l10) → J215 l0 l3 l4 l5 l6 l7 l9 l10 h → zG xs d (157, 215, lv, []) h Q) (g0 : zgetl lv 0 = some (zo l0)) (g3 : zgetl lv 3 = some (Value.int l3)) (g5 : zgetl lv 5 = some (Value.int l5)) (g6 : zgetl lv 6 = some (Value.int l6)) (g7 : zgetl lv 7 = some (Value.int l7)) (g9 : zgetl lv 9 = some (Value.int l9)) (g10 : zgetl lv 10 = some (Value.int l10)) (w : zw_157_276 xs d Q J34 J215 l0 l3 l5 l6 l7 l9 l10 s0 s1 h) : zG xs d (157, 276, lv, [Value.int s0, Value.int s1]) h Q := by
  unfold zw_157_276 at w
  refine zG_p zfe_157_276 rfl ?_
  refine zR_is zfe_157_277 znl_157 (by decide) (fun lv2 e1 => ?_)
  replace g0 := zgl_n1 e1 g0 rfl (Or.inl (zo_c _))
  replace g3 := zgl_n1 e1 g3 rfl (Or.inl rfl)
  replace g5 := zgl_n1 e1 g5 rfl (Or.inl rfl)
  replace g6 := zgl_n1 e1 g6 rfl (Or.inl rfl)
  replace g7 := zgl_n1 e1 g7 rfl (Or.inl rfl)
  replace g9 := zgl_n1 e1 g9 rfl (Or.inl rfl)
  replace g10 := zgl_n1 e1 g10 rfl (Or.inl rfl)
  have g4 := zgl_s1 e1
  have w := w _ rfl
  refine zR_il zfe_157_279 g9 ?_
  refine zG_if 300 zfe_157_281 rfl (fun q => ?_) (fun q => ?_)
  · have w := w.1 q
    exact zs_157_300 HJ34 HJ215 g0 g3 g4 g5 g6 g7 g9 g10 w
  · have w := w.2 q
    refine zR_aln zfe_157_284 g0 ?_
    obtain ⟨_, _, x4, hp, ho, hv, w⟩ := w
    refine zR_gf zfe_157_285 zlk_157_32 (by decide) hp ho hv ?_
    refine zR_aln zfe_157_288 g0 ?_
    obtain ⟨_, _, x6, hp, ho, hv, w⟩ := w
    refine zR_gf zfe_157_289 zlk_157_51 (by decide) hp ho hv ?_
    refine zR_il zfe_157_292 g4 ?_
    obtain ⟨_, _, _, hp, ho, hj, hv, w⟩ := w
    refine zR_ia zfe_157_294 hp ho hj hv ?_
    refine zR_aln zfe_157_295 g0 ?_
    obtain ⟨_, _, x9, hp, ho, hv, w⟩ := w
    refine zR_gf zfe_157_296 zlk_157_153 (by decide) hp ho hv ?_
    obtain ⟨_, _, hp, ho, hj, hv, w⟩ := w
    refine zR_ias zfe_157_299 hp ho hj hv rfl ?_
    exact zs_157_300 HJ34 HJ215 g0 g3 g4 g5 g6 g7 g9 g10 w
def zw_157_262 (xs : List Value) (d : Nat) (Q : zO → zH → Prop) (J34 : zP → Int32 → Int32 → Int32 → Int32 → Int32 → zH → Prop) (J215 : zP → Int32 → Int32 → Int32 → Int32 → Int32 → Int32 → Int32 → zH → Prop) (l0 : zP) (l3 : Int32) (l4 : Int32) (l5 : Int32) (l6 : Int32) (l7 : Int32) (l10 : Int32) (s0 : Int32) (h : zH) : Prop := ((s0 = 0 → zw_157_276 xs d Q J34 J215 l0 l3 l5 l6 l7 s0 l10 (0 : Int32) l4 h) ∧ (¬ s0 = 0 → zw_157_276 xs d Q J34 J215 l0 l3 l5 l6 l7 s0 l10 (1 : Int32) l4 h))
theorem zs_157_262 {xs : List Value} {d : Nat} {Q : zO → zH → Prop} {J34 : zP → Int32 → Int32 → Int32 → Int32 → Int32 → zH → Prop} {J215 : zP → Int32 → Int32 → Int32 → Int32 → Int32 → Int32 → Int32 → zH → Prop} {l0 : zP} {l3 : Int32} {l4 : Int32} {l5 : Int32} {l6 : Int32} {l7 : Int32} {l10 : Int32} {s0 : Int32} {h : zH} {lv : List (Nat × Value)} (HJ34 : ∀ (l0 : zP) (l3 : Int32) (l4 : Int32) (l5 : Int32) (l6 : Int32) (l7 : Int32)  (h : zH) (lv : List (Nat × Value)), zgetl lv 0 = some (zo l0) → zgetl lv 3 = some (Value.int l3) → zgetl lv 4 = some (Value.int l4) → zgetl lv 5 = some (Value.int l5) → zgetl lv 6 = some (Value.int l6) → zgetl lv 7 = some (Value.int l7) → J34 l0 l3 l4 l5 l6 l7 h → zG xs d (157, 34, lv, []) h Q) (HJ215 : ∀ (l0 : zP) (l3 : Int32) (l4 : Int32) (l5 : Int32) (l6 : Int32) (l7 : Int32) (l9 : Int32) (l10 : Int32)  (h : zH) (lv : List (Nat × Value)), zgetl lv 0 = some (zo l0) → zgetl lv 3 = some (Value.int l3) → zgetl lv 4 = some (Value.int l4) → zgetl lv 5 = some (Value.int l5) → zgetl lv 6 = some (Value.int l6) → zgetl lv 7 = some (Value.int l7) → zgetl lv 9 = some (Value.int l9) → zgetl lv 10 = some (Value.int l10) → J215 l0 l3 l4 l5 l6 l7 l9 l10 h → zG xs d (157, 215, lv, []) h Q) (g0 : zgetl lv 0 = some (zo l0)) (g3 : zgetl lv 3 = some (Value.int l3)) (g4 : zgetl lv 4 = some (Value.int l4)) (g5 : zgetl lv 5 = some (Value.int l5)) (g6 : zgetl lv 6 = some (Value.int l6)) (g7 : zgetl lv 7 = some (Value.int l7)) (g10 : zgetl lv 10 = some (Value.int l10)) (w : zw_157_262 xs d Q J34 J215 l0 l3 l4 l5 l6 l7 l10 s0 h) : zG xs d (157, 262, lv, [Value.int s0]) h Q := by
  unfold zw_157_262 at w
  refine zR_is zfe_157_262 znl_157 (by decide) (fun lv2 e1 => ?_)
  replace g0 := zgl_n1 e1 g0 rfl (Or.inl (zo_c _))
  replace g3 := zgl_n1 e1 g3 rfl (Or.inl rfl)
  replace g4 := zgl_n1 e1 g4 rfl (Or.inl rfl)
  replace g5 := zgl_n1 e1 g5 rfl (Or.inl rfl)
  replace g6 := zgl_n1 e1 g6 rfl (Or.inl rfl)
  replace g7 := zgl_n1 e1 g7 rfl (Or.inl rfl)
  replace g10 := zgl_n1 e1 g10 rfl (Or.inl rfl)
  have g9 := zgl_s1 e1
  refine zR_il zfe_157_264 g4 ?_
  refine zR_il zfe_157_266 g9 ?_
  refine zG_if 275 zfe_157_268 rfl (fun q => ?_) (fun q => ?_)
  · have w := w.1 q
    refine zG_p zfe_157_275 (zki_0 _) ?_
    exact zs_157_276 HJ34 HJ215 g0 g3 g5 g6 g7 g9 g10 w
  · have w := w.2 q
    refine zG_p zfe_157_271 (zki_1 _) ?_
    refine zG_go 276 zfe_157_272 rfl ?_
    exact zs_157_276 HJ34 HJ215 g0 g3 g5 g6 g7 g9 g10 w
def zw_157_215 (xs : List Value) (d : Nat) (Q : zO → zH → Prop) (J34 : zP → Int32 → Int32 → Int32 → Int32 → Int32 → zH → Prop) (J215 : zP → Int32 → Int32 → Int32 → Int32 → Int32 → Int32 → Int32 → zH → Prop) (l0 : zP) (l3 : Int32) (l4 : Int32) (l5 : Int32) (l6 : Int32) (l7 : Int32) (l9 : Int32) (l10 : Int32) (h : zH) : Prop := ((l10 < (10 : Int32) → ((l9 = 0 → zw_157_306 xs d Q J34 J215 l0 l3 l4 l5 l6 l7 h) ∧ (¬ l9 = 0 → ((0 < l4 → zGR l0 12 20 h fun x1 => zIA xs x1 (l4 - (1 : Int32)) h fun x3 => zST 0 x1 (l4 - (1 : Int32)) (Value.int (x3 - (1 : Int32))) h fun h4 => zGR l0 12 20 h4 fun x5 => zIA xs x5 (l4 - (1 : Int32)) h4 fun x7 => ((x7 = 0 → zw_157_262 xs d Q J34 J215 l0 l3 l4 l5 l6 l7 l10 (1 : Int32) h4) ∧ (¬ x7 = 0 → zw_157_262 xs d Q J34 J215 l0 l3 l4 l5 l6 l7 l10 (0 : Int32) h4))) ∧ (¬ 0 < l4 → zw_157_306 xs d Q J34 J215 l0 l3 l4 l5 l6 l7 h))))) ∧ (¬ l10 < (10 : Int32) → zw_157_306 xs d Q J34 J215 l0 l3 l4 l5 l6 l7 h))
theorem zs_157_215 {xs : List Value} {d : Nat} {Q : zO → zH → Prop} {J34 : zP → Int32 → Int32 → Int32 → Int32 → Int32 → zH → Prop} {J215 : zP → Int32 → Int32 → Int32 → Int32 → Int32 → Int32 → Int32 → zH → Prop} {l0 : zP} {l3 : Int32} {l4 : Int32} {l5 : Int32} {l6 : Int32} {l7 : Int32} {l9 : Int32} {l10 : Int32} {h : zH} {lv : List (Nat × Value)} (HJ34 : ∀ (l0 : zP) (l3 : Int32) (l4 : Int32) (l5 : Int32) (l6 : Int32) (l7 : Int32)  (h : zH) (lv : List (Nat × Value)), zgetl lv 0 = some (zo l0) → zgetl lv 3 = some (Value.int l3) → zgetl lv 4 = some (Value.int l4) → zgetl lv 5 = some (Value.int l5) → zgetl lv 6 = some (Value.int l6) → zgetl lv 7 = some (Value.int l7) → J34 l0 l3 l4 l5 l6 l7 h → zG xs d (157, 34, lv, []) h Q) (HJ215 : ∀ (l0 : zP) (l3 : Int32) (l4 : Int32) (l5 : Int32) (l6 : Int32) (l7 : Int32) (l9 : Int32) (l10 : Int32)  (h : zH) (lv : List (Nat × Value)), zgetl lv 0 = some (zo l0) → zgetl lv 3 = some (Value.int l3) → zgetl lv 4 = some (Value.int l4) → zgetl lv 5 = some (Value.int l5) → zgetl lv 6 = some (Value.int l6) → zgetl lv 7 = some (Value.int l7) → zgetl lv 9 = some (Value.int l9) → zgetl lv 10 = some (Value.int l10) → J215 l0 l3 l4 l5 l6 l7 l9 l10 h → zG xs d (157, 215, lv, []) h Q) (g0 : zgetl lv 0 = some (zo l0)) (g3 : zgetl lv 3 = some (Value.int l3)) (g4 : zgetl lv 4 = some (Value.int l4)) (g5 : zgetl lv 5 = some (Value.int l5)) (g6 : zgetl lv 6 = some (Value.int l6)) (g7 : zgetl lv 7 = some (Value.int l7)) (g9 : zgetl lv 9 = some (Value.int l9)) (g10 : zgetl lv 10 = some (Value.int l10)) (w : zw_157_215 xs d Q J34 J215 l0 l3 l4 l5 l6 l7 l9 l10 h) : zG xs d (157, 215, lv, []) h Q := by
  unfold zw_157_215 at w
  refine zR_il zfe_157_215 g10 ?_
  refine zG_p zfe_157_217 (zkb_10 _) ?_
  refine zG_ic 306 zfe_157_219 rfl (fun q => ?_) (fun q => ?_)
  · have w := w.2 (Int32.not_lt.mpr q)
    exact zs_157_306 HJ34 HJ215 g0 g3 g4 g5 g6 g7 w
  · have w := w.1 (Int32.not_le.mp q)
    refine zR_il zfe_157_222 g9 ?_
    refine zG_if 306 zfe_157_224 rfl (fun q => ?_) (fun q => ?_)
    · have w := w.1 q
      exact zs_157_306 HJ34 HJ215 g0 g3 g4 g5 g6 g7 w
    · have w := w.2 q
      refine zR_il zfe_157_227 g4 ?_
      refine zG_if 306 zfe_157_229 rfl (fun q => ?_) (fun q => ?_)
      · have w := w.2 (Int32.not_lt.mpr q)
        exact zs_157_306 HJ34 HJ215 g0 g3 g4 g5 g6 g7 w
      · have w := w.1 (Int32.not_le.mp q)
        refine zR_aln zfe_157_232 g0 ?_
        obtain ⟨_, _, x1, hp, ho, hv, w⟩ := w
        refine zR_gf zfe_157_233 zlk_157_54 (by decide) hp ho hv ?_
        refine zR_il zfe_157_236 g4 ?_
        refine zG_p zfe_157_238 (zki_1 _) ?_
        refine zG_p zfe_157_239 rfl ?_
        refine zR_d2 zfe_157_240 rfl (zo_c _) ?_
        obtain ⟨_, _, _, hp, ho, hj, hv, w⟩ := w
        refine zR_ia zfe_157_241 hp ho hj hv ?_
        refine zG_p zfe_157_242 (zki_1 _) ?_
        refine zG_p zfe_157_243 rfl ?_
        obtain ⟨_, _, hp, ho, hj, hv, w⟩ := w
        refine zR_ias zfe_157_244 hp ho hj hv rfl ?_
        refine zR_aln zfe_157_245 g0 ?_
        obtain ⟨_, _, x5, hp, ho, hv, w⟩ := w
        refine zR_gf zfe_157_246 zlk_157_54 (by decide) hp ho hv ?_
        refine zR_il zfe_157_249 g4 ?_
        refine zG_p zfe_157_251 (zki_1 _) ?_
        refine zG_p zfe_157_252 rfl ?_
        obtain ⟨_, _, _, hp, ho, hj, hv, w⟩ := w
        refine zR_ia zfe_157_253 hp ho hj hv ?_
        refine zG_if 261 zfe_157_254 rfl (fun q => ?_) (fun q => ?_)
        · have w := w.2 q
          refine zG_p zfe_157_261 (zki_0 _) ?_
          exact zs_157_262 HJ34 HJ215 g0 g3 g4 g5 g6 g7 g10 w
        · have w := w.1 (Decidable.not_not.mp q)
          refine zG_p zfe_157_257 (zki_1 _) ?_
          refine zG_go 262 zfe_157_258 rfl ?_
          exact zs_157_262 HJ34 HJ215 g0 g3 g4 g5 g6 g7 g10 w
def zw_157_206 (xs : List Value) (d : Nat) (Q : zO → zH → Prop) (J34 : zP → Int32 → Int32 → Int32 → Int32 → Int32 → zH → Prop) (J215 : zP → Int32 → Int32 → Int32 → Int32 → Int32 → Int32 → Int32 → zH → Prop) (l0 : zP) (l3 : Int32) (l5 : Int32) (l6 : Int32) (l7 : Int32) (s0 : Int32) (s1 : Int32) (h : zH) : Prop := ∀ x3 : Int32, x3 = (s1 + s0) → J215 l0 l3 x3 l5 l6 l7 (1 : Int32) (0 : Int32) h
theorem zs_157_206 {xs : List Value} {d : Nat} {Q : zO → zH → Prop} {J34 : zP → Int32 → Int32 → Int32 → Int32 → Int32 → zH → Prop} {J215 : zP → Int32 → Int32 → Int32 → Int32 → Int32 → Int32 → Int32 → zH → Prop} {l0 : zP} {l3 : Int32} {l5 : Int32} {l6 : Int32} {l7 : Int32} {s0 : Int32} {s1 : Int32} {h : zH} {lv : List (Nat × Value)} (HJ34 : ∀ (l0 : zP) (l3 : Int32) (l4 : Int32) (l5 : Int32) (l6 : Int32) (l7 : Int32)  (h : zH) (lv : List (Nat × Value)), zgetl lv 0 = some (zo l0) → zgetl lv 3 = some (Value.int l3) → zgetl lv 4 = some (Value.int l4) → zgetl lv 5 = some (Value.int l5) → zgetl lv 6 = some (Value.int l6) → zgetl lv 7 = some (Value.int l7) → J34 l0 l3 l4 l5 l6 l7 h → zG xs d (157, 34, lv, []) h Q) (HJ215 : ∀ (l0 : zP) (l3 : Int32) (l4 : Int32) (l5 : Int32) (l6 : Int32) (l7 : Int32) (l9 : Int32) (l10 : Int32)  (h : zH) (lv : List (Nat × Value)), zgetl lv 0 = some (zo l0) → zgetl lv 3 = some (Value.int l3) → zgetl lv 4 = some (Value.int l4) → zgetl lv 5 = some (Value.int l5) → zgetl lv 6 = some (Value.int l6) → zgetl lv 7 = some (Value.int l7) → zgetl lv 9 = some (Value.int l9) → zgetl lv 10 = some (Value.int l10) → J215 l0 l3 l4 l5 l6 l7 l9 l10 h → zG xs d (157, 215, lv, []) h Q) (g0 : zgetl lv 0 = some (zo l0)) (g3 : zgetl lv 3 = some (Value.int l3)) (g5 : zgetl lv 5 = some (Value.int l5)) (g6 : zgetl lv 6 = some (Value.int l6)) (g7 : zgetl lv 7 = some (Value.int l7)) (w : zw_157_206 xs d Q J34 J215 l0 l3 l5 l6 l7 s0 s1 h) : zG xs d (157, 206, lv, [Value.int s0, Value.int s1]) h Q := by
  unfold zw_157_206 at w
  refine zG_p zfe_157_206 rfl ?_
  refine zR_is zfe_157_207 znl_157 (by decide) (fun lv2 e1 => ?_)
  replace g0 := zgl_n1 e1 g0 rfl (Or.inl (zo_c _))
  replace g3 := zgl_n1 e1 g3 rfl (Or.inl rfl)
  replace g5 := zgl_n1 e1 g5 rfl (Or.inl rfl)
  replace g6 := zgl_n1 e1 g6 rfl (Or.inl rfl)
  replace g7 := zgl_n1 e1 g7 rfl (Or.inl rfl)
  have g4 := zgl_s1 e1
  have w := w _ rfl
  refine zG_p zfe_157_209 (zki_1 _) ?_
  refine zR_is zfe_157_210 znl_157 (by decide) (fun lv5 e4 => ?_)
  replace g0 := zgl_n1 e4 g0 rfl (Or.inl (zo_c _))
  replace g3 := zgl_n1 e4 g3 rfl (Or.inl rfl)
  replace g4 := zgl_n1 e4 g4 rfl (Or.inl rfl)
  replace g5 := zgl_n1 e4 g5 rfl (Or.inl rfl)
  replace g6 := zgl_n1 e4 g6 rfl (Or.inl rfl)
  replace g7 := zgl_n1 e4 g7 rfl (Or.inl rfl)
  have g9 := zgl_s1 e4
  refine zG_p zfe_157_212 (zki_0 _) ?_
  refine zR_is zfe_157_213 znl_157 (by decide) (fun lv7 e6 => ?_)
  replace g0 := zgl_n1 e6 g0 rfl (Or.inl (zo_c _))
  replace g3 := zgl_n1 e6 g3 rfl (Or.inl rfl)
  replace g4 := zgl_n1 e6 g4 rfl (Or.inl rfl)
  replace g5 := zgl_n1 e6 g5 rfl (Or.inl rfl)
  replace g6 := zgl_n1 e6 g6 rfl (Or.inl rfl)
  replace g7 := zgl_n1 e6 g7 rfl (Or.inl rfl)
  replace g9 := zgl_n1 e6 g9 rfl (Or.inl rfl)
  have g10 := zgl_s1 e6
  exact HJ215 _ _ _ _ _ _ _ _ _ _ g0 g3 g4 g5 g6 g7 g9 g10 w
def zw_157_135 (xs : List Value) (d : Nat) (Q : zO → zH → Prop) (J34 : zP → Int32 → Int32 → Int32 → Int32 → Int32 → zH → Prop) (J215 : zP → Int32 → Int32 → Int32 → Int32 → Int32 → Int32 → Int32 → zH → Prop) (l0 : zP) (l3 : Int32) (l4 : Int32) (l5 : Int32) (l6 : Int32) (l7 : Int32) (l8 : Int32) (s0 : Int32) (s1 : Int32) (s2 : zP) (h : zH) : Prop := zST 0 s2 s1 (Value.int s0) h fun h1 => zCV xs d 159 12 l0 [Value.int l8, Value.int l5] h1 (zKI (fun x2 h3 => ((x2 < 0 → (((0 : Int32) = 0 ∨ (0 : Int32) = 1) ∧ Q (.inl (some (Value.int (0 : Int32)))) h3)) ∧ (¬ x2 < 0 → zGR l0 12 13 h3 fun x6 => zGI l0 12 8 h3 fun x8 => zST 0 x6 l8 (Value.int x8) h3 fun h10 => zGR l0 12 19 h10 fun x11 => zST 0 x11 l4 (Value.int l8) h10 fun h13 => zGR l0 12 20 h13 fun x14 => zGR l0 12 12 h13 fun x16 => zIA xs x16 l8 h13 fun x18 => zST 0 x14 l4 (Value.int (x18 + (1 : Int32))) h13 fun h19 => zGR l0 12 12 h19 fun x20 => zIA xs x20 l8 h19 fun x22 => ((0 < x22 → zw_157_206 xs d Q J34 J215 l0 l3 x2 l6 l7 (1 : Int32) l4 h19) ∧ (¬ 0 < x22 → zw_157_206 xs d Q J34 J215 l0 l3 x2 l6 l7 (0 : Int32) l4 h19))))) (fun e h => Q (.inr e) h))
theorem zs_157_135 {xs : List Value} {d : Nat} {Q : zO → zH → Prop} {J34 : zP → Int32 → Int32 → Int32 → Int32 → Int32 → zH → Prop} {J215 : zP → Int32 → Int32 → Int32 → Int32 → Int32 → Int32 → Int32 → zH → Prop} {l0 : zP} {l3 : Int32} {l4 : Int32} {l5 : Int32} {l6 : Int32} {l7 : Int32} {l8 : Int32} {s0 : Int32} {s1 : Int32} {s2 : zP} {h : zH} {lv : List (Nat × Value)} (HJ34 : ∀ (l0 : zP) (l3 : Int32) (l4 : Int32) (l5 : Int32) (l6 : Int32) (l7 : Int32)  (h : zH) (lv : List (Nat × Value)), zgetl lv 0 = some (zo l0) → zgetl lv 3 = some (Value.int l3) → zgetl lv 4 = some (Value.int l4) → zgetl lv 5 = some (Value.int l5) → zgetl lv 6 = some (Value.int l6) → zgetl lv 7 = some (Value.int l7) → J34 l0 l3 l4 l5 l6 l7 h → zG xs d (157, 34, lv, []) h Q) (HJ215 : ∀ (l0 : zP) (l3 : Int32) (l4 : Int32) (l5 : Int32) (l6 : Int32) (l7 : Int32) (l9 : Int32) (l10 : Int32)  (h : zH) (lv : List (Nat × Value)), zgetl lv 0 = some (zo l0) → zgetl lv 3 = some (Value.int l3) → zgetl lv 4 = some (Value.int l4) → zgetl lv 5 = some (Value.int l5) → zgetl lv 6 = some (Value.int l6) → zgetl lv 7 = some (Value.int l7) → zgetl lv 9 = some (Value.int l9) → zgetl lv 10 = some (Value.int l10) → J215 l0 l3 l4 l5 l6 l7 l9 l10 h → zG xs d (157, 215, lv, []) h Q) (g0 : zgetl lv 0 = some (zo l0)) (g3 : zgetl lv 3 = some (Value.int l3)) (g4 : zgetl lv 4 = some (Value.int l4)) (g5 : zgetl lv 5 = some (Value.int l5)) (g6 : zgetl lv 6 = some (Value.int l6)) (g7 : zgetl lv 7 = some (Value.int l7)) (g8 : zgetl lv 8 = some (Value.int l8)) (w : zw_157_135 xs d Q J34 J215 l0 l3 l4 l5 l6 l7 l8 s0 s1 s2 h) : zG xs d (157, 135, lv, [Value.int s0, Value.int s1, zo s2]) h Q := by
  unfold zw_157_135 at w
  obtain ⟨_, _, hp, ho, hj, hv, w⟩ := w
  refine zR_ias zfe_157_135 hp ho hj hv rfl ?_
  refine zR_aln zfe_157_136 g0 ?_
  refine zR_il zfe_157_137 g8 ?_
  refine zR_il zfe_157_139 g5 ?_
  obtain ⟨_, _, hp, ho, w⟩ := w
  refine zR_cv (args := [_, _]) (rest := []) zfe_157_141 zlk_157_160 rfl rfl hp ho rfl (by decide) (zent_of znl_159 (by simp only [List.map_cons, List.map_nil, List.sum_cons, List.sum_nil, zo_c, zci, zcJ]; decide) (by decide)) (zCall_mono w (zA_i (fun x2 h3 w => ?_) (fun e h w => zA_x rfl w)))
  refine zR_is zfe_157_144 znl_157 (by decide) (fun lv5 e4 => ?_)
  replace g0 := zgl_n1 e4 g0 rfl (Or.inl (zo_c _))
  replace g3 := zgl_n1 e4 g3 rfl (Or.inl rfl)
  replace g4 := zgl_n1 e4 g4 rfl (Or.inl rfl)
  replace g6 := zgl_n1 e4 g6 rfl (Or.inl rfl)
  replace g7 := zgl_n1 e4 g7 rfl (Or.inl rfl)
  replace g8 := zgl_n1 e4 g8 rfl (Or.inl rfl)
  have g5 := zgl_s1 e4
  refine zR_il zfe_157_146 g5 ?_
  refine zG_if 153 zfe_157_148 rfl (fun q => ?_) (fun q => ?_)
  · have w := w.2 (Int32.not_lt.mpr q)
    refine zR_aln zfe_157_153 g0 ?_
    obtain ⟨_, _, x6, hp, ho, hv, w⟩ := w
    refine zR_gf zfe_157_154 zlk_157_32 (by decide) hp ho hv ?_
    refine zR_il zfe_157_157 g8 ?_
    refine zR_aln zfe_157_159 g0 ?_
    obtain ⟨_, _, x8, hp, ho, hv, w⟩ := w
    refine zR_gf zfe_157_160 zlk_157_153 (by decide) hp ho hv ?_
    obtain ⟨_, _, hp, ho, hj, hv, w⟩ := w
    refine zR_ias zfe_157_163 hp ho hj hv rfl ?_
    refine zR_aln zfe_157_164 g0 ?_
    obtain ⟨_, _, x11, hp, ho, hv, w⟩ := w
    refine zR_gf zfe_157_165 zlk_157_51 (by decide) hp ho hv ?_
    refine zR_il zfe_157_168 g4 ?_
    refine zR_il zfe_157_170 g8 ?_
    obtain ⟨_, _, hp, ho, hj, hv, w⟩ := w
    refine zR_ias zfe_157_172 hp ho hj hv rfl ?_
    refine zR_aln zfe_157_173 g0 ?_
    obtain ⟨_, _, x14, hp, ho, hv, w⟩ := w
    refine zR_gf zfe_157_174 zlk_157_54 (by decide) hp ho hv ?_
    refine zR_il zfe_157_177 g4 ?_
    refine zR_aln zfe_157_179 g0 ?_
    obtain ⟨_, _, x16, hp, ho, hv, w⟩ := w
    refine zR_gf zfe_157_180 zlk_157_29 (by decide) hp ho hv ?_
    refine zR_il zfe_157_183 g8 ?_
    obtain ⟨_, _, _, hp, ho, hj, hv, w⟩ := w
    refine zR_ia zfe_157_185 hp ho hj hv ?_
    refine zG_p zfe_157_186 (zki_1 _) ?_
    refine zG_p zfe_157_187 rfl ?_
    obtain ⟨_, _, hp, ho, hj, hv, w⟩ := w
    refine zR_ias zfe_157_188 hp ho hj hv rfl ?_
    refine zR_il zfe_157_189 g4 ?_
    refine zR_aln zfe_157_191 g0 ?_
    obtain ⟨_, _, x20, hp, ho, hv, w⟩ := w
    refine zR_gf zfe_157_192 zlk_157_29 (by decide) hp ho hv ?_
    refine zR_il zfe_157_195 g8 ?_
    obtain ⟨_, _, _, hp, ho, hj, hv, w⟩ := w
    refine zR_ia zfe_157_197 hp ho hj hv ?_
    refine zG_if 205 zfe_157_198 rfl (fun q => ?_) (fun q => ?_)
    · have w := w.2 (Int32.not_lt.mpr q)
      refine zG_p zfe_157_205 (zki_0 _) ?_
      exact zs_157_206 HJ34 HJ215 g0 g3 g5 g6 g7 w
    · have w := w.1 (Int32.not_le.mp q)
      refine zG_p zfe_157_201 (zki_1 _) ?_
      refine zG_go 206 zfe_157_202 rfl ?_
      exact zs_157_206 HJ34 HJ215 g0 g3 g5 g6 g7 w
  · have w := w.1 (Int32.not_le.mp q)
    refine zG_p zfe_157_151 (zki_0 _) ?_
    exact zR_rb zfe_157_152 zrt_157 w.1 w.2
def zw_157_73 (xs : List Value) (d : Nat) (Q : zO → zH → Prop) (J34 : zP → Int32 → Int32 → Int32 → Int32 → Int32 → zH → Prop) (J215 : zP → Int32 → Int32 → Int32 → Int32 → Int32 → Int32 → Int32 → zH → Prop) (s0 : Int32) (h : zH) : Prop := ((s0 = 0 ∨ s0 = 1) ∧ Q (.inl (some (Value.int s0))) h)
theorem zs_157_73 {xs : List Value} {d : Nat} {Q : zO → zH → Prop} {J34 : zP → Int32 → Int32 → Int32 → Int32 → Int32 → zH → Prop} {J215 : zP → Int32 → Int32 → Int32 → Int32 → Int32 → Int32 → Int32 → zH → Prop} {s0 : Int32} {h : zH} {lv : List (Nat × Value)} (HJ34 : ∀ (l0 : zP) (l3 : Int32) (l4 : Int32) (l5 : Int32) (l6 : Int32) (l7 : Int32)  (h : zH) (lv : List (Nat × Value)), zgetl lv 0 = some (zo l0) → zgetl lv 3 = some (Value.int l3) → zgetl lv 4 = some (Value.int l4) → zgetl lv 5 = some (Value.int l5) → zgetl lv 6 = some (Value.int l6) → zgetl lv 7 = some (Value.int l7) → J34 l0 l3 l4 l5 l6 l7 h → zG xs d (157, 34, lv, []) h Q) (HJ215 : ∀ (l0 : zP) (l3 : Int32) (l4 : Int32) (l5 : Int32) (l6 : Int32) (l7 : Int32) (l9 : Int32) (l10 : Int32)  (h : zH) (lv : List (Nat × Value)), zgetl lv 0 = some (zo l0) → zgetl lv 3 = some (Value.int l3) → zgetl lv 4 = some (Value.int l4) → zgetl lv 5 = some (Value.int l5) → zgetl lv 6 = some (Value.int l6) → zgetl lv 7 = some (Value.int l7) → zgetl lv 9 = some (Value.int l9) → zgetl lv 10 = some (Value.int l10) → J215 l0 l3 l4 l5 l6 l7 l9 l10 h → zG xs d (157, 215, lv, []) h Q)  (w : zw_157_73 xs d Q J34 J215 s0 h) : zG xs d (157, 73, lv, [Value.int s0]) h Q := by
  unfold zw_157_73 at w
  exact zR_rb zfe_157_73 zrt_157 w.1 w.2
def zw_157_34 (xs : List Value) (d : Nat) (Q : zO → zH → Prop) (J34 : zP → Int32 → Int32 → Int32 → Int32 → Int32 → zH → Prop) (J215 : zP → Int32 → Int32 → Int32 → Int32 → Int32 → Int32 → Int32 → zH → Prop) (l0 : zP) (l3 : Int32) (l4 : Int32) (l5 : Int32) (l6 : Int32) (l7 : Int32) (h : zH) : Prop := ((l7 < (300 : Int32) → ((l6 < l3 → zGI l0 12 7 h fun x1 => ((l5 < x1 → ((l4 = (9 : Int32) → zw_157_90 xs d Q J34 J215 l0 l5 h) ∧ (¬ l4 = (9 : Int32) → zGI l0 12 8 h fun x3 => ((x3 = (100 : Int32) → zw_157_90 xs d Q J34 J215 l0 l5 h) ∧ (¬ x3 = (100 : Int32) → zGI l0 12 8 h fun x5 => zGR l0 12 14 h fun x9 => ((l4 = 0 → zw_157_135 xs d Q J34 J215 l0 l3 l4 l5 l6 l7 x5 (-1 : Int32) x5 x9 h) ∧ (¬ l4 = 0 → zGR l0 12 19 h fun x11 => zIA xs x11 (l4 - (1 : Int32)) h fun x13 => zw_157_135 xs d Q J34 J215 l0 l3 l4 l5 l6 l7 x5 x13 x5 x9 h))))))) ∧ (¬ l5 < x1 → zGI l0 12 7 h fun x14 => zCV xs d 158 12 l0 [Value.int x14] h (zKI (fun x16 h17 => ((x16 < 0 → zw_157_73 xs d Q J34 J215 (0 : Int32) h17) ∧ (¬ x16 < 0 → zw_157_73 xs d Q J34 J215 (1 : Int32) h17))) (fun e h => Q (.inr e) h))))) ∧ (¬ l6 < l3 → zw_157_327 xs d Q J34 J215 l0 l5 h))) ∧ (¬ l7 < (300 : Int32) → zw_157_327 xs d Q J34 J215 l0 l5 h))
theorem zs_157_34 {xs : List Value} {d : Nat} {Q : zO → zH → Prop} {J34 : zP → Int32 → Int32 → Int32 → Int32 → Int32 → zH → Prop} {J215 : zP → Int32 → Int32 → Int32 → Int32 → Int32 → Int32 → Int32 → zH → Prop} {l0 : zP} {l3 : Int32} {l4 : Int32} {l5 : Int32} {l6 : Int32} {l7 : Int32} {h : zH} {lv : List (Nat × Value)} (HJ34 : ∀ (l0 : zP) (l3 : Int32) (l4 : Int32) (l5 : Int32) (l6 : Int32) (l7 : Int32)  (h : zH) (lv : List (Nat × Value)), zgetl lv 0 = some (zo l0) → zgetl lv 3 = some (Value.int l3) → zgetl lv 4 = some (Value.int l4) → zgetl lv 5 = some (Value.int l5) → zgetl lv 6 = some (Value.int l6) → zgetl lv 7 = some (Value.int l7) → J34 l0 l3 l4 l5 l6 l7 h → zG xs d (157, 34, lv, []) h Q) (HJ215 : ∀ (l0 : zP) (l3 : Int32) (l4 : Int32) (l5 : Int32) (l6 : Int32) (l7 : Int32) (l9 : Int32) (l10 : Int32)  (h : zH) (lv : List (Nat × Value)), zgetl lv 0 = some (zo l0) → zgetl lv 3 = some (Value.int l3) → zgetl lv 4 = some (Value.int l4) → zgetl lv 5 = some (Value.int l5) → zgetl lv 6 = some (Value.int l6) → zgetl lv 7 = some (Value.int l7) → zgetl lv 9 = some (Value.int l9) → zgetl lv 10 = some (Value.int l10) → J215 l0 l3 l4 l5 l6 l7 l9 l10 h → zG xs d (157, 215, lv, []) h Q) (g0 : zgetl lv 0 = some (zo l0)) (g3 : zgetl lv 3 = some (Value.int l3)) (g4 : zgetl lv 4 = some (Value.int l4)) (g5 : zgetl lv 5 = some (Value.int l5)) (g6 : zgetl lv 6 = some (Value.int l6)) (g7 : zgetl lv 7 = some (Value.int l7)) (w : zw_157_34 xs d Q J34 J215 l0 l3 l4 l5 l6 l7 h) : zG xs d (157, 34, lv, []) h Q := by
  unfold zw_157_34 at w
  refine zR_il zfe_157_34 g7 ?_
  refine zG_p zfe_157_36 (zks_300 _) ?_
  refine zG_ic 327 zfe_157_39 rfl (fun q => ?_) (fun q => ?_)
  · have w := w.2 (Int32.not_lt.mpr q)
    exact zs_157_327 HJ34 HJ215 g0 g5 w
  · have w := w.1 (Int32.not_le.mp q)
    refine zR_il zfe_157_42 g6 ?_
    refine zR_iln zfe_157_44 g3 ?_
    refine zG_ic 327 zfe_157_45 rfl (fun q => ?_) (fun q => ?_)
    · have w := w.2 (Int32.not_lt.mpr q)
      exact zs_157_327 HJ34 HJ215 g0 g5 w
    · have w := w.1 (Int32.not_le.mp q)
      refine zR_il zfe_157_48 g5 ?_
      refine zR_aln zfe_157_50 g0 ?_
      obtain ⟨_, _, x1, hp, ho, hv, w⟩ := w
      refine zR_gf zfe_157_51 zlk_157_150 (by decide) hp ho hv ?_
      refine zG_ic 74 zfe_157_54 rfl (fun q => ?_) (fun q => ?_)
      · have w := w.1 q
        refine zR_il zfe_157_74 g4 ?_
        refine zG_p zfe_157_76 (zkb_9 _) ?_
        refine zG_ic 90 zfe_157_78 rfl (fun q => ?_) (fun q => ?_)
        · have w := w.1 q
          exact zs_157_90 HJ34 HJ215 g0 g5 w
        · have w := w.2 q
          refine zR_aln zfe_157_81 g0 ?_
          obtain ⟨_, _, x3, hp, ho, hv, w⟩ := w
          refine zR_gf zfe_157_82 zlk_157_153 (by decide) hp ho hv ?_
          refine zG_p zfe_157_85 (zkb_100 _) ?_
          refine zG_ic 105 zfe_157_87 rfl (fun q => ?_) (fun q => ?_)
          · have w := w.2 q
            refine zR_aln zfe_157_105 g0 ?_
            obtain ⟨_, _, x5, hp, ho, hv, w⟩ := w
            refine zR_gf zfe_157_106 zlk_157_153 (by decide) hp ho hv ?_
            refine zR_is zfe_157_109 znl_157 (by decide) (fun lv8 e7 => ?_)
            replace g0 := zgl_n1 e7 g0 rfl (Or.inl (zo_c _))
            replace g3 := zgl_n1 e7 g3 rfl (Or.inl rfl)
            replace g4 := zgl_n1 e7 g4 rfl (Or.inl rfl)
            replace g5 := zgl_n1 e7 g5 rfl (Or.inl rfl)
            replace g6 := zgl_n1 e7 g6 rfl (Or.inl rfl)
            replace g7 := zgl_n1 e7 g7 rfl (Or.inl rfl)
            have g8 := zgl_s1 e7
            refine zR_aln zfe_157_111 g0 ?_
            obtain ⟨_, _, x9, hp, ho, hv, w⟩ := w
            refine zR_gf zfe_157_112 zlk_157_35 (by decide) hp ho hv ?_
            refine zR_il zfe_157_115 g8 ?_
            refine zR_il zfe_157_117 g4 ?_
            refine zG_if 126 zfe_157_119 rfl (fun q => ?_) (fun q => ?_)
            · have w := w.2 q
              refine zR_aln zfe_157_126 g0 ?_
              obtain ⟨_, _, x11, hp, ho, hv, w⟩ := w
              refine zR_gf zfe_157_127 zlk_157_51 (by decide) hp ho hv ?_
              refine zR_il zfe_157_130 g4 ?_
              refine zG_p zfe_157_132 (zki_1 _) ?_
              refine zG_p zfe_157_133 rfl ?_
              obtain ⟨_, _, _, hp, ho, hj, hv, w⟩ := w
              refine zR_ia zfe_157_134 hp ho hj hv ?_
              exact zs_157_135 HJ34 HJ215 g0 g3 g4 g5 g6 g7 g8 w
            · have w := w.1 (Decidable.not_not.mp q)
              refine zG_p zfe_157_122 (zki_m1 _) ?_
              refine zG_go 135 zfe_157_123 rfl ?_
              exact zs_157_135 HJ34 HJ215 g0 g3 g4 g5 g6 g7 g8 w
          · have w := w.1 (Decidable.not_not.mp q)
            exact zs_157_90 HJ34 HJ215 g0 g5 w
      · have w := w.2 q
        refine zR_aln zfe_157_57 g0 ?_
        refine zR_aln zfe_157_58 g0 ?_
        obtain ⟨_, _, x14, hp, ho, hv, w⟩ := w
        refine zR_gf zfe_157_59 zlk_157_150 (by decide) hp ho hv ?_
        obtain ⟨_, _, hp, ho, w⟩ := w
        refine zR_cv (args := [_]) (rest := []) zfe_157_62 zlk_157_156 rfl rfl hp ho rfl (by decide) (zent_of znl_158 (by simp only [List.map_cons, List.map_nil, List.sum_cons, List.sum_nil, zo_c, zci, zcJ]; decide) (by decide)) (zCall_mono w (zA_i (fun x16 h17 w => ?_) (fun e h w => zA_x rfl w)))
        refine zG_if 72 zfe_157_65 rfl (fun q => ?_) (fun q => ?_)
        · have w := w.1 q
          refine zG_p zfe_157_72 (zki_0 _) ?_
          exact zs_157_73 HJ34 HJ215 w
        · have w := w.2 q
          refine zG_p zfe_157_68 (zki_1 _) ?_
          refine zG_go 73 zfe_157_69 rfl ?_
          exact zs_157_73 HJ34 HJ215 w
def zw_157_0 (xs : List Value) (d : Nat) (Q : zO → zH → Prop) (J34 : zP → Int32 → Int32 → Int32 → Int32 → Int32 → zH → Prop) (J215 : zP → Int32 → Int32 → Int32 → Int32 → Int32 → Int32 → Int32 → zH → Prop) (l0 : zP) (l1 : Int32) (l2 : Int32) (l3 : Int32) (h : zH) : Prop := zPF l0 12 6 (Value.int l1) h fun h1 => zPF l0 12 7 (Value.int (l1 + l2)) h1 fun h2 => zPF l0 12 5 (Value.int (-1 : Int32)) h2 fun h3 => zPF l0 12 8 (Value.int (0 : Int32)) h3 fun h4 => J34 l0 l3 (0 : Int32) l1 (0 : Int32) (0 : Int32) h4
theorem zs_157_0 {xs : List Value} {d : Nat} {Q : zO → zH → Prop} {J34 : zP → Int32 → Int32 → Int32 → Int32 → Int32 → zH → Prop} {J215 : zP → Int32 → Int32 → Int32 → Int32 → Int32 → Int32 → Int32 → zH → Prop} {l0 : zP} {l1 : Int32} {l2 : Int32} {l3 : Int32} {h : zH} {lv : List (Nat × Value)} (HJ34 : ∀ (l0 : zP) (l3 : Int32) (l4 : Int32) (l5 : Int32) (l6 : Int32) (l7 : Int32)  (h : zH) (lv : List (Nat × Value)), zgetl lv 0 = some (zo l0) → zgetl lv 3 = some (Value.int l3) → zgetl lv 4 = some (Value.int l4) → zgetl lv 5 = some (Value.int l5) → zgetl lv 6 = some (Value.int l6) → zgetl lv 7 = some (Value.int l7) → J34 l0 l3 l4 l5 l6 l7 h → zG xs d (157, 34, lv, []) h Q) (HJ215 : ∀ (l0 : zP) (l3 : Int32) (l4 : Int32) (l5 : Int32) (l6 : Int32) (l7 : Int32) (l9 : Int32) (l10 : Int32)  (h : zH) (lv : List (Nat × Value)), zgetl lv 0 = some (zo l0) → zgetl lv 3 = some (Value.int l3) → zgetl lv 4 = some (Value.int l4) → zgetl lv 5 = some (Value.int l5) → zgetl lv 6 = some (Value.int l6) → zgetl lv 7 = some (Value.int l7) → zgetl lv 9 = some (Value.int l9) → zgetl lv 10 = some (Value.int l10) → J215 l0 l3 l4 l5 l6 l7 l9 l10 h → zG xs d (157, 215, lv, []) h Q) (g0 : zgetl lv 0 = some (zo l0)) (g1 : zgetl lv 1 = some (Value.int l1)) (g2 : zgetl lv 2 = some (Value.int l2)) (g3 : zgetl lv 3 = some (Value.int l3)) (w : zw_157_0 xs d Q J34 J215 l0 l1 l2 l3 h) : zG xs d (157, 0, lv, []) h Q := by
  unfold zw_157_0 at w
  refine zR_aln zfe_157_0 g0 ?_
  refine zR_iln zfe_157_1 g1 ?_
  obtain ⟨_, _, hp, ho, hj, w⟩ := w
  refine zR_pf zfe_157_2 zlk_157_147 (by decide) hp ho hj (zfit_i zft_12_6) (by decide) rfl ?_
  refine zR_aln zfe_157_5 g0 ?_
  refine zR_iln zfe_157_6 g1 ?_
  refine zR_iln zfe_157_7 g2 ?_
  refine zG_p zfe_157_8 rfl ?_
  obtain ⟨_, _, hp, ho, hj, w⟩ := w
  refine zR_pf zfe_157_9 zlk_157_150 (by decide) hp ho hj (zfit_i zft_12_7) (by decide) rfl ?_
  refine zR_aln zfe_157_12 g0 ?_
  refine zG_p zfe_157_13 (zki_m1 _) ?_
  obtain ⟨_, _, hp, ho, hj, w⟩ := w
  refine zR_pf zfe_157_14 zlk_157_16 (by decide) hp ho hj (zfit_i zft_12_5) (by decide) rfl ?_
  refine zR_aln zfe_157_17 g0 ?_
  refine zG_p zfe_157_18 (zki_0 _) ?_
  obtain ⟨_, _, hp, ho, hj, w⟩ := w
  refine zR_pf zfe_157_19 zlk_157_153 (by decide) hp ho hj (zfit_i zft_12_8) (by decide) rfl ?_
  refine zG_p zfe_157_22 (zki_0 _) ?_
  refine zR_is zfe_157_23 znl_157 (by decide) (fun lv6 e5 => ?_)
  replace g0 := zgl_n1 e5 g0 rfl (Or.inl (zo_c _))
  replace g1 := zgl_n1 e5 g1 rfl (Or.inl rfl)
  replace g3 := zgl_n1 e5 g3 rfl (Or.inl rfl)
  have g4 := zgl_s1 e5
  refine zR_iln zfe_157_25 g1 ?_
  refine zR_is zfe_157_26 znl_157 (by decide) (fun lv8 e7 => ?_)
  replace g0 := zgl_n1 e7 g0 rfl (Or.inl (zo_c _))
  replace g3 := zgl_n1 e7 g3 rfl (Or.inl rfl)
  replace g4 := zgl_n1 e7 g4 rfl (Or.inl rfl)
  have g5 := zgl_s1 e7
  refine zG_p zfe_157_28 (zki_0 _) ?_
  refine zR_is zfe_157_29 znl_157 (by decide) (fun lv10 e9 => ?_)
  replace g0 := zgl_n1 e9 g0 rfl (Or.inl (zo_c _))
  replace g3 := zgl_n1 e9 g3 rfl (Or.inl rfl)
  replace g4 := zgl_n1 e9 g4 rfl (Or.inl rfl)
  replace g5 := zgl_n1 e9 g5 rfl (Or.inl rfl)
  have g6 := zgl_s1 e9
  refine zG_p zfe_157_31 (zki_0 _) ?_
  refine zR_is zfe_157_32 znl_157 (by decide) (fun lv12 e11 => ?_)
  replace g0 := zgl_n1 e11 g0 rfl (Or.inl (zo_c _))
  replace g3 := zgl_n1 e11 g3 rfl (Or.inl rfl)
  replace g4 := zgl_n1 e11 g4 rfl (Or.inl rfl)
  replace g5 := zgl_n1 e11 g5 rfl (Or.inl rfl)
  replace g6 := zgl_n1 e11 g6 rfl (Or.inl rfl)
  have g7 := zgl_s1 e11
  exact HJ34 _ _ _ _ _ _ _ _ g0 g3 g4 g5 g6 g7 w
theorem zl_157 {xs : List Value} {d : Nat} {Q : zO → zH → Prop} (I34 : Nat → zP → Int32 → Int32 → Int32 → Int32 → Int32 → zH → Prop) (I215 : Nat → zP → Int32 → Int32 → Int32 → Int32 → Int32 → Int32 → Int32 → zH → Prop) (k34 : ∀ (n : Nat) (l0 : zP) (l3 : Int32) (l4 : Int32) (l5 : Int32) (l6 : Int32) (l7 : Int32) (h : zH), I34 n l0 l3 l4 l5 l6 l7 h → zw_157_34 xs d Q (fun l0 l3 l4 l5 l6 l7 h => ∃ n1, n1 < n ∧ I34 n1 l0 l3 l4 l5 l6 l7 h) (fun l0 l3 l4 l5 l6 l7 l9 l10 h => ∃ n1, n1 < n ∧ I215 n1 l0 l3 l4 l5 l6 l7 l9 l10 h) l0 l3 l4 l5 l6 l7 h) (k215 : ∀ (n : Nat) (l0 : zP) (l3 : Int32) (l4 : Int32) (l5 : Int32) (l6 : Int32) (l7 : Int32) (l9 : Int32) (l10 : Int32) (h : zH), I215 n l0 l3 l4 l5 l6 l7 l9 l10 h → zw_157_215 xs d Q (fun l0 l3 l4 l5 l6 l7 h => ∃ n1, n1 < n ∧ I34 n1 l0 l3 l4 l5 l6 l7 h) (fun l0 l3 l4 l5 l6 l7 l9 l10 h => ∃ n1, n1 < n ∧ I215 n1 l0 l3 l4 l5 l6 l7 l9 l10 h) l0 l3 l4 l5 l6 l7 l9 l10 h) : ∀ n : Nat, (∀ (l0 : zP) (l3 : Int32) (l4 : Int32) (l5 : Int32) (l6 : Int32) (l7 : Int32) (h : zH) (lv : List (Nat × Value)), zgetl lv 0 = some (zo l0) → zgetl lv 3 = some (Value.int l3) → zgetl lv 4 = some (Value.int l4) → zgetl lv 5 = some (Value.int l5) → zgetl lv 6 = some (Value.int l6) → zgetl lv 7 = some (Value.int l7) → I34 n l0 l3 l4 l5 l6 l7 h → zG xs d (157, 34, lv, []) h Q) ∧ (∀ (l0 : zP) (l3 : Int32) (l4 : Int32) (l5 : Int32) (l6 : Int32) (l7 : Int32) (l9 : Int32) (l10 : Int32) (h : zH) (lv : List (Nat × Value)), zgetl lv 0 = some (zo l0) → zgetl lv 3 = some (Value.int l3) → zgetl lv 4 = some (Value.int l4) → zgetl lv 5 = some (Value.int l5) → zgetl lv 6 = some (Value.int l6) → zgetl lv 7 = some (Value.int l7) → zgetl lv 9 = some (Value.int l9) → zgetl lv 10 = some (Value.int l10) → I215 n l0 l3 l4 l5 l6 l7 l9 l10 h → zG xs d (157, 215, lv, []) h Q) := by
  intro n
  induction n using Nat.strongRecOn with
  | ind n ih =>
    exact ⟨fun l0 l3 l4 l5 l6 l7 h lv g0 g1 g2 g3 g4 g5 w => zs_157_34 (fun _ _ _ _ _ _ _ _ g0 g1 g2 g3 g4 g5 w => by obtain ⟨n1, hn, w⟩ := w; exact (ih n1 hn).1 _ _ _ _ _ _ _ _ g0 g1 g2 g3 g4 g5 w) (fun _ _ _ _ _ _ _ _ _ _ g0 g1 g2 g3 g4 g5 g6 g7 w => by obtain ⟨n1, hn, w⟩ := w; exact (ih n1 hn).2 _ _ _ _ _ _ _ _ _ _ g0 g1 g2 g3 g4 g5 g6 g7 w) g0 g1 g2 g3 g4 g5 (k34 n l0 l3 l4 l5 l6 l7 h w), fun l0 l3 l4 l5 l6 l7 l9 l10 h lv g0 g1 g2 g3 g4 g5 g6 g7 w => zs_157_215 (fun _ _ _ _ _ _ _ _ g0 g1 g2 g3 g4 g5 w => by obtain ⟨n1, hn, w⟩ := w; exact (ih n1 hn).1 _ _ _ _ _ _ _ _ g0 g1 g2 g3 g4 g5 w) (fun _ _ _ _ _ _ _ _ _ _ g0 g1 g2 g3 g4 g5 g6 g7 w => by obtain ⟨n1, hn, w⟩ := w; exact (ih n1 hn).2 _ _ _ _ _ _ _ _ _ _ g0 g1 g2 g3 g4 g5 g6 g7 w) g0 g1 g2 g3 g4 g5 g6 g7 (k215 n l0 l3 l4 l5 l6 l7 l9 l10 h w)⟩
theorem zm_157 {xs : List Value} {d : Nat} {Q : zO → zH → Prop} {l0 : zP} {l1 : Int32} {l2 : Int32} {l3 : Int32} {h : zH} (I34 : Nat → zP → Int32 → Int32 → Int32 → Int32 → Int32 → zH → Prop) (I215 : Nat → zP → Int32 → Int32 → Int32 → Int32 → Int32 → Int32 → Int32 → zH → Prop) (k34 : ∀ (n : Nat) (l0 : zP) (l3 : Int32) (l4 : Int32) (l5 : Int32) (l6 : Int32) (l7 : Int32) (h : zH), I34 n l0 l3 l4 l5 l6 l7 h → zw_157_34 xs d Q (fun l0 l3 l4 l5 l6 l7 h => ∃ n1, n1 < n ∧ I34 n1 l0 l3 l4 l5 l6 l7 h) (fun l0 l3 l4 l5 l6 l7 l9 l10 h => ∃ n1, n1 < n ∧ I215 n1 l0 l3 l4 l5 l6 l7 l9 l10 h) l0 l3 l4 l5 l6 l7 h) (k215 : ∀ (n : Nat) (l0 : zP) (l3 : Int32) (l4 : Int32) (l5 : Int32) (l6 : Int32) (l7 : Int32) (l9 : Int32) (l10 : Int32) (h : zH), I215 n l0 l3 l4 l5 l6 l7 l9 l10 h → zw_157_215 xs d Q (fun l0 l3 l4 l5 l6 l7 h => ∃ n1, n1 < n ∧ I34 n1 l0 l3 l4 l5 l6 l7 h) (fun l0 l3 l4 l5 l6 l7 l9 l10 h => ∃ n1, n1 < n ∧ I215 n1 l0 l3 l4 l5 l6 l7 l9 l10 h) l0 l3 l4 l5 l6 l7 l9 l10 h) (w : zw_157_0 xs d Q (fun l0 l3 l4 l5 l6 l7 h => ∃ n1, I34 n1 l0 l3 l4 l5 l6 l7 h) (fun l0 l3 l4 l5 l6 l7 l9 l10 h => ∃ n1, I215 n1 l0 l3 l4 l5 l6 l7 l9 l10 h) l0 l1 l2 l3 h) : zG xs d (157, 0, lv_args 0 [zo l0, Value.int l1, Value.int l2, Value.int l3], []) h Q := zs_157_0 (fun _ _ _ _ _ _ _ _ g0 g1 g2 g3 g4 g5 w => by obtain ⟨n1, w⟩ := w; exact (zl_157 I34 I215 k34 k215 n1).1 _ _ _ _ _ _ _ _ g0 g1 g2 g3 g4 g5 w) (fun _ _ _ _ _ _ _ _ _ _ g0 g1 g2 g3 g4 g5 g6 g7 w => by obtain ⟨n1, w⟩ := w; exact (zl_157 I34 I215 k34 k215 n1).2 _ _ _ _ _ _ _ _ _ _ g0 g1 g2 g3 g4 g5 g6 g7 w) (by cases l0 <;> rfl) (by cases l0 <;> rfl) (by cases l0 <;> rfl) (by cases l0 <;> rfl) w
-- 158: PactLedgerModel.bad(I)I
def zw_158_0 (xs : List Value) (d : Nat) (Q : zO → zH → Prop) (l0 : zP) (l1 : Int32) (h : zH) : Prop := zGI l0 12 6 h fun x1 => zPF l0 12 5 (Value.int (l1 - x1)) h fun h3 => Q (.inl (some (Value.int (-1 : Int32)))) h3
theorem zs_158_0 {xs : List Value} {d : Nat} {Q : zO → zH → Prop} {l0 : zP} {l1 : Int32} {h : zH} {lv : List (Nat × Value)} (g0 : zgetl lv 0 = some (zo l0)) (g1 : zgetl lv 1 = some (Value.int l1)) (w : zw_158_0 xs d Q l0 l1 h) : zG xs d (158, 0, lv, []) h Q := by
  unfold zw_158_0 at w
  refine zR_aln zfe_158_0 g0 ?_
  refine zR_iln zfe_158_1 g1 ?_
  refine zR_aln zfe_158_2 g0 ?_
  obtain ⟨_, _, x1, hp, ho, hv, w⟩ := w
  refine zR_gf zfe_158_3 zlk_158_147 (by decide) hp ho hv ?_
  refine zG_p zfe_158_6 rfl ?_
  obtain ⟨_, _, hp, ho, hj, w⟩ := w
  refine zR_pf zfe_158_7 zlk_158_16 (by decide) hp ho hj (zfit_i zft_12_5) (by decide) rfl ?_
  refine zG_p zfe_158_10 (zki_m1 _) ?_
  exact zR_ri zfe_158_11 zrt_158 w
theorem zm_158 {xs : List Value} {d : Nat} {Q : zO → zH → Prop} {l0 : zP} {l1 : Int32} {h : zH} (w : zw_158_0 xs d Q  l0 l1 h) : zG xs d (158, 0, lv_args 0 [zo l0, Value.int l1], []) h Q := zs_158_0  (by cases l0 <;> rfl) (by cases l0 <;> rfl) w
-- 196: PactLedgerModel.wrong()I
def zw_196_0 (xs : List Value) (d : Nat) (Q : zO → zH → Prop) (l0 : zP) (h : zH) : Prop := zGI l0 12 5 h fun x1 => zCV xs d 156 12 l0 [Value.int (0 : Int32), Value.int x1] h (zKI (fun x3 h4 => Q (.inl (some (Value.int x3))) h4) (fun e h => Q (.inr e) h))
theorem zs_196_0 {xs : List Value} {d : Nat} {Q : zO → zH → Prop} {l0 : zP} {h : zH} {lv : List (Nat × Value)} (g0 : zgetl lv 0 = some (zo l0)) (w : zw_196_0 xs d Q l0 h) : zG xs d (196, 0, lv, []) h Q := by
  unfold zw_196_0 at w
  refine zR_aln zfe_196_0 g0 ?_
  refine zG_p zfe_196_1 (zki_0 _) ?_
  refine zR_aln zfe_196_2 g0 ?_
  obtain ⟨_, _, x1, hp, ho, hv, w⟩ := w
  refine zR_gf zfe_196_3 zlk_196_16 (by decide) hp ho hv ?_
  obtain ⟨_, _, hp, ho, w⟩ := w
  refine zR_cv (args := [_, _]) (rest := []) zfe_196_6 zlk_196_427 rfl rfl hp ho rfl (by decide) (zent_of znl_156 (by simp only [List.map_cons, List.map_nil, List.sum_cons, List.sum_nil, zo_c, zci, zcJ]; decide) (by decide)) (zCall_mono w (zA_i (fun x3 h4 w => ?_) (fun e h w => zA_x rfl w)))
  exact zR_ri zfe_196_9 zrt_196 w
theorem zm_196 {xs : List Value} {d : Nat} {Q : zO → zH → Prop} {l0 : zP} {h : zH} (w : zw_196_0 xs d Q  l0 h) : zG xs d (196, 0, lv_args 0 [zo l0], []) h Q := zs_196_0  (by cases l0 <;> rfl) w
-- 197: PactLedgerModel.call(III)I
def zw_197_47 (xs : List Value) (d : Nat) (Q : zO → zH → Prop) (J128 : zP → Int32 → Int32 → Int32 → Int32 → Int32 → Int32 → zH → Prop) (l0 : zP) (h : zH) : Prop := zCV xs d 156 12 l0 [Value.int (1 : Int32), Value.int (0 : Int32)] h (zKI (fun x1 h2 => Q (.inl (some (Value.int x1))) h2) (fun e h => Q (.inr e) h))
theorem zs_197_47 {xs : List Value} {d : Nat} {Q : zO → zH → Prop} {J128 : zP → Int32 → Int32 → Int32 → Int32 → Int32 → Int32 → zH → Prop} {l0 : zP} {h : zH} {lv : List (Nat × Value)} (HJ128 : ∀ (l0 : zP) (l1 : Int32) (l2 : Int32) (l3 : Int32) (l5 : Int32) (l6 : Int32) (l7 : Int32)  (h : zH) (lv : List (Nat × Value)), zgetl lv 0 = some (zo l0) → zgetl lv 1 = some (Value.int l1) → zgetl lv 2 = some (Value.int l2) → zgetl lv 3 = some (Value.int l3) → zgetl lv 5 = some (Value.int l5) → zgetl lv 6 = some (Value.int l6) → zgetl lv 7 = some (Value.int l7) → J128 l0 l1 l2 l3 l5 l6 l7 h → zG xs d (197, 128, lv, []) h Q) (g0 : zgetl lv 0 = some (zo l0)) (w : zw_197_47 xs d Q J128 l0 h) : zG xs d (197, 47, lv, []) h Q := by
  unfold zw_197_47 at w
  refine zR_aln zfe_197_47 g0 ?_
  refine zG_p zfe_197_48 (zki_1 _) ?_
  refine zG_p zfe_197_49 (zki_0 _) ?_
  obtain ⟨_, _, hp, ho, w⟩ := w
  refine zR_cv (args := [_, _]) (rest := []) zfe_197_50 zlk_197_427 rfl rfl hp ho rfl (by decide) (zent_of znl_156 (by simp only [List.map_cons, List.map_nil, List.sum_cons, List.sum_nil, zo_c, zci, zcJ]; decide) (by decide)) (zCall_mono w (zA_i (fun x1 h2 w => ?_) (fun e h w => zA_x rfl w)))
  exact zR_ri zfe_197_53 zrt_197 w
def zw_197_253 (xs : List Value) (d : Nat) (Q : zO → zH → Prop) (J128 : zP → Int32 → Int32 → Int32 → Int32 → Int32 → Int32 → zH → Prop) (l0 : zP) (l1 : Int32) (l8 : Int32) (s0 : Int32) (h : zH) : Prop := zPF l0 12 4 (Value.int (0 : Int32)) h fun h3 => ((s0 = 0 → zCV xs d 156 12 l0 [Value.int (3 : Int32), Value.int (0 : Int32)] h3 (zKI (fun x20 h21 => Q (.inl (some (Value.int x20))) h21) (fun e h => Q (.inr e) h))) ∧ (¬ s0 = 0 → zCV xs d 208 12 l0 [Value.int l8, Value.int (100 : Int32), Value.int (0 : Int32)] h3 (zKI (fun x4 h5 => zGR l0 12 63 h5 fun x6 => zIA xs x6 (((6 : Int32) * l1) + (2 : Int32)) h5 fun x8 => zST 0 x6 (((6 : Int32) * l1) + (2 : Int32)) (Value.int (x8 + (1 : Int32))) h5 fun h9 => zGR l0 12 63 h9 fun x10 => zIA xs x10 (((6 : Int32) * l1) + (3 : Int32)) h9 fun x12 => zGI l0 12 59 h9 fun x13 => zST 0 x10 (((6 : Int32) * l1) + (3 : Int32)) (Value.int (x12 + x13)) h9 fun h15 => zGI l0 12 59 h15 fun x16 => zCV xs d 156 12 l0 [Value.int (0 : Int32), Value.int x16] h15 (zKI (fun x18 h19 => Q (.inl (some (Value.int x18))) h19) (fun e h => Q (.inr e) h))) (fun e h => Q (.inr e) h))))
theorem zs_197_253 {xs : List Value} {d : Nat} {Q : zO → zH → Prop} {J128 : zP → Int32 → Int32 → Int32 → Int32 → Int32 → Int32 → zH → Prop} {l0 : zP} {l1 : Int32} {l8 : Int32} {s0 : Int32} {h : zH} {lv : List (Nat × Value)} (HJ128 : ∀ (l0 : zP) (l1 : Int32) (l2 : Int32) (l3 : Int32) (l5 : Int32) (l6 : Int32) (l7 : Int32)  (h : zH) (lv : List (Nat × Value)), zgetl lv 0 = some (zo l0) → zgetl lv 1 = some (Value.int l1) → zgetl lv 2 = some (Value.int l2) → zgetl lv 3 = some (Value.int l3) → zgetl lv 5 = some (Value.int l5) → zgetl lv 6 = some (Value.int l6) → zgetl lv 7 = some (Value.int l7) → J128 l0 l1 l2 l3 l5 l6 l7 h → zG xs d (197, 128, lv, []) h Q) (g0 : zgetl lv 0 = some (zo l0)) (g1 : zgetl lv 1 = some (Value.int l1)) (g8 : zgetl lv 8 = some (Value.int l8)) (w : zw_197_253 xs d Q J128 l0 l1 l8 s0 h) : zG xs d (197, 253, lv, [Value.int s0]) h Q := by
  unfold zw_197_253 at w
  refine zR_is zfe_197_253 znl_197 (by decide) (fun lv2 e1 => ?_)
  replace g0 := zgl_n1 e1 g0 rfl (Or.inl (zo_c _))
  replace g1 := zgl_n1 e1 g1 rfl (Or.inl rfl)
  replace g8 := zgl_n1 e1 g8 rfl (Or.inl rfl)
  have g9 := zgl_s1 e1
  refine zR_aln zfe_197_255 g0 ?_
  refine zG_p zfe_197_256 (zki_0 _) ?_
  obtain ⟨_, _, hp, ho, hj, w⟩ := w
  refine zR_pf zfe_197_257 zlk_197_231 (by decide) hp ho hj (zfit_i zft_12_4) (by decide) rfl ?_
  refine zR_il zfe_197_260 g9 ?_
  refine zG_if 272 zfe_197_262 rfl (fun q => ?_) (fun q => ?_)
  · have w := w.2 q
    refine zR_aln zfe_197_272 g0 ?_
    refine zR_il zfe_197_273 g8 ?_
    refine zG_p zfe_197_275 (zkb_100 _) ?_
    refine zG_p zfe_197_277 (zki_0 _) ?_
    obtain ⟨_, _, hp, ho, w⟩ := w
    refine zR_cv (args := [_, _, _]) (rest := []) zfe_197_278 zlk_197_384 rfl rfl hp ho rfl (by decide) (zent_of znl_208 (by simp only [List.map_cons, List.map_nil, List.sum_cons, List.sum_nil, zo_c, zci, zcJ]; decide) (by decide)) (zCall_mono w (zA_i (fun x4 h5 w => ?_) (fun e h w => zA_x rfl w)))
    refine zR_pop zfe_197_281 rfl ?_
    refine zR_aln zfe_197_282 g0 ?_
    obtain ⟨_, _, x6, hp, ho, hv, w⟩ := w
    refine zR_gf zfe_197_283 zlk_197_138 (by decide) hp ho hv ?_
    refine zG_p zfe_197_286 (zkb_6 _) ?_
    refine zR_iln zfe_197_288 g1 ?_
    refine zG_p zfe_197_289 rfl ?_
    refine zG_p zfe_197_290 (zki_2 _) ?_
    refine zG_p zfe_197_291 rfl ?_
    refine zR_d2 zfe_197_292 rfl (zo_c _) ?_
    obtain ⟨_, _, _, hp, ho, hj, hv, w⟩ := w
    refine zR_ia zfe_197_293 hp ho hj hv ?_
    refine zG_p zfe_197_294 (zki_1 _) ?_
    refine zG_p zfe_197_295 rfl ?_
    obtain ⟨_, _, hp, ho, hj, hv, w⟩ := w
    refine zR_ias zfe_197_296 hp ho hj hv rfl ?_
    refine zR_aln zfe_197_297 g0 ?_
    obtain ⟨_, _, x10, hp, ho, hv, w⟩ := w
    refine zR_gf zfe_197_298 zlk_197_138 (by decide) hp ho hv ?_
    refine zG_p zfe_197_301 (zkb_6 _) ?_
    refine zR_iln zfe_197_303 g1 ?_
    refine zG_p zfe_197_304 rfl ?_
    refine zG_p zfe_197_305 (zki_3 _) ?_
    refine zG_p zfe_197_306 rfl ?_
    refine zR_d2 zfe_197_307 rfl (zo_c _) ?_
    obtain ⟨_, _, _, hp, ho, hj, hv, w⟩ := w
    refine zR_ia zfe_197_308 hp ho hj hv ?_
    refine zR_aln zfe_197_309 g0 ?_
    obtain ⟨_, _, x13, hp, ho, hv, w⟩ := w
    refine zR_gf zfe_197_310 zlk_197_366 (by decide) hp ho hv ?_
    refine zG_p zfe_197_313 rfl ?_
    obtain ⟨_, _, hp, ho, hj, hv, w⟩ := w
    refine zR_ias zfe_197_314 hp ho hj hv rfl ?_
    refine zR_aln zfe_197_315 g0 ?_
    refine zG_p zfe_197_316 (zki_0 _) ?_
    refine zR_aln zfe_197_317 g0 ?_
    obtain ⟨_, _, x16, hp, ho, hv, w⟩ := w
    refine zR_gf zfe_197_318 zlk_197_366 (by decide) hp ho hv ?_
    obtain ⟨_, _, hp, ho, w⟩ := w
    refine zR_cv (args := [_, _]) (rest := []) zfe_197_321 zlk_197_427 rfl rfl hp ho rfl (by decide) (zent_of znl_156 (by simp only [List.map_cons, List.map_nil, List.sum_cons, List.sum_nil, zo_c, zci, zcJ]; decide) (by decide)) (zCall_mono w (zA_i (fun x18 h19 w => ?_) (fun e h w => zA_x rfl w)))
    exact zR_ri zfe_197_324 zrt_197 w
  · have w := w.1 (Decidable.not_not.mp q)
    refine zR_aln zfe_197_265 g0 ?_
    refine zG_p zfe_197_266 (zki_3 _) ?_
    refine zG_p zfe_197_267 (zki_0 _) ?_
    obtain ⟨_, _, hp, ho, w⟩ := w
    refine zR_cv (args := [_, _]) (rest := []) zfe_197_268 zlk_197_427 rfl rfl hp ho rfl (by decide) (zent_of znl_156 (by simp only [List.map_cons, List.map_nil, List.sum_cons, List.sum_nil, zo_c, zci, zcJ]; decide) (by decide)) (zCall_mono w (zA_i (fun x20 h21 w => ?_) (fun e h w => zA_x rfl w)))
    exact zR_ri zfe_197_271 zrt_197 w
def zw_197_252 (xs : List Value) (d : Nat) (Q : zO → zH → Prop) (J128 : zP → Int32 → Int32 → Int32 → Int32 → Int32 → Int32 → zH → Prop) (l0 : zP) (l1 : Int32) (l8 : Int32) (h : zH) : Prop := zw_197_253 xs d Q J128 l0 l1 l8 (0 : Int32) h
theorem zs_197_252 {xs : List Value} {d : Nat} {Q : zO → zH → Prop} {J128 : zP → Int32 → Int32 → Int32 → Int32 → Int32 → Int32 → zH → Prop} {l0 : zP} {l1 : Int32} {l8 : Int32} {h : zH} {lv : List (Nat × Value)} (HJ128 : ∀ (l0 : zP) (l1 : Int32) (l2 : Int32) (l3 : Int32) (l5 : Int32) (l6 : Int32) (l7 : Int32)  (h : zH) (lv : List (Nat × Value)), zgetl lv 0 = some (zo l0) → zgetl lv 1 = some (Value.int l1) → zgetl lv 2 = some (Value.int l2) → zgetl lv 3 = some (Value.int l3) → zgetl lv 5 = some (Value.int l5) → zgetl lv 6 = some (Value.int l6) → zgetl lv 7 = some (Value.int l7) → J128 l0 l1 l2 l3 l5 l6 l7 h → zG xs d (197, 128, lv, []) h Q) (g0 : zgetl lv 0 = some (zo l0)) (g1 : zgetl lv 1 = some (Value.int l1)) (g8 : zgetl lv 8 = some (Value.int l8)) (w : zw_197_252 xs d Q J128 l0 l1 l8 h) : zG xs d (197, 252, lv, []) h Q := by
  unfold zw_197_252 at w
  refine zG_p zfe_197_252 (zki_0 _) ?_
  exact zs_197_253 HJ128 g0 g1 g8 w
def zw_197_128 (xs : List Value) (d : Nat) (Q : zO → zH → Prop) (J128 : zP → Int32 → Int32 → Int32 → Int32 → Int32 → Int32 → zH → Prop) (l0 : zP) (l1 : Int32) (l2 : Int32) (l3 : Int32) (l5 : Int32) (l6 : Int32) (l7 : Int32) (h : zH) : Prop := ((l7 < (100 : Int32) → zGR l0 12 64 h fun x32 => zST 0 x32 l7 (Value.int (-1 : Int32)) h fun h34 => ∀ x37 : Int32, x37 = (l7 + (1 : Int32)) → J128 l0 l1 l2 l3 l5 l6 x37 h34) ∧ (¬ l7 < (100 : Int32) → zPF l0 12 49 (Value.int (0 : Int32)) h fun h1 => zPF l0 12 50 (Value.int (0 : Int32)) h1 fun h2 => zPF l0 12 59 (Value.int (0 : Int32)) h2 fun h3 => zPF l0 12 60 (Value.int l3) h3 fun h4 => zPF l0 12 58 (Value.int l2) h4 fun h5 => zCV xs d 187 12 l0 [Value.int (5 : Int32), Value.int l5, Value.int l6] h5 (zKI (fun x6 h7 => zCV xs d 168 12 l0 [Value.int x6] h7 (zKV (fun h9 => zCV xs d 201 12 l0 [] h9 (zKI (fun x10 h11 => ((x10 = 0 → zGR l0 12 31 h11 fun x14 => zCV xs d 173 12 l0 [Value.int (0 : Int32)] h11 (zKI (fun x16 h17 => zSA x14 x16 h17 fun x18 => zCV xs d 208 12 l0 [Value.int x18, Value.int (100 : Int32), Value.int (0 : Int32)] h17 (zKI (fun x21 h22 => ((x21 = 0 → zw_197_252 xs d Q J128 l0 l1 x18 h22) ∧ (¬ x21 = 0 → zGR l0 12 32 h22 fun x23 => zCV xs d 173 12 l0 [Value.int (0 : Int32)] h22 (zKI (fun x25 h26 => zSA x23 x25 h26 fun x27 => zCV xs d 226 12 l0 [Value.int l1, Value.int x27] h26 (zKI (fun x28 h29 => ((x28 = 0 → zw_197_252 xs d Q J128 l0 l1 x18 h29) ∧ (¬ x28 = 0 → zw_197_253 xs d Q J128 l0 l1 x18 (1 : Int32) h29))) (fun e h => Q (.inr e) h))) (fun e h => Q (.inr e) h))))) (fun e h => Q (.inr e) h))) (fun e h => Q (.inr e) h))) ∧ (¬ x10 = 0 → zCV xs d 156 12 l0 [Value.int x10, Value.int (0 : Int32)] h11 (zKI (fun x30 h31 => Q (.inl (some (Value.int x30))) h31) (fun e h => Q (.inr e) h))))) (fun e h => Q (.inr e) h))) (fun e h => Q (.inr e) h))) (fun e h => Q (.inr e) h))))
theorem zs_197_128 {xs : List Value} {d : Nat} {Q : zO → zH → Prop} {J128 : zP → Int32 → Int32 → Int32 → Int32 → Int32 → Int32 → zH → Prop} {l0 : zP} {l1 : Int32} {l2 : Int32} {l3 : Int32} {l5 : Int32} {l6 : Int32} {l7 : Int32} {h : zH} {lv : List (Nat × Value)} (HJ128 : ∀ (l0 : zP) (l1 : Int32) (l2 : Int32) (l3 : Int32) (l5 : Int32) (l6 : Int32) (l7 : Int32)  (h : zH) (lv : List (Nat × Value)), zgetl lv 0 = some (zo l0) → zgetl lv 1 = some (Value.int l1) → zgetl lv 2 = some (Value.int l2) → zgetl lv 3 = some (Value.int l3) → zgetl lv 5 = some (Value.int l5) → zgetl lv 6 = some (Value.int l6) → zgetl lv 7 = some (Value.int l7) → J128 l0 l1 l2 l3 l5 l6 l7 h → zG xs d (197, 128, lv, []) h Q) (g0 : zgetl lv 0 = some (zo l0)) (g1 : zgetl lv 1 = some (Value.int l1)) (g2 : zgetl lv 2 = some (Value.int l2)) (g3 : zgetl lv 3 = some (Value.int l3)) (g5 : zgetl lv 5 = some (Value.int l5)) (g6 : zgetl lv 6 = some (Value.int l6)) (g7 : zgetl lv 7 = some (Value.int l7)) (w : zw_197_128 xs d Q J128 l0 l1 l2 l3 l5 l6 l7 h) : zG xs d (197, 128, lv, []) h Q := by
  unfold zw_197_128 at w
  refine zR_il zfe_197_128 g7 ?_
  refine zG_p zfe_197_130 (zkb_100 _) ?_
  refine zG_ic 149 zfe_197_132 rfl (fun q => ?_) (fun q => ?_)
  · have w := w.2 (Int32.not_lt.mpr q)
    refine zR_aln zfe_197_149 g0 ?_
    refine zG_p zfe_197_150 (zki_0 _) ?_
    obtain ⟨_, _, hp, ho, hj, w⟩ := w
    refine zR_pf zfe_197_151 zlk_197_287 (by decide) hp ho hj (zfit_i zft_12_49) (by decide) rfl ?_
    refine zR_aln zfe_197_154 g0 ?_
    refine zG_p zfe_197_155 (zki_0 _) ?_
    obtain ⟨_, _, hp, ho, hj, w⟩ := w
    refine zR_pf zfe_197_156 zlk_197_296 (by decide) hp ho hj (zfit_i zft_12_50) (by decide) rfl ?_
    refine zR_aln zfe_197_159 g0 ?_
    refine zG_p zfe_197_160 (zki_0 _) ?_
    obtain ⟨_, _, hp, ho, hj, w⟩ := w
    refine zR_pf zfe_197_161 zlk_197_366 (by decide) hp ho hj (zfit_i zft_12_59) (by decide) rfl ?_
    refine zR_aln zfe_197_164 g0 ?_
    refine zR_iln zfe_197_165 g3 ?_
    obtain ⟨_, _, hp, ho, hj, w⟩ := w
    refine zR_pf zfe_197_166 zlk_197_369 (by decide) hp ho hj (zfit_i zft_12_60) (by decide) rfl ?_
    refine zR_aln zfe_197_169 g0 ?_
    refine zR_iln zfe_197_170 g2 ?_
    obtain ⟨_, _, hp, ho, hj, w⟩ := w
    refine zR_pf zfe_197_171 zlk_197_266 (by decide) hp ho hj (zfit_i zft_12_58) (by decide) rfl ?_
    refine zR_aln zfe_197_174 g0 ?_
    refine zR_aln zfe_197_175 g0 ?_
    refine zG_p zfe_197_176 (zki_5 _) ?_
    refine zR_il zfe_197_177 g5 ?_
    refine zR_il zfe_197_179 g6 ?_
    obtain ⟨_, _, hp, ho, w⟩ := w
    refine zR_cv (args := [_, _, _]) (rest := [_]) zfe_197_181 zlk_197_189 rfl rfl hp ho rfl (by simp only [List.map_cons, List.map_nil, List.sum_cons, List.sum_nil, zo_c, zci, zcJ]; decide) (zent_of znl_187 (by simp only [List.map_cons, List.map_nil, List.sum_cons, List.sum_nil, zo_c, zci, zcJ]; decide) (by decide)) (zCall_mono w (zA_i (fun x6 h7 w => ?_) (fun e h w => zA_x rfl w)))
    obtain ⟨_, _, hp, ho, w⟩ := w
    refine zR_cv (args := [_]) (rest := []) zfe_197_184 zlk_197_315 rfl rfl hp ho rfl (by decide) (zent_of znl_168 (by simp only [List.map_cons, List.map_nil, List.sum_cons, List.sum_nil, zo_c, zci, zcJ]; decide) (by decide)) (zCall_mono w (zA_v (fun h9 w => ?_) (fun e h w => zA_x rfl w)))
    refine zR_aln zfe_197_187 g0 ?_
    obtain ⟨_, _, hp, ho, w⟩ := w
    refine zR_cv (args := []) (rest := []) zfe_197_188 zlk_197_442 rfl rfl hp ho rfl (by decide) (zent_of znl_201 (by simp only [List.map_cons, List.map_nil, List.sum_cons, List.sum_nil, zo_c, zci, zcJ]; decide) (by decide)) (zCall_mono w (zA_i (fun x10 h11 w => ?_) (fun e h w => zA_x rfl w)))
    refine zR_is zfe_197_191 znl_197 (by decide) (fun lv13 e12 => ?_)
    replace g0 := zgl_n1 e12 g0 rfl (Or.inl (zo_c _))
    replace g1 := zgl_n1 e12 g1 rfl (Or.inl rfl)
    have g7 := zgl_s1 e12
    refine zR_il zfe_197_193 g7 ?_
    refine zG_if 206 zfe_197_195 rfl (fun q => ?_) (fun q => ?_)
    · have w := w.1 q
      refine zR_aln zfe_197_206 g0 ?_
      obtain ⟨_, _, x14, hp, ho, hv, w⟩ := w
      refine zR_gf zfe_197_207 zlk_197_77 (by decide) hp ho hv ?_
      refine zR_aln zfe_197_210 g0 ?_
      refine zG_p zfe_197_211 (zki_0 _) ?_
      obtain ⟨_, _, hp, ho, w⟩ := w
      refine zR_cv (args := [_]) (rest := [_]) zfe_197_212 zlk_197_290 rfl rfl hp ho rfl (by simp only [List.map_cons, List.map_nil, List.sum_cons, List.sum_nil, zo_c, zci, zcJ]; decide) (zent_of znl_173 (by simp only [List.map_cons, List.map_nil, List.sum_cons, List.sum_nil, zo_c, zci, zcJ]; decide) (by decide)) (zCall_mono w (zA_i (fun x16 h17 w => ?_) (fun e h w => zA_x rfl w)))
      obtain ⟨_, _, _, hp, ho, hj, hv, w⟩ := w
      refine zR_sa zfe_197_215 hp ho hj hv ?_
      refine zR_is zfe_197_216 znl_197 (by decide) (fun lv20 e19 => ?_)
      replace g0 := zgl_n1 e19 g0 rfl (Or.inl (zo_c _))
      replace g1 := zgl_n1 e19 g1 rfl (Or.inl rfl)
      have g8 := zgl_s1 e19
      refine zR_aln zfe_197_218 g0 ?_
      refine zR_il zfe_197_219 g8 ?_
      refine zG_p zfe_197_221 (zkb_100 _) ?_
      refine zG_p zfe_197_223 (zki_0 _) ?_
      obtain ⟨_, _, hp, ho, w⟩ := w
      refine zR_cv (args := [_, _, _]) (rest := []) zfe_197_224 zlk_197_384 rfl rfl hp ho rfl (by decide) (zent_of znl_208 (by simp only [List.map_cons, List.map_nil, List.sum_cons, List.sum_nil, zo_c, zci, zcJ]; decide) (by decide)) (zCall_mono w (zA_i (fun x21 h22 w => ?_) (fun e h w => zA_x rfl w)))
      refine zG_if 252 zfe_197_227 rfl (fun q => ?_) (fun q => ?_)
      · have w := w.1 q
        exact zs_197_252 HJ128 g0 g1 g8 w
      · have w := w.2 q
        refine zR_aln zfe_197_230 g0 ?_
        refine zR_iln zfe_197_231 g1 ?_
        refine zR_aln zfe_197_232 g0 ?_
        obtain ⟨_, _, x23, hp, ho, hv, w⟩ := w
        refine zR_gf zfe_197_233 zlk_197_81 (by decide) hp ho hv ?_
        refine zR_aln zfe_197_236 g0 ?_
        refine zG_p zfe_197_237 (zki_0 _) ?_
        obtain ⟨_, _, hp, ho, w⟩ := w
        refine zR_cv (args := [_]) (rest := [_, _, _]) zfe_197_238 zlk_197_290 rfl rfl hp ho rfl (by simp only [List.map_cons, List.map_nil, List.sum_cons, List.sum_nil, zo_c, zci, zcJ]; decide) (zent_of znl_173 (by simp only [List.map_cons, List.map_nil, List.sum_cons, List.sum_nil, zo_c, zci, zcJ]; decide) (by decide)) (zCall_mono w (zA_i (fun x25 h26 w => ?_) (fun e h w => zA_x rfl w)))
        obtain ⟨_, _, _, hp, ho, hj, hv, w⟩ := w
        refine zR_sa zfe_197_241 hp ho hj hv ?_
        obtain ⟨_, _, hp, ho, w⟩ := w
        refine zR_cv (args := [_, _]) (rest := []) zfe_197_242 zlk_197_446 rfl rfl hp ho rfl (by decide) (zent_of znl_226 (by simp only [List.map_cons, List.map_nil, List.sum_cons, List.sum_nil, zo_c, zci, zcJ]; decide) (by decide)) (zCall_mono w (zA_i (fun x28 h29 w => ?_) (fun e h w => zA_x rfl w)))
        refine zG_if 252 zfe_197_245 rfl (fun q => ?_) (fun q => ?_)
        · have w := w.1 q
          exact zs_197_252 HJ128 g0 g1 g8 w
        · have w := w.2 q
          refine zG_p zfe_197_248 (zki_1 _) ?_
          refine zG_go 253 zfe_197_249 rfl ?_
          exact zs_197_253 HJ128 g0 g1 g8 w
    · have w := w.2 q
      refine zR_aln zfe_197_198 g0 ?_
      refine zR_il zfe_197_199 g7 ?_
      refine zG_p zfe_197_201 (zki_0 _) ?_
      obtain ⟨_, _, hp, ho, w⟩ := w
      refine zR_cv (args := [_, _]) (rest := []) zfe_197_202 zlk_197_427 rfl rfl hp ho rfl (by decide) (zent_of znl_156 (by simp only [List.map_cons, List.map_nil, List.sum_cons, List.sum_nil, zo_c, zci, zcJ]; decide) (by decide)) (zCall_mono w (zA_i (fun x30 h31 w => ?_) (fun e h w => zA_x rfl w)))
      exact zR_ri zfe_197_205 zrt_197 w
  · have w := w.1 (Int32.not_le.mp q)
    refine zR_aln zfe_197_135 g0 ?_
    obtain ⟨_, _, x32, hp, ho, hv, w⟩ := w
    refine zR_gf zfe_197_136 zlk_197_141 (by decide) hp ho hv ?_
    refine zR_il zfe_197_139 g7 ?_
    refine zG_p zfe_197_141 (zki_m1 _) ?_
    obtain ⟨_, _, hp, ho, hj, hv, w⟩ := w
    refine zR_ias zfe_197_142 hp ho hj hv rfl ?_
    refine zR_inc zfe_197_143 znl_197 (by decide) zkn1 g7 (fun lv36 e35 => ?_)
    replace g0 := zgl_n1 e35 g0 rfl (Or.inl (zo_c _))
    replace g1 := zgl_n1 e35 g1 rfl (Or.inl rfl)
    replace g2 := zgl_n1 e35 g2 rfl (Or.inl rfl)
    replace g3 := zgl_n1 e35 g3 rfl (Or.inl rfl)
    replace g5 := zgl_n1 e35 g5 rfl (Or.inl rfl)
    replace g6 := zgl_n1 e35 g6 rfl (Or.inl rfl)
    have g7 := zgl_s1 e35
    have w := w _ rfl
    refine zG_go 128 zfe_197_146 rfl ?_
    exact HJ128 _ _ _ _ _ _ _ _ _ g0 g1 g2 g3 g5 g6 g7 w
def zw_197_83 (xs : List Value) (d : Nat) (Q : zO → zH → Prop) (J128 : zP → Int32 → Int32 → Int32 → Int32 → Int32 → Int32 → zH → Prop) (l0 : zP) (l1 : Int32) (l2 : Int32) (l3 : Int32) (s0 : Int32) (h : zH) : Prop := ((s0 < 0 → zCV xs d 156 12 l0 [Value.int (1 : Int32), Value.int (0 : Int32)] h (zKI (fun x14 h15 => Q (.inl (some (Value.int x14))) h15) (fun e h => Q (.inr e) h))) ∧ (¬ s0 < 0 → zCV xs d 200 12 l0 [Value.int l1] h (zKI (fun x3 h4 => zGR l0 12 61 h4 fun x7 => zIA xs x7 l1 h4 fun x9 => zCV xs d 157 12 l0 [Value.int ((240 : Int32) + ((240 : Int32) * l1)), Value.int x9, Value.int (5 : Int32)] h4 (zKI (fun x10 h11 => J128 l0 l1 l2 l3 s0 x3 (0 : Int32) h11) (fun e h => Q (.inr e) h))) (fun e h => Q (.inr e) h))))
theorem zs_197_83 {xs : List Value} {d : Nat} {Q : zO → zH → Prop} {J128 : zP → Int32 → Int32 → Int32 → Int32 → Int32 → Int32 → zH → Prop} {l0 : zP} {l1 : Int32} {l2 : Int32} {l3 : Int32} {s0 : Int32} {h : zH} {lv : List (Nat × Value)} (HJ128 : ∀ (l0 : zP) (l1 : Int32) (l2 : Int32) (l3 : Int32) (l5 : Int32) (l6 : Int32) (l7 : Int32)  (h : zH) (lv : List (Nat × Value)), zgetl lv 0 = some (zo l0) → zgetl lv 1 = some (Value.int l1) → zgetl lv 2 = some (Value.int l2) → zgetl lv 3 = some (Value.int l3) → zgetl lv 5 = some (Value.int l5) → zgetl lv 6 = some (Value.int l6) → zgetl lv 7 = some (Value.int l7) → J128 l0 l1 l2 l3 l5 l6 l7 h → zG xs d (197, 128, lv, []) h Q) (g0 : zgetl lv 0 = some (zo l0)) (g1 : zgetl lv 1 = some (Value.int l1)) (g2 : zgetl lv 2 = some (Value.int l2)) (g3 : zgetl lv 3 = some (Value.int l3)) (w : zw_197_83 xs d Q J128 l0 l1 l2 l3 s0 h) : zG xs d (197, 83, lv, [Value.int s0]) h Q := by
  unfold zw_197_83 at w
  refine zR_is zfe_197_83 znl_197 (by decide) (fun lv2 e1 => ?_)
  replace g0 := zgl_n1 e1 g0 rfl (Or.inl (zo_c _))
  replace g1 := zgl_n1 e1 g1 rfl (Or.inl rfl)
  replace g2 := zgl_n1 e1 g2 rfl (Or.inl rfl)
  replace g3 := zgl_n1 e1 g3 rfl (Or.inl rfl)
  have g5 := zgl_s1 e1
  refine zR_il zfe_197_85 g5 ?_
  refine zG_if 97 zfe_197_87 rfl (fun q => ?_) (fun q => ?_)
  · have w := w.2 (Int32.not_lt.mpr q)
    refine zR_aln zfe_197_97 g0 ?_
    refine zR_iln zfe_197_98 g1 ?_
    obtain ⟨_, _, hp, ho, w⟩ := w
    refine zR_cv (args := [_]) (rest := []) zfe_197_99 zlk_197_439 rfl rfl hp ho rfl (by decide) (zent_of znl_200 (by simp only [List.map_cons, List.map_nil, List.sum_cons, List.sum_nil, zo_c, zci, zcJ]; decide) (by decide)) (zCall_mono w (zA_i (fun x3 h4 w => ?_) (fun e h w => zA_x rfl w)))
    refine zR_is zfe_197_102 znl_197 (by decide) (fun lv6 e5 => ?_)
    replace g0 := zgl_n1 e5 g0 rfl (Or.inl (zo_c _))
    replace g1 := zgl_n1 e5 g1 rfl (Or.inl rfl)
    replace g2 := zgl_n1 e5 g2 rfl (Or.inl rfl)
    replace g3 := zgl_n1 e5 g3 rfl (Or.inl rfl)
    replace g5 := zgl_n1 e5 g5 rfl (Or.inl rfl)
    have g6 := zgl_s1 e5
    refine zR_aln zfe_197_104 g0 ?_
    refine zG_p zfe_197_105 (zks_240 _) ?_
    refine zG_p zfe_197_108 (zks_240 _) ?_
    refine zR_iln zfe_197_111 g1 ?_
    refine zG_p zfe_197_112 rfl ?_
    refine zG_p zfe_197_113 rfl ?_
    refine zR_aln zfe_197_114 g0 ?_
    obtain ⟨_, _, x7, hp, ho, hv, w⟩ := w
    refine zR_gf zfe_197_115 zlk_197_132 (by decide) hp ho hv ?_
    refine zR_iln zfe_197_118 g1 ?_
    obtain ⟨_, _, _, hp, ho, hj, hv, w⟩ := w
    refine zR_ia zfe_197_119 hp ho hj hv ?_
    refine zG_p zfe_197_120 (zki_5 _) ?_
    obtain ⟨_, _, hp, ho, w⟩ := w
    refine zR_cv (args := [_, _, _]) (rest := []) zfe_197_121 zlk_197_409 rfl rfl hp ho rfl (by decide) (zent_of znl_157 (by simp only [List.map_cons, List.map_nil, List.sum_cons, List.sum_nil, zo_c, zci, zcJ]; decide) (by decide)) (zCall_mono w (zA_i (fun x10 h11 w => ?_) (fun e h w => zA_x rfl w)))
    refine zR_pop zfe_197_124 rfl ?_
    refine zG_p zfe_197_125 (zki_0 _) ?_
    refine zR_is zfe_197_126 znl_197 (by decide) (fun lv13 e12 => ?_)
    replace g0 := zgl_n1 e12 g0 rfl (Or.inl (zo_c _))
    replace g1 := zgl_n1 e12 g1 rfl (Or.inl rfl)
    replace g2 := zgl_n1 e12 g2 rfl (Or.inl rfl)
    replace g3 := zgl_n1 e12 g3 rfl (Or.inl rfl)
    replace g5 := zgl_n1 e12 g5 rfl (Or.inl rfl)
    replace g6 := zgl_n1 e12 g6 rfl (Or.inl rfl)
    have g7 := zgl_s1 e12
    exact HJ128 _ _ _ _ _ _ _ _ _ g0 g1 g2 g3 g5 g6 g7 w
  · have w := w.1 (Int32.not_le.mp q)
    refine zR_aln zfe_197_90 g0 ?_
    refine zG_p zfe_197_91 (zki_1 _) ?_
    refine zG_p zfe_197_92 (zki_0 _) ?_
    obtain ⟨_, _, hp, ho, w⟩ := w
    refine zR_cv (args := [_, _]) (rest := []) zfe_197_93 zlk_197_427 rfl rfl hp ho rfl (by decide) (zent_of znl_156 (by simp only [List.map_cons, List.map_nil, List.sum_cons, List.sum_nil, zo_c, zci, zcJ]; decide) (by decide)) (zCall_mono w (zA_i (fun x14 h15 w => ?_) (fun e h w => zA_x rfl w)))
    exact zR_ri zfe_197_96 zrt_197 w
def zw_197_0 (xs : List Value) (d : Nat) (Q : zO → zH → Prop) (J128 : zP → Int32 → Int32 → Int32 → Int32 → Int32 → Int32 → zH → Prop) (l0 : zP) (l1 : Int32) (l2 : Int32) (l3 : Int32) (h : zH) : Prop := zGI l0 12 3 h fun x1 => zPF l0 12 3 (Value.int (0 : Int32)) h fun h5 => zPF l0 12 4 (Value.int (0 : Int32)) h5 fun h6 => zCV xs d 198 12 l0 [Value.int l1] h6 (zKI (fun x7 h8 => ((x7 = 0 → zw_197_47 xs d Q J128 l0 h8) ∧ (¬ x7 = 0 → ((l2 < (1 : Int32) → zw_197_47 xs d Q J128 l0 h8) ∧ (¬ l2 < (1 : Int32) → (((120 : Int32) < l2 → zw_197_47 xs d Q J128 l0 h8) ∧ (¬ (120 : Int32) < l2 → ((l3 < (1 : Int32) → zw_197_47 xs d Q J128 l0 h8) ∧ (¬ l3 < (1 : Int32) → (((150 : Int32) < l3 → zw_197_47 xs d Q J128 l0 h8) ∧ (¬ (150 : Int32) < l3 → zCV xs d 199 12 l0 [Value.int l1] h8 (zKV (fun h10 => zCV xs d 157 12 l0 [Value.int (0 : Int32), Value.int x1, Value.int (1 : Int32)] h10 (zKI (fun x11 h12 => ((x11 = 0 → zw_197_83 xs d Q J128 l0 l1 l2 l3 (-1 : Int32) h12) ∧ (¬ x11 = 0 → zGI l0 12 54 h12 fun x13 => zCV xs d 182 12 l0 [Value.int (0 : Int32), Value.int x13] h12 (zKI (fun x15 h16 => zw_197_83 xs d Q J128 l0 l1 l2 l3 x15 h16) (fun e h => Q (.inr e) h))))) (fun e h => Q (.inr e) h))) (fun e h => Q (.inr e) h))))))))))))) (fun e h => Q (.inr e) h))
theorem zs_197_0 {xs : List Value} {d : Nat} {Q : zO → zH → Prop} {J128 : zP → Int32 → Int32 → Int32 → Int32 → Int32 → Int32 → zH → Prop} {l0 : zP} {l1 : Int32} {l2 : Int32} {l3 : Int32} {h : zH} {lv : List (Nat × Value)} (HJ128 : ∀ (l0 : zP) (l1 : Int32) (l2 : Int32) (l3 : Int32) (l5 : Int32) (l6 : Int32) (l7 : Int32)  (h : zH) (lv : List (Nat × Value)), zgetl lv 0 = some (zo l0) → zgetl lv 1 = some (Value.int l1) → zgetl lv 2 = some (Value.int l2) → zgetl lv 3 = some (Value.int l3) → zgetl lv 5 = some (Value.int l5) → zgetl lv 6 = some (Value.int l6) → zgetl lv 7 = some (Value.int l7) → J128 l0 l1 l2 l3 l5 l6 l7 h → zG xs d (197, 128, lv, []) h Q) (g0 : zgetl lv 0 = some (zo l0)) (g1 : zgetl lv 1 = some (Value.int l1)) (g2 : zgetl lv 2 = some (Value.int l2)) (g3 : zgetl lv 3 = some (Value.int l3)) (w : zw_197_0 xs d Q J128 l0 l1 l2 l3 h) : zG xs d (197, 0, lv, []) h Q := by
  unfold zw_197_0 at w
  refine zR_aln zfe_197_0 g0 ?_
  obtain ⟨_, _, x1, hp, ho, hv, w⟩ := w
  refine zR_gf zfe_197_1 zlk_197_419 (by decide) hp ho hv ?_
  refine zR_is zfe_197_4 znl_197 (by decide) (fun lv4 e3 => ?_)
  replace g0 := zgl_n1 e3 g0 rfl (Or.inl (zo_c _))
  replace g1 := zgl_n1 e3 g1 rfl (Or.inl rfl)
  replace g2 := zgl_n1 e3 g2 rfl (Or.inl rfl)
  replace g3 := zgl_n1 e3 g3 rfl (Or.inl rfl)
  have g4 := zgl_s1 e3
  refine zR_aln zfe_197_6 g0 ?_
  refine zG_p zfe_197_7 (zki_0 _) ?_
  obtain ⟨_, _, hp, ho, hj, w⟩ := w
  refine zR_pf zfe_197_8 zlk_197_419 (by decide) hp ho hj (zfit_i zft_12_3) (by decide) rfl ?_
  refine zR_aln zfe_197_11 g0 ?_
  refine zG_p zfe_197_12 (zki_0 _) ?_
  obtain ⟨_, _, hp, ho, hj, w⟩ := w
  refine zR_pf zfe_197_13 zlk_197_231 (by decide) hp ho hj (zfit_i zft_12_4) (by decide) rfl ?_
  refine zR_aln zfe_197_16 g0 ?_
  refine zR_iln zfe_197_17 g1 ?_
  obtain ⟨_, _, hp, ho, w⟩ := w
  refine zR_cv (args := [_]) (rest := []) zfe_197_18 zlk_197_433 rfl rfl hp ho rfl (by decide) (zent_of znl_198 (by simp only [List.map_cons, List.map_nil, List.sum_cons, List.sum_nil, zo_c, zci, zcJ]; decide) (by decide)) (zCall_mono w (zA_i (fun x7 h8 w => ?_) (fun e h w => zA_x rfl w)))
  refine zG_if 47 zfe_197_21 rfl (fun q => ?_) (fun q => ?_)
  · have w := w.1 q
    exact zs_197_47 HJ128 g0 w
  · have w := w.2 q
    refine zR_iln zfe_197_24 g2 ?_
    refine zG_p zfe_197_25 (zki_1 _) ?_
    refine zG_ic 47 zfe_197_26 rfl (fun q => ?_) (fun q => ?_)
    · have w := w.1 q
      exact zs_197_47 HJ128 g0 w
    · have w := w.2 q
      refine zR_iln zfe_197_29 g2 ?_
      refine zG_p zfe_197_30 (zkb_120 _) ?_
      refine zG_ic 47 zfe_197_32 rfl (fun q => ?_) (fun q => ?_)
      · have w := w.1 q
        exact zs_197_47 HJ128 g0 w
      · have w := w.2 q
        refine zR_iln zfe_197_35 g3 ?_
        refine zG_p zfe_197_36 (zki_1 _) ?_
        refine zG_ic 47 zfe_197_37 rfl (fun q => ?_) (fun q => ?_)
        · have w := w.1 q
          exact zs_197_47 HJ128 g0 w
        · have w := w.2 q
          refine zR_iln zfe_197_40 g3 ?_
          refine zG_p zfe_197_41 (zks_150 _) ?_
          refine zG_ic 54 zfe_197_44 rfl (fun q => ?_) (fun q => ?_)
          · have w := w.2 (Int32.not_lt.mpr q)
            refine zR_aln zfe_197_54 g0 ?_
            refine zR_iln zfe_197_55 g1 ?_
            obtain ⟨_, _, hp, ho, w⟩ := w
            refine zR_cv (args := [_]) (rest := []) zfe_197_56 zlk_197_436 rfl rfl hp ho rfl (by decide) (zent_of znl_199 (by simp only [List.map_cons, List.map_nil, List.sum_cons, List.sum_nil, zo_c, zci, zcJ]; decide) (by decide)) (zCall_mono w (zA_v (fun h10 w => ?_) (fun e h w => zA_x rfl w)))
            refine zR_aln zfe_197_59 g0 ?_
            refine zG_p zfe_197_60 (zki_0 _) ?_
            refine zR_il zfe_197_61 g4 ?_
            refine zG_p zfe_197_63 (zki_1 _) ?_
            obtain ⟨_, _, hp, ho, w⟩ := w
            refine zR_cv (args := [_, _, _]) (rest := []) zfe_197_64 zlk_197_409 rfl rfl hp ho rfl (by decide) (zent_of znl_157 (by simp only [List.map_cons, List.map_nil, List.sum_cons, List.sum_nil, zo_c, zci, zcJ]; decide) (by decide)) (zCall_mono w (zA_i (fun x11 h12 w => ?_) (fun e h w => zA_x rfl w)))
            refine zG_if 82 zfe_197_67 rfl (fun q => ?_) (fun q => ?_)
            · have w := w.1 q
              refine zG_p zfe_197_82 (zki_m1 _) ?_
              exact zs_197_83 HJ128 g0 g1 g2 g3 w
            · have w := w.2 q
              refine zR_aln zfe_197_70 g0 ?_
              refine zG_p zfe_197_71 (zki_0 _) ?_
              refine zR_aln zfe_197_72 g0 ?_
              obtain ⟨_, _, x13, hp, ho, hv, w⟩ := w
              refine zR_gf zfe_197_73 zlk_197_332 (by decide) hp ho hv ?_
              obtain ⟨_, _, hp, ho, w⟩ := w
              refine zR_cv (args := [_, _]) (rest := []) zfe_197_76 zlk_197_312 rfl rfl hp ho rfl (by decide) (zent_of znl_182 (by simp only [List.map_cons, List.map_nil, List.sum_cons, List.sum_nil, zo_c, zci, zcJ]; decide) (by decide)) (zCall_mono w (zA_i (fun x15 h16 w => ?_) (fun e h w => zA_x rfl w)))
              refine zG_go 83 zfe_197_79 rfl ?_
              exact zs_197_83 HJ128 g0 g1 g2 g3 w
          · have w := w.1 (Int32.not_le.mp q)
            exact zs_197_47 HJ128 g0 w
theorem zl_197 {xs : List Value} {d : Nat} {Q : zO → zH → Prop} (I128 : Nat → zP → Int32 → Int32 → Int32 → Int32 → Int32 → Int32 → zH → Prop) (k128 : ∀ (n : Nat) (l0 : zP) (l1 : Int32) (l2 : Int32) (l3 : Int32) (l5 : Int32) (l6 : Int32) (l7 : Int32) (h : zH), I128 n l0 l1 l2 l3 l5 l6 l7 h → zw_197_128 xs d Q (fun l0 l1 l2 l3 l5 l6 l7 h => ∃ n1, n1 < n ∧ I128 n1 l0 l1 l2 l3 l5 l6 l7 h) l0 l1 l2 l3 l5 l6 l7 h) : ∀ n : Nat, (∀ (l0 : zP) (l1 : Int32) (l2 : Int32) (l3 : Int32) (l5 : Int32) (l6 : Int32) (l7 : Int32) (h : zH) (lv : List (Nat × Value)), zgetl lv 0 = some (zo l0) → zgetl lv 1 = some (Value.int l1) → zgetl lv 2 = some (Value.int l2) → zgetl lv 3 = some (Value.int l3) → zgetl lv 5 = some (Value.int l5) → zgetl lv 6 = some (Value.int l6) → zgetl lv 7 = some (Value.int l7) → I128 n l0 l1 l2 l3 l5 l6 l7 h → zG xs d (197, 128, lv, []) h Q) := by
  intro n
  induction n using Nat.strongRecOn with
  | ind n ih =>
    exact fun l0 l1 l2 l3 l5 l6 l7 h lv g0 g1 g2 g3 g4 g5 g6 w => zs_197_128 (fun _ _ _ _ _ _ _ _ _ g0 g1 g2 g3 g4 g5 g6 w => by obtain ⟨n1, hn, w⟩ := w; exact (ih n1 hn) _ _ _ _ _ _ _ _ _ g0 g1 g2 g3 g4 g5 g6 w) g0 g1 g2 g3 g4 g5 g6 (k128 n l0 l1 l2 l3 l5 l6 l7 h w)
theorem zm_197 {xs : List Value} {d : Nat} {Q : zO → zH → Prop} {l0 : zP} {l1 : Int32} {l2 : Int32} {l3 : Int32} {h : zH} (I128 : Nat → zP → Int32 → Int32 → Int32 → Int32 → Int32 → Int32 → zH → Prop) (k128 : ∀ (n : Nat) (l0 : zP) (l1 : Int32) (l2 : Int32) (l3 : Int32) (l5 : Int32) (l6 : Int32) (l7 : Int32) (h : zH), I128 n l0 l1 l2 l3 l5 l6 l7 h → zw_197_128 xs d Q (fun l0 l1 l2 l3 l5 l6 l7 h => ∃ n1, n1 < n ∧ I128 n1 l0 l1 l2 l3 l5 l6 l7 h) l0 l1 l2 l3 l5 l6 l7 h) (w : zw_197_0 xs d Q (fun l0 l1 l2 l3 l5 l6 l7 h => ∃ n1, I128 n1 l0 l1 l2 l3 l5 l6 l7 h) l0 l1 l2 l3 h) : zG xs d (197, 0, lv_args 0 [zo l0, Value.int l1, Value.int l2, Value.int l3], []) h Q := zs_197_0 (fun _ _ _ _ _ _ _ _ _ g0 g1 g2 g3 g4 g5 g6 w => by obtain ⟨n1, w⟩ := w; exact (zl_197 I128 k128 n1) _ _ _ _ _ _ _ _ _ g0 g1 g2 g3 g4 g5 g6 w) (by cases l0 <;> rfl) (by cases l0 <;> rfl) (by cases l0 <;> rfl) (by cases l0 <;> rfl) w
-- 198: PactLedgerModel.isContract(I)Z
def zw_198_17 (xs : List Value) (d : Nat) (Q : zO → zH → Prop) (s0 : Int32) (h : zH) : Prop := ((s0 = 0 ∨ s0 = 1) ∧ Q (.inl (some (Value.int s0))) h)
theorem zs_198_17 {xs : List Value} {d : Nat} {Q : zO → zH → Prop} {s0 : Int32} {h : zH} {lv : List (Nat × Value)}  (w : zw_198_17 xs d Q s0 h) : zG xs d (198, 17, lv, [Value.int s0]) h Q := by
  unfold zw_198_17 at w
  exact zR_rb zfe_198_17 zrt_198 w.1 w.2
def zw_198_16 (xs : List Value) (d : Nat) (Q : zO → zH → Prop)  (h : zH) : Prop := zw_198_17 xs d Q (0 : Int32) h
theorem zs_198_16 {xs : List Value} {d : Nat} {Q : zO → zH → Prop}  {h : zH} {lv : List (Nat × Value)}  (w : zw_198_16 xs d Q h) : zG xs d (198, 16, lv, []) h Q := by
  unfold zw_198_16 at w
  refine zG_p zfe_198_16 (zki_0 _) ?_
  exact zs_198_17 w
def zw_198_0 (xs : List Value) (d : Nat) (Q : zO → zH → Prop) (l0 : zP) (l1 : Int32) (h : zH) : Prop := ((l1 < 0 → zw_198_16 xs d Q h) ∧ (¬ l1 < 0 → zGI l0 12 53 h fun x1 => ((l1 < x1 → zw_198_17 xs d Q (1 : Int32) h) ∧ (¬ l1 < x1 → zw_198_16 xs d Q h))))
theorem zs_198_0 {xs : List Value} {d : Nat} {Q : zO → zH → Prop} {l0 : zP} {l1 : Int32} {h : zH} {lv : List (Nat × Value)} (g0 : zgetl lv 0 = some (zo l0)) (g1 : zgetl lv 1 = some (Value.int l1)) (w : zw_198_0 xs d Q l0 l1 h) : zG xs d (198, 0, lv, []) h Q := by
  unfold zw_198_0 at w
  refine zR_iln zfe_198_0 g1 ?_
  refine zG_if 16 zfe_198_1 rfl (fun q => ?_) (fun q => ?_)
  · have w := w.1 q
    exact zs_198_16 w
  · have w := w.2 q
    refine zR_iln zfe_198_4 g1 ?_
    refine zR_aln zfe_198_5 g0 ?_
    obtain ⟨_, _, x1, hp, ho, hv, w⟩ := w
    refine zR_gf zfe_198_6 zlk_198_424 (by decide) hp ho hv ?_
    refine zG_ic 16 zfe_198_9 rfl (fun q => ?_) (fun q => ?_)
    · have w := w.2 (Int32.not_lt.mpr q)
      exact zs_198_16 w
    · have w := w.1 (Int32.not_le.mp q)
      refine zG_p zfe_198_12 (zki_1 _) ?_
      refine zG_go 17 zfe_198_13 rfl ?_
      exact zs_198_17 w
theorem zm_198 {xs : List Value} {d : Nat} {Q : zO → zH → Prop} {l0 : zP} {l1 : Int32} {h : zH} (w : zw_198_0 xs d Q  l0 l1 h) : zG xs d (198, 0, lv_args 0 [zo l0, Value.int l1], []) h Q := zs_198_0  (by cases l0 <;> rfl) (by cases l0 <;> rfl) w
-- 227: PactLedgerModel.storage(I)I
def zw_227_0 (xs : List Value) (d : Nat) (Q : zO → zH → Prop) (l0 : zP) (l1 : Int32) (h : zH) : Prop := zCV xs d 198 12 l0 [Value.int l1] h (zKI (fun x1 h2 => ((x1 = 0 → zCV xs d 156 12 l0 [Value.int (1 : Int32), Value.int (0 : Int32)] h2 (zKI (fun x18 h19 => Q (.inl (some (Value.int x18))) h19) (fun e h => Q (.inr e) h))) ∧ (¬ x1 = 0 → zGI l0 12 5 h2 fun x3 => zCV xs d 199 12 l0 [Value.int l1] h2 (zKV (fun h8 => zCV xs d 200 12 l0 [Value.int l1] h8 (zKI (fun x9 h10 => zCV xs d 208 12 l0 [Value.int x9, Value.int (100 : Int32), Value.int (0 : Int32)] h10 (zKI (fun x11 h12 => zPF l0 12 5 (Value.int x3) h12 fun h13 => zGI l0 12 4 h13 fun x14 => zCV xs d 156 12 l0 [Value.int (0 : Int32), Value.int x14] h13 (zKI (fun x16 h17 => Q (.inl (some (Value.int x16))) h17) (fun e h => Q (.inr e) h))) (fun e h => Q (.inr e) h))) (fun e h => Q (.inr e) h))) (fun e h => Q (.inr e) h))))) (fun e h => Q (.inr e) h))
theorem zs_227_0 {xs : List Value} {d : Nat} {Q : zO → zH → Prop} {l0 : zP} {l1 : Int32} {h : zH} {lv : List (Nat × Value)} (g0 : zgetl lv 0 = some (zo l0)) (g1 : zgetl lv 1 = some (Value.int l1)) (w : zw_227_0 xs d Q l0 l1 h) : zG xs d (227, 0, lv, []) h Q := by
  unfold zw_227_0 at w
  refine zR_aln zfe_227_0 g0 ?_
  refine zR_iln zfe_227_1 g1 ?_
  obtain ⟨_, _, hp, ho, w⟩ := w
  refine zR_cv (args := [_]) (rest := []) zfe_227_2 zlk_227_433 rfl rfl hp ho rfl (by decide) (zent_of znl_198 (by simp only [List.map_cons, List.map_nil, List.sum_cons, List.sum_nil, zo_c, zci, zcJ]; decide) (by decide)) (zCall_mono w (zA_i (fun x1 h2 w => ?_) (fun e h w => zA_x rfl w)))
  refine zG_if 15 zfe_227_5 rfl (fun q => ?_) (fun q => ?_)
  · have w := w.2 q
    refine zR_aln zfe_227_15 g0 ?_
    obtain ⟨_, _, x3, hp, ho, hv, w⟩ := w
    refine zR_gf zfe_227_16 zlk_227_16 (by decide) hp ho hv ?_
    refine zR_isn zfe_227_19 znl_227 (by decide) (fun lv6 e5 => ?_)
    replace g0 := zgl_n1 e5 g0 rfl (Or.inl (zo_c _))
    replace g1 := zgl_n1 e5 g1 rfl (Or.inl rfl)
    have g2 := zgl_s1 e5
    refine zR_aln zfe_227_20 g0 ?_
    refine zR_iln zfe_227_21 g1 ?_
    obtain ⟨_, _, hp, ho, w⟩ := w
    refine zR_cv (args := [_]) (rest := []) zfe_227_22 zlk_227_436 rfl rfl hp ho rfl (by decide) (zent_of znl_199 (by simp only [List.map_cons, List.map_nil, List.sum_cons, List.sum_nil, zo_c, zci, zcJ]; decide) (by decide)) (zCall_mono w (zA_v (fun h8 w => ?_) (fun e h w => zA_x rfl w)))
    refine zR_aln zfe_227_25 g0 ?_
    refine zR_aln zfe_227_26 g0 ?_
    refine zR_iln zfe_227_27 g1 ?_
    obtain ⟨_, _, hp, ho, w⟩ := w
    refine zR_cv (args := [_]) (rest := [_]) zfe_227_28 zlk_227_439 rfl rfl hp ho rfl (by simp only [List.map_cons, List.map_nil, List.sum_cons, List.sum_nil, zo_c, zci, zcJ]; decide) (zent_of znl_200 (by simp only [List.map_cons, List.map_nil, List.sum_cons, List.sum_nil, zo_c, zci, zcJ]; decide) (by decide)) (zCall_mono w (zA_i (fun x9 h10 w => ?_) (fun e h w => zA_x rfl w)))
    refine zG_p zfe_227_31 (zkb_100 _) ?_
    refine zG_p zfe_227_33 (zki_0 _) ?_
    obtain ⟨_, _, hp, ho, w⟩ := w
    refine zR_cv (args := [_, _, _]) (rest := []) zfe_227_34 zlk_227_384 rfl rfl hp ho rfl (by decide) (zent_of znl_208 (by simp only [List.map_cons, List.map_nil, List.sum_cons, List.sum_nil, zo_c, zci, zcJ]; decide) (by decide)) (zCall_mono w (zA_i (fun x11 h12 w => ?_) (fun e h w => zA_x rfl w)))
    refine zR_pop zfe_227_37 rfl ?_
    refine zR_aln zfe_227_38 g0 ?_
    refine zR_iln zfe_227_39 g2 ?_
    obtain ⟨_, _, hp, ho, hj, w⟩ := w
    refine zR_pf zfe_227_40 zlk_227_16 (by decide) hp ho hj (zfit_i zft_12_5) (by decide) rfl ?_
    refine zR_aln zfe_227_43 g0 ?_
    refine zG_p zfe_227_44 (zki_0 _) ?_
    refine zR_aln zfe_227_45 g0 ?_
    obtain ⟨_, _, x14, hp, ho, hv, w⟩ := w
    refine zR_gf zfe_227_46 zlk_227_231 (by decide) hp ho hv ?_
    obtain ⟨_, _, hp, ho, w⟩ := w
    refine zR_cv (args := [_, _]) (rest := []) zfe_227_49 zlk_227_427 rfl rfl hp ho rfl (by decide) (zent_of znl_156 (by simp only [List.map_cons, List.map_nil, List.sum_cons, List.sum_nil, zo_c, zci, zcJ]; decide) (by decide)) (zCall_mono w (zA_i (fun x16 h17 w => ?_) (fun e h w => zA_x rfl w)))
    exact zR_ri zfe_227_52 zrt_227 w
  · have w := w.1 (Decidable.not_not.mp q)
    refine zR_aln zfe_227_8 g0 ?_
    refine zG_p zfe_227_9 (zki_1 _) ?_
    refine zG_p zfe_227_10 (zki_0 _) ?_
    obtain ⟨_, _, hp, ho, w⟩ := w
    refine zR_cv (args := [_, _]) (rest := []) zfe_227_11 zlk_227_427 rfl rfl hp ho rfl (by decide) (zent_of znl_156 (by simp only [List.map_cons, List.map_nil, List.sum_cons, List.sum_nil, zo_c, zci, zcJ]; decide) (by decide)) (zCall_mono w (zA_i (fun x18 h19 w => ?_) (fun e h w => zA_x rfl w)))
    exact zR_ri zfe_227_14 zrt_227 w
theorem zm_227 {xs : List Value} {d : Nat} {Q : zO → zH → Prop} {l0 : zP} {l1 : Int32} {h : zH} (w : zw_227_0 xs d Q  l0 l1 h) : zG xs d (227, 0, lv_args 0 [zo l0, Value.int l1], []) h Q := zs_227_0  (by cases l0 <;> rfl) (by cases l0 <;> rfl) w
-- 228: PactLedgerModel.find(I)I
def zw_228_32 (xs : List Value) (d : Nat) (Q : zO → zH → Prop) (l0 : zP) (h : zH) : Prop := zCV xs d 156 12 l0 [Value.int (1 : Int32), Value.int (0 : Int32)] h (zKI (fun x1 h2 => Q (.inl (some (Value.int x1))) h2) (fun e h => Q (.inr e) h))
theorem zs_228_32 {xs : List Value} {d : Nat} {Q : zO → zH → Prop} {l0 : zP} {h : zH} {lv : List (Nat × Value)} (g0 : zgetl lv 0 = some (zo l0)) (w : zw_228_32 xs d Q l0 h) : zG xs d (228, 32, lv, []) h Q := by
  unfold zw_228_32 at w
  refine zR_aln zfe_228_32 g0 ?_
  refine zG_p zfe_228_33 (zki_1 _) ?_
  refine zG_p zfe_228_34 (zki_0 _) ?_
  obtain ⟨_, _, hp, ho, w⟩ := w
  refine zR_cv (args := [_, _]) (rest := []) zfe_228_35 zlk_228_427 rfl rfl hp ho rfl (by decide) (zent_of znl_156 (by simp only [List.map_cons, List.map_nil, List.sum_cons, List.sum_nil, zo_c, zci, zcJ]; decide) (by decide)) (zCall_mono w (zA_i (fun x1 h2 w => ?_) (fun e h w => zA_x rfl w)))
  exact zR_ri zfe_228_38 zrt_228 w
def zw_228_132 (xs : List Value) (d : Nat) (Q : zO → zH → Prop) (l0 : zP) (s0 : Int32) (s1 : zP) (h : zH) : Prop := zCV xs d 208 12 s1 [Value.int s0, Value.int (300 : Int32), Value.int (0 : Int32)] h (zKI (fun x1 h2 => zGI l0 12 4 h2 fun x3 => zCV xs d 156 12 l0 [Value.int (0 : Int32), Value.int x3] h2 (zKI (fun x5 h6 => Q (.inl (some (Value.int x5))) h6) (fun e h => Q (.inr e) h))) (fun e h => Q (.inr e) h))
theorem zs_228_132 {xs : List Value} {d : Nat} {Q : zO → zH → Prop} {l0 : zP} {s0 : Int32} {s1 : zP} {h : zH} {lv : List (Nat × Value)} (g0 : zgetl lv 0 = some (zo l0)) (w : zw_228_132 xs d Q l0 s0 s1 h) : zG xs d (228, 132, lv, [Value.int s0, zo s1]) h Q := by
  unfold zw_228_132 at w
  refine zG_p zfe_228_132 (zks_300 _) ?_
  refine zG_p zfe_228_135 (zki_0 _) ?_
  obtain ⟨_, _, hp, ho, w⟩ := w
  refine zR_cv (args := [_, _, _]) (rest := []) zfe_228_136 zlk_228_384 rfl rfl hp ho rfl (by decide) (zent_of znl_208 (by simp only [List.map_cons, List.map_nil, List.sum_cons, List.sum_nil, zo_c, zci, zcJ]; decide) (by decide)) (zCall_mono w (zA_i (fun x1 h2 w => ?_) (fun e h w => zA_x rfl w)))
  refine zR_pop zfe_228_139 rfl ?_
  refine zR_aln zfe_228_140 g0 ?_
  refine zG_p zfe_228_141 (zki_0 _) ?_
  refine zR_aln zfe_228_142 g0 ?_
  obtain ⟨_, _, x3, hp, ho, hv, w⟩ := w
  refine zR_gf zfe_228_143 zlk_228_231 (by decide) hp ho hv ?_
  obtain ⟨_, _, hp, ho, w⟩ := w
  refine zR_cv (args := [_, _]) (rest := []) zfe_228_146 zlk_228_427 rfl rfl hp ho rfl (by decide) (zent_of znl_156 (by simp only [List.map_cons, List.map_nil, List.sum_cons, List.sum_nil, zo_c, zci, zcJ]; decide) (by decide)) (zCall_mono w (zA_i (fun x5 h6 w => ?_) (fun e h w => zA_x rfl w)))
  exact zR_ri zfe_228_149 zrt_228 w
def zw_228_77 (xs : List Value) (d : Nat) (Q : zO → zH → Prop) (l0 : zP) (l1 : Int32) (s0 : Int32) (h : zH) : Prop := ((s0 < 0 → zCV xs d 156 12 l0 [Value.int (1 : Int32), Value.int (0 : Int32)] h (zKI (fun x16 h17 => Q (.inl (some (Value.int x16))) h17) (fun e h => Q (.inr e) h))) ∧ (¬ s0 < 0 → zGR l0 12 31 h fun x3 => zCV xs d 200 12 l0 [Value.int l1] h (zKI (fun x5 h6 => zSA x3 x5 h6 fun x7 => zCV xs d 215 12 l0 [Value.int x7, Value.int s0] h6 (zKI (fun x8 h9 => ((x8 < 0 → zCV xs d 187 12 l0 [Value.int (6 : Int32), Value.int (0 : Int32), Value.int (0 : Int32)] h9 (zKI (fun x14 h15 => zw_228_132 xs d Q l0 x14 l0 h15) (fun e h => Q (.inr e) h))) ∧ (¬ x8 < 0 → zCV xs d 187 12 l0 [Value.int (7 : Int32), Value.int x8, Value.int (0 : Int32)] h9 (zKI (fun x12 h13 => zw_228_132 xs d Q l0 x12 l0 h13) (fun e h => Q (.inr e) h))))) (fun e h => Q (.inr e) h))) (fun e h => Q (.inr e) h))))
theorem zs_228_77 {xs : List Value} {d : Nat} {Q : zO → zH → Prop} {l0 : zP} {l1 : Int32} {s0 : Int32} {h : zH} {lv : List (Nat × Value)} (g0 : zgetl lv 0 = some (zo l0)) (g1 : zgetl lv 1 = some (Value.int l1)) (w : zw_228_77 xs d Q l0 l1 s0 h) : zG xs d (228, 77, lv, [Value.int s0]) h Q := by
  unfold zw_228_77 at w
  refine zR_isn zfe_228_77 znl_228 (by decide) (fun lv2 e1 => ?_)
  replace g0 := zgl_n1 e1 g0 rfl (Or.inl (zo_c _))
  replace g1 := zgl_n1 e1 g1 rfl (Or.inl rfl)
  have g3 := zgl_s1 e1
  refine zR_iln zfe_228_78 g3 ?_
  refine zG_if 89 zfe_228_79 rfl (fun q => ?_) (fun q => ?_)
  · have w := w.2 (Int32.not_lt.mpr q)
    refine zR_aln zfe_228_89 g0 ?_
    refine zR_aln zfe_228_90 g0 ?_
    obtain ⟨_, _, x3, hp, ho, hv, w⟩ := w
    refine zR_gf zfe_228_91 zlk_228_77 (by decide) hp ho hv ?_
    refine zR_aln zfe_228_94 g0 ?_
    refine zR_iln zfe_228_95 g1 ?_
    obtain ⟨_, _, hp, ho, w⟩ := w
    refine zR_cv (args := [_]) (rest := [_, _]) zfe_228_96 zlk_228_439 rfl rfl hp ho rfl (by simp only [List.map_cons, List.map_nil, List.sum_cons, List.sum_nil, zo_c, zci, zcJ]; decide) (zent_of znl_200 (by simp only [List.map_cons, List.map_nil, List.sum_cons, List.sum_nil, zo_c, zci, zcJ]; decide) (by decide)) (zCall_mono w (zA_i (fun x5 h6 w => ?_) (fun e h w => zA_x rfl w)))
    obtain ⟨_, _, _, hp, ho, hj, hv, w⟩ := w
    refine zR_sa zfe_228_99 hp ho hj hv ?_
    refine zR_iln zfe_228_100 g3 ?_
    obtain ⟨_, _, hp, ho, w⟩ := w
    refine zR_cv (args := [_, _]) (rest := []) zfe_228_101 zlk_228_394 rfl rfl hp ho rfl (by decide) (zent_of znl_215 (by simp only [List.map_cons, List.map_nil, List.sum_cons, List.sum_nil, zo_c, zci, zcJ]; decide) (by decide)) (zCall_mono w (zA_i (fun x8 h9 w => ?_) (fun e h w => zA_x rfl w)))
    refine zR_is zfe_228_104 znl_228 (by decide) (fun lv11 e10 => ?_)
    replace g0 := zgl_n1 e10 g0 rfl (Or.inl (zo_c _))
    have g4 := zgl_s1 e10
    refine zR_aln zfe_228_106 g0 ?_
    refine zR_il zfe_228_107 g4 ?_
    refine zG_if 123 zfe_228_109 rfl (fun q => ?_) (fun q => ?_)
    · have w := w.2 (Int32.not_lt.mpr q)
      refine zR_aln zfe_228_123 g0 ?_
      refine zG_p zfe_228_124 (zkb_7 _) ?_
      refine zR_il zfe_228_126 g4 ?_
      refine zG_p zfe_228_128 (zki_0 _) ?_
      obtain ⟨_, _, hp, ho, w⟩ := w
      refine zR_cv (args := [_, _, _]) (rest := [_]) zfe_228_129 zlk_228_189 rfl rfl hp ho rfl (by simp only [List.map_cons, List.map_nil, List.sum_cons, List.sum_nil, zo_c, zci, zcJ]; decide) (zent_of znl_187 (by simp only [List.map_cons, List.map_nil, List.sum_cons, List.sum_nil, zo_c, zci, zcJ]; decide) (by decide)) (zCall_mono w (zA_i (fun x12 h13 w => ?_) (fun e h w => zA_x rfl w)))
      exact zs_228_132 g0 w
    · have w := w.1 (Int32.not_le.mp q)
      refine zR_aln zfe_228_112 g0 ?_
      refine zG_p zfe_228_113 (zkb_6 _) ?_
      refine zG_p zfe_228_115 (zki_0 _) ?_
      refine zG_p zfe_228_116 (zki_0 _) ?_
      obtain ⟨_, _, hp, ho, w⟩ := w
      refine zR_cv (args := [_, _, _]) (rest := [_]) zfe_228_117 zlk_228_189 rfl rfl hp ho rfl (by simp only [List.map_cons, List.map_nil, List.sum_cons, List.sum_nil, zo_c, zci, zcJ]; decide) (zent_of znl_187 (by simp only [List.map_cons, List.map_nil, List.sum_cons, List.sum_nil, zo_c, zci, zcJ]; decide) (by decide)) (zCall_mono w (zA_i (fun x14 h15 w => ?_) (fun e h w => zA_x rfl w)))
      refine zG_go 132 zfe_228_120 rfl ?_
      exact zs_228_132 g0 w
  · have w := w.1 (Int32.not_le.mp q)
    refine zR_aln zfe_228_82 g0 ?_
    refine zG_p zfe_228_83 (zki_1 _) ?_
    refine zG_p zfe_228_84 (zki_0 _) ?_
    obtain ⟨_, _, hp, ho, w⟩ := w
    refine zR_cv (args := [_, _]) (rest := []) zfe_228_85 zlk_228_427 rfl rfl hp ho rfl (by decide) (zent_of znl_156 (by simp only [List.map_cons, List.map_nil, List.sum_cons, List.sum_nil, zo_c, zci, zcJ]; decide) (by decide)) (zCall_mono w (zA_i (fun x16 h17 w => ?_) (fun e h w => zA_x rfl w)))
    exact zR_ri zfe_228_88 zrt_228 w
def zw_228_0 (xs : List Value) (d : Nat) (Q : zO → zH → Prop) (l0 : zP) (l1 : Int32) (h : zH) : Prop := zGI l0 12 3 h fun x1 => zPF l0 12 3 (Value.int (0 : Int32)) h fun h5 => zCV xs d 198 12 l0 [Value.int l1] h5 (zKI (fun x6 h7 => ((x6 = 0 → zw_228_32 xs d Q l0 h7) ∧ (¬ x6 = 0 → zGR l0 12 63 h7 fun x8 => zIA xs x8 (((6 : Int32) * l1) + (4 : Int32)) h7 fun x10 => ((x10 < 0 → zw_228_32 xs d Q l0 h7) ∧ (¬ x10 < 0 → zCV xs d 199 12 l0 [Value.int l1] h7 (zKV (fun h12 => zCV xs d 157 12 l0 [Value.int (0 : Int32), Value.int x1, Value.int (1 : Int32)] h12 (zKI (fun x13 h14 => ((x13 = 0 → zw_228_77 xs d Q l0 l1 (-1 : Int32) h14) ∧ (¬ x13 = 0 → zGR l0 12 23 h14 fun x15 => zGR l0 12 23 h14 fun x17 => zGI l0 12 56 h14 fun x19 => zIA xs x17 x19 h14 fun x21 => zIA xs x15 x21 h14 fun x22 => zCV xs d 182 12 l0 [Value.int (0 : Int32), Value.int x22] h14 (zKI (fun x23 h24 => zw_228_77 xs d Q l0 l1 x23 h24) (fun e h => Q (.inr e) h))))) (fun e h => Q (.inr e) h))) (fun e h => Q (.inr e) h))))))) (fun e h => Q (.inr e) h))
theorem zs_228_0 {xs : List Value} {d : Nat} {Q : zO → zH → Prop} {l0 : zP} {l1 : Int32} {h : zH} {lv : List (Nat × Value)} (g0 : zgetl lv 0 = some (zo l0)) (g1 : zgetl lv 1 = some (Value.int l1)) (w : zw_228_0 xs d Q l0 l1 h) : zG xs d (228, 0, lv, []) h Q := by
  unfold zw_228_0 at w
  refine zR_aln zfe_228_0 g0 ?_
  obtain ⟨_, _, x1, hp, ho, hv, w⟩ := w
  refine zR_gf zfe_228_1 zlk_228_419 (by decide) hp ho hv ?_
  refine zR_isn zfe_228_4 znl_228 (by decide) (fun lv4 e3 => ?_)
  replace g0 := zgl_n1 e3 g0 rfl (Or.inl (zo_c _))
  replace g1 := zgl_n1 e3 g1 rfl (Or.inl rfl)
  have g2 := zgl_s1 e3
  refine zR_aln zfe_228_5 g0 ?_
  refine zG_p zfe_228_6 (zki_0 _) ?_
  obtain ⟨_, _, hp, ho, hj, w⟩ := w
  refine zR_pf zfe_228_7 zlk_228_419 (by decide) hp ho hj (zfit_i zft_12_3) (by decide) rfl ?_
  refine zR_aln zfe_228_10 g0 ?_
  refine zR_iln zfe_228_11 g1 ?_
  obtain ⟨_, _, hp, ho, w⟩ := w
  refine zR_cv (args := [_]) (rest := []) zfe_228_12 zlk_228_433 rfl rfl hp ho rfl (by decide) (zent_of znl_198 (by simp only [List.map_cons, List.map_nil, List.sum_cons, List.sum_nil, zo_c, zci, zcJ]; decide) (by decide)) (zCall_mono w (zA_i (fun x6 h7 w => ?_) (fun e h w => zA_x rfl w)))
  refine zG_if 32 zfe_228_15 rfl (fun q => ?_) (fun q => ?_)
  · have w := w.1 q
    exact zs_228_32 g0 w
  · have w := w.2 q
    refine zR_aln zfe_228_18 g0 ?_
    obtain ⟨_, _, x8, hp, ho, hv, w⟩ := w
    refine zR_gf zfe_228_19 zlk_228_138 (by decide) hp ho hv ?_
    refine zG_p zfe_228_22 (zkb_6 _) ?_
    refine zR_iln zfe_228_24 g1 ?_
    refine zG_p zfe_228_25 rfl ?_
    refine zG_p zfe_228_26 (zki_4 _) ?_
    refine zG_p zfe_228_27 rfl ?_
    obtain ⟨_, _, _, hp, ho, hj, hv, w⟩ := w
    refine zR_ia zfe_228_28 hp ho hj hv ?_
    refine zG_if 39 zfe_228_29 rfl (fun q => ?_) (fun q => ?_)
    · have w := w.2 (Int32.not_lt.mpr q)
      refine zR_aln zfe_228_39 g0 ?_
      refine zR_iln zfe_228_40 g1 ?_
      obtain ⟨_, _, hp, ho, w⟩ := w
      refine zR_cv (args := [_]) (rest := []) zfe_228_41 zlk_228_436 rfl rfl hp ho rfl (by decide) (zent_of znl_199 (by simp only [List.map_cons, List.map_nil, List.sum_cons, List.sum_nil, zo_c, zci, zcJ]; decide) (by decide)) (zCall_mono w (zA_v (fun h12 w => ?_) (fun e h w => zA_x rfl w)))
      refine zR_aln zfe_228_44 g0 ?_
      refine zG_p zfe_228_45 (zki_0 _) ?_
      refine zR_iln zfe_228_46 g2 ?_
      refine zG_p zfe_228_47 (zki_1 _) ?_
      obtain ⟨_, _, hp, ho, w⟩ := w
      refine zR_cv (args := [_, _, _]) (rest := []) zfe_228_48 zlk_228_409 rfl rfl hp ho rfl (by decide) (zent_of znl_157 (by simp only [List.map_cons, List.map_nil, List.sum_cons, List.sum_nil, zo_c, zci, zcJ]; decide) (by decide)) (zCall_mono w (zA_i (fun x13 h14 w => ?_) (fun e h w => zA_x rfl w)))
      refine zG_if 76 zfe_228_51 rfl (fun q => ?_) (fun q => ?_)
      · have w := w.1 q
        refine zG_p zfe_228_76 (zki_m1 _) ?_
        exact zs_228_77 g0 g1 w
      · have w := w.2 q
        refine zR_aln zfe_228_54 g0 ?_
        refine zG_p zfe_228_55 (zki_0 _) ?_
        refine zR_aln zfe_228_56 g0 ?_
        obtain ⟨_, _, x15, hp, ho, hv, w⟩ := w
        refine zR_gf zfe_228_57 zlk_228_60 (by decide) hp ho hv ?_
        refine zR_aln zfe_228_60 g0 ?_
        obtain ⟨_, _, x17, hp, ho, hv, w⟩ := w
        refine zR_gf zfe_228_61 zlk_228_60 (by decide) hp ho hv ?_
        refine zR_aln zfe_228_64 g0 ?_
        obtain ⟨_, _, x19, hp, ho, hv, w⟩ := w
        refine zR_gf zfe_228_65 zlk_228_335 (by decide) hp ho hv ?_
        obtain ⟨_, _, _, hp, ho, hj, hv, w⟩ := w
        refine zR_ia zfe_228_68 hp ho hj hv ?_
        obtain ⟨_, _, _, hp, ho, hj, hv, w⟩ := w
        refine zR_ia zfe_228_69 hp ho hj hv ?_
        obtain ⟨_, _, hp, ho, w⟩ := w
        refine zR_cv (args := [_, _]) (rest := []) zfe_228_70 zlk_228_312 rfl rfl hp ho rfl (by decide) (zent_of znl_182 (by simp only [List.map_cons, List.map_nil, List.sum_cons, List.sum_nil, zo_c, zci, zcJ]; decide) (by decide)) (zCall_mono w (zA_i (fun x23 h24 w => ?_) (fun e h w => zA_x rfl w)))
        refine zG_go 77 zfe_228_73 rfl ?_
        exact zs_228_77 g0 g1 w
    · have w := w.1 (Int32.not_le.mp q)
      exact zs_228_32 g0 w
theorem zm_228 {xs : List Value} {d : Nat} {Q : zO → zH → Prop} {l0 : zP} {l1 : Int32} {h : zH} (w : zw_228_0 xs d Q  l0 l1 h) : zG xs d (228, 0, lv_args 0 [zo l0, Value.int l1], []) h Q := zs_228_0  (by cases l0 <;> rfl) (by cases l0 <;> rfl) w
-- 229: PactLedgerModel.octet(I)I
def zw_229_24 (xs : List Value) (d : Nat) (Q : zO → zH → Prop) (s0 : Int32) (s1 : Int32) (s2 : zP) (h : zH) : Prop := zCV xs d 156 12 s2 [Value.int s1, Value.int s0] h (zKI (fun x1 h2 => Q (.inl (some (Value.int x1))) h2) (fun e h => Q (.inr e) h))
theorem zs_229_24 {xs : List Value} {d : Nat} {Q : zO → zH → Prop} {s0 : Int32} {s1 : Int32} {s2 : zP} {h : zH} {lv : List (Nat × Value)}  (w : zw_229_24 xs d Q s0 s1 s2 h) : zG xs d (229, 24, lv, [Value.int s0, Value.int s1, zo s2]) h Q := by
  unfold zw_229_24 at w
  obtain ⟨_, _, hp, ho, w⟩ := w
  refine zR_cv (args := [_, _]) (rest := []) zfe_229_24 zlk_229_427 rfl rfl hp ho rfl (by decide) (zent_of znl_156 (by simp only [List.map_cons, List.map_nil, List.sum_cons, List.sum_nil, zo_c, zci, zcJ]; decide) (by decide)) (zCall_mono w (zA_i (fun x1 h2 w => ?_) (fun e h w => zA_x rfl w)))
  exact zR_ri zfe_229_27 zrt_229 w
def zw_229_23 (xs : List Value) (d : Nat) (Q : zO → zH → Prop) (s0 : Int32) (s1 : zP) (h : zH) : Prop := zw_229_24 xs d Q (-1 : Int32) s0 s1 h
theorem zs_229_23 {xs : List Value} {d : Nat} {Q : zO → zH → Prop} {s0 : Int32} {s1 : zP} {h : zH} {lv : List (Nat × Value)}  (w : zw_229_23 xs d Q s0 s1 h) : zG xs d (229, 23, lv, [Value.int s0, zo s1]) h Q := by
  unfold zw_229_23 at w
  refine zG_p zfe_229_23 (zki_m1 _) ?_
  exact zs_229_24 w
def zw_229_0 (xs : List Value) (d : Nat) (Q : zO → zH → Prop) (l0 : zP) (l1 : Int32) (h : zH) : Prop := ((l1 < 0 → zw_229_23 xs d Q (0 : Int32) l0 h) ∧ (¬ l1 < 0 → zGI l0 12 4 h fun x1 => ((l1 < x1 → zGR l0 12 2 h fun x3 => zIA xs x3 l1 h fun x5 => zw_229_24 xs d Q x5 (0 : Int32) l0 h) ∧ (¬ l1 < x1 → zw_229_23 xs d Q (0 : Int32) l0 h))))
theorem zs_229_0 {xs : List Value} {d : Nat} {Q : zO → zH → Prop} {l0 : zP} {l1 : Int32} {h : zH} {lv : List (Nat × Value)} (g0 : zgetl lv 0 = some (zo l0)) (g1 : zgetl lv 1 = some (Value.int l1)) (w : zw_229_0 xs d Q l0 l1 h) : zG xs d (229, 0, lv, []) h Q := by
  unfold zw_229_0 at w
  refine zR_aln zfe_229_0 g0 ?_
  refine zG_p zfe_229_1 (zki_0 _) ?_
  refine zR_iln zfe_229_2 g1 ?_
  refine zG_if 23 zfe_229_3 rfl (fun q => ?_) (fun q => ?_)
  · have w := w.1 q
    exact zs_229_23 w
  · have w := w.2 q
    refine zR_iln zfe_229_6 g1 ?_
    refine zR_aln zfe_229_7 g0 ?_
    obtain ⟨_, _, x1, hp, ho, hv, w⟩ := w
    refine zR_gf zfe_229_8 zlk_229_231 (by decide) hp ho hv ?_
    refine zG_ic 23 zfe_229_11 rfl (fun q => ?_) (fun q => ?_)
    · have w := w.2 (Int32.not_lt.mpr q)
      exact zs_229_23 w
    · have w := w.1 (Int32.not_le.mp q)
      refine zR_aln zfe_229_14 g0 ?_
      obtain ⟨_, _, x3, hp, ho, hv, w⟩ := w
      refine zR_gf zfe_229_15 zlk_229_13 (by decide) hp ho hv ?_
      refine zR_iln zfe_229_18 g1 ?_
      obtain ⟨_, _, _, hp, ho, hj, hv, w⟩ := w
      refine zR_ia zfe_229_19 hp ho hj hv ?_
      refine zG_go 24 zfe_229_20 rfl ?_
      exact zs_229_24 w
theorem zm_229 {xs : List Value} {d : Nat} {Q : zO → zH → Prop} {l0 : zP} {l1 : Int32} {h : zH} (w : zw_229_0 xs d Q  l0 l1 h) : zG xs d (229, 0, lv_args 0 [zo l0, Value.int l1], []) h Q := zs_229_0  (by cases l0 <;> rfl) (by cases l0 <;> rfl) w
-- 230: PactLedgerModel.about(II)I
def zw_230_34 (xs : List Value) (d : Nat) (Q : zO → zH → Prop) (s0 : Int32) (s1 : Int32) (s2 : zP) (h : zH) : Prop := zCV xs d 156 12 s2 [Value.int s1, Value.int s0] h (zKI (fun x1 h2 => Q (.inl (some (Value.int x1))) h2) (fun e h => Q (.inr e) h))
theorem zs_230_34 {xs : List Value} {d : Nat} {Q : zO → zH → Prop} {s0 : Int32} {s1 : Int32} {s2 : zP} {h : zH} {lv : List (Nat × Value)}  (w : zw_230_34 xs d Q s0 s1 s2 h) : zG xs d (230, 34, lv, [Value.int s0, Value.int s1, zo s2]) h Q := by
  unfold zw_230_34 at w
  obtain ⟨_, _, hp, ho, w⟩ := w
  refine zR_cv (args := [_, _]) (rest := []) zfe_230_34 zlk_230_427 rfl rfl hp ho rfl (by decide) (zent_of znl_156 (by simp only [List.map_cons, List.map_nil, List.sum_cons, List.sum_nil, zo_c, zci, zcJ]; decide) (by decide)) (zCall_mono w (zA_i (fun x1 h2 w => ?_) (fun e h w => zA_x rfl w)))
  exact zR_ri zfe_230_37 zrt_230 w
def zw_230_33 (xs : List Value) (d : Nat) (Q : zO → zH → Prop) (s0 : Int32) (s1 : zP) (h : zH) : Prop := zw_230_34 xs d Q (-1 : Int32) s0 s1 h
theorem zs_230_33 {xs : List Value} {d : Nat} {Q : zO → zH → Prop} {s0 : Int32} {s1 : zP} {h : zH} {lv : List (Nat × Value)}  (w : zw_230_33 xs d Q s0 s1 h) : zG xs d (230, 33, lv, [Value.int s0, zo s1]) h Q := by
  unfold zw_230_33 at w
  refine zG_p zfe_230_33 (zki_m1 _) ?_
  exact zs_230_34 w
def zw_230_0 (xs : List Value) (d : Nat) (Q : zO → zH → Prop) (l0 : zP) (l1 : Int32) (l2 : Int32) (h : zH) : Prop := zCV xs d 198 12 l0 [Value.int l1] h (zKI (fun x1 h2 => ((x1 = 0 → zw_230_33 xs d Q (0 : Int32) l0 h2) ∧ (¬ x1 = 0 → ((l2 < 0 → zw_230_33 xs d Q (0 : Int32) l0 h2) ∧ (¬ l2 < 0 → (((5 : Int32) < l2 → zw_230_33 xs d Q (0 : Int32) l0 h2) ∧ (¬ (5 : Int32) < l2 → zGR l0 12 63 h2 fun x3 => zIA xs x3 (((6 : Int32) * l1) + l2) h2 fun x5 => zw_230_34 xs d Q x5 (0 : Int32) l0 h2))))))) (fun e h => Q (.inr e) h))
theorem zs_230_0 {xs : List Value} {d : Nat} {Q : zO → zH → Prop} {l0 : zP} {l1 : Int32} {l2 : Int32} {h : zH} {lv : List (Nat × Value)} (g0 : zgetl lv 0 = some (zo l0)) (g1 : zgetl lv 1 = some (Value.int l1)) (g2 : zgetl lv 2 = some (Value.int l2)) (w : zw_230_0 xs d Q l0 l1 l2 h) : zG xs d (230, 0, lv, []) h Q := by
  unfold zw_230_0 at w
  refine zR_aln zfe_230_0 g0 ?_
  refine zG_p zfe_230_1 (zki_0 _) ?_
  refine zR_aln zfe_230_2 g0 ?_
  refine zR_iln zfe_230_3 g1 ?_
  obtain ⟨_, _, hp, ho, w⟩ := w
  refine zR_cv (args := [_]) (rest := [_, _]) zfe_230_4 zlk_230_433 rfl rfl hp ho rfl (by simp only [List.map_cons, List.map_nil, List.sum_cons, List.sum_nil, zo_c, zci, zcJ]; decide) (zent_of znl_198 (by simp only [List.map_cons, List.map_nil, List.sum_cons, List.sum_nil, zo_c, zci, zcJ]; decide) (by decide)) (zCall_mono w (zA_i (fun x1 h2 w => ?_) (fun e h w => zA_x rfl w)))
  refine zG_if 33 zfe_230_7 rfl (fun q => ?_) (fun q => ?_)
  · have w := w.1 q
    exact zs_230_33 w
  · have w := w.2 q
    refine zR_iln zfe_230_10 g2 ?_
    refine zG_if 33 zfe_230_11 rfl (fun q => ?_) (fun q => ?_)
    · have w := w.1 q
      exact zs_230_33 w
    · have w := w.2 q
      refine zR_iln zfe_230_14 g2 ?_
      refine zG_p zfe_230_15 (zki_5 _) ?_
      refine zG_ic 33 zfe_230_16 rfl (fun q => ?_) (fun q => ?_)
      · have w := w.1 q
        exact zs_230_33 w
      · have w := w.2 q
        refine zR_aln zfe_230_19 g0 ?_
        obtain ⟨_, _, x3, hp, ho, hv, w⟩ := w
        refine zR_gf zfe_230_20 zlk_230_138 (by decide) hp ho hv ?_
        refine zG_p zfe_230_23 (zkb_6 _) ?_
        refine zR_iln zfe_230_25 g1 ?_
        refine zG_p zfe_230_26 rfl ?_
        refine zR_iln zfe_230_27 g2 ?_
        refine zG_p zfe_230_28 rfl ?_
        obtain ⟨_, _, _, hp, ho, hj, hv, w⟩ := w
        refine zR_ia zfe_230_29 hp ho hj hv ?_
        refine zG_go 34 zfe_230_30 rfl ?_
        exact zs_230_34 w
theorem zm_230 {xs : List Value} {d : Nat} {Q : zO → zH → Prop} {l0 : zP} {l1 : Int32} {l2 : Int32} {h : zH} (w : zw_230_0 xs d Q  l0 l1 l2 h) : zG xs d (230, 0, lv_args 0 [zo l0, Value.int l1, Value.int l2], []) h Q := zs_230_0  (by cases l0 <;> rfl) (by cases l0 <;> rfl) (by cases l0 <;> rfl) w
-- 231: PactLedgerModel.count(I)I
def zw_231_38 (xs : List Value) (d : Nat) (Q : zO → zH → Prop) (s0 : Int32) (s1 : Int32) (s2 : zP) (h : zH) : Prop := zCV xs d 156 12 s2 [Value.int s1, Value.int s0] h (zKI (fun x1 h2 => Q (.inl (some (Value.int x1))) h2) (fun e h => Q (.inr e) h))
theorem zs_231_38 {xs : List Value} {d : Nat} {Q : zO → zH → Prop} {s0 : Int32} {s1 : Int32} {s2 : zP} {h : zH} {lv : List (Nat × Value)}  (w : zw_231_38 xs d Q s0 s1 s2 h) : zG xs d (231, 38, lv, [Value.int s0, Value.int s1, zo s2]) h Q := by
  unfold zw_231_38 at w
  obtain ⟨_, _, hp, ho, w⟩ := w
  refine zR_cv (args := [_, _]) (rest := []) zfe_231_38 zlk_231_427 rfl rfl hp ho rfl (by decide) (zent_of znl_156 (by simp only [List.map_cons, List.map_nil, List.sum_cons, List.sum_nil, zo_c, zci, zcJ]; decide) (by decide)) (zCall_mono w (zA_i (fun x1 h2 w => ?_) (fun e h w => zA_x rfl w)))
  exact zR_ri zfe_231_41 zrt_231 w
def zw_231_0 (xs : List Value) (d : Nat) (Q : zO → zH → Prop) (l0 : zP) (l1 : Int32) (h : zH) : Prop := ((l1 = 0 → zGI l0 12 53 h fun x5 => zw_231_38 xs d Q x5 (0 : Int32) l0 h) ∧ (¬ l1 = 0 → ((l1 = (1 : Int32) → zGI l0 12 3 h fun x3 => zw_231_38 xs d Q x3 (0 : Int32) l0 h) ∧ (¬ l1 = (1 : Int32) → ((l1 = (2 : Int32) → zGI l0 12 4 h fun x1 => zw_231_38 xs d Q x1 (0 : Int32) l0 h) ∧ (¬ l1 = (2 : Int32) → zw_231_38 xs d Q (-1 : Int32) (0 : Int32) l0 h))))))
theorem zs_231_0 {xs : List Value} {d : Nat} {Q : zO → zH → Prop} {l0 : zP} {l1 : Int32} {h : zH} {lv : List (Nat × Value)} (g0 : zgetl lv 0 = some (zo l0)) (g1 : zgetl lv 1 = some (Value.int l1)) (w : zw_231_0 xs d Q l0 l1 h) : zG xs d (231, 0, lv, []) h Q := by
  unfold zw_231_0 at w
  refine zR_aln zfe_231_0 g0 ?_
  refine zG_p zfe_231_1 (zki_0 _) ?_
  refine zR_iln zfe_231_2 g1 ?_
  refine zG_if 13 zfe_231_3 rfl (fun q => ?_) (fun q => ?_)
  · have w := w.2 q
    refine zR_iln zfe_231_13 g1 ?_
    refine zG_p zfe_231_14 (zki_1 _) ?_
    refine zG_ic 25 zfe_231_15 rfl (fun q => ?_) (fun q => ?_)
    · have w := w.2 q
      refine zR_iln zfe_231_25 g1 ?_
      refine zG_p zfe_231_26 (zki_2 _) ?_
      refine zG_ic 37 zfe_231_27 rfl (fun q => ?_) (fun q => ?_)
      · have w := w.2 q
        refine zG_p zfe_231_37 (zki_m1 _) ?_
        exact zs_231_38 w
      · have w := w.1 (Decidable.not_not.mp q)
        refine zR_aln zfe_231_30 g0 ?_
        obtain ⟨_, _, x1, hp, ho, hv, w⟩ := w
        refine zR_gf zfe_231_31 zlk_231_231 (by decide) hp ho hv ?_
        refine zG_go 38 zfe_231_34 rfl ?_
        exact zs_231_38 w
    · have w := w.1 (Decidable.not_not.mp q)
      refine zR_aln zfe_231_18 g0 ?_
      obtain ⟨_, _, x3, hp, ho, hv, w⟩ := w
      refine zR_gf zfe_231_19 zlk_231_419 (by decide) hp ho hv ?_
      refine zG_go 38 zfe_231_22 rfl ?_
      exact zs_231_38 w
  · have w := w.1 (Decidable.not_not.mp q)
    refine zR_aln zfe_231_6 g0 ?_
    obtain ⟨_, _, x5, hp, ho, hv, w⟩ := w
    refine zR_gf zfe_231_7 zlk_231_424 (by decide) hp ho hv ?_
    refine zG_go 38 zfe_231_10 rfl ?_
    exact zs_231_38 w
theorem zm_231 {xs : List Value} {d : Nat} {Q : zO → zH → Prop} {l0 : zP} {l1 : Int32} {h : zH} (w : zw_231_0 xs d Q  l0 l1 h) : zG xs d (231, 0, lv_args 0 [zo l0, Value.int l1], []) h Q := zs_231_0  (by cases l0 <;> rfl) (by cases l0 <;> rfl) w
