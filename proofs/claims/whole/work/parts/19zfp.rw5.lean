/-! the reference at work: what is reckoned -/
section RW5
variable {xs : List Value} {d : Nat} {h : zH} {N : List zNt} {M0 M M' : Nat → zE} {F0 F F' : Nat → Value} {Q : zO → zH → Prop} {ce : List (Nat × Nat × Nat)} {lo : List (Nat × Nat)} {Ts vs st : List Term} {pd : List Int32} {most p bits bound held C c j fr n m ca cb : Nat} {a b : Int32} {K V : Term} {A : List Nat} {s t : Bool}
/-- too many bits, or characters -/
def zDx (Q : zO → zH → Prop) (h : zH) (N : List zNt) (M0 : Nat → zE) (F0 : Nat → Value) (Ts vs : List Term) (most : Nat) (pd : List Int32) (p : Nat) : Prop := ∀ M' F' ce' lo', zWS N M0 M' F0 F' Ts vs most pd p ce' lo' → Q (.inl (some (.int (-2)))) (zov h M')
theorem zmn_Rc (hv : zRc ce lo (zmn s n) (.inl ca)) : zNm ce lo ca s n ∧ n < 2 ^ 120 ∧ (s = true → n ≠ 0) := by
  cases s
  · exact ⟨hv.1, hv.2.1, fun z => by cases z⟩
  · exact ⟨hv.1, hv.2.1, fun _ => by rcases hv.2.2 with z | z; cases z; exact z.2⟩
theorem zRc_mn (h1 : zNm ce lo ca s n) (h2 : n < 2 ^ 120) (h3 : s = true → n ≠ 0) : zRc ce lo (zmn s n) (.inl ca) := by
  cases s
  · exact ⟨h1, h2, Or.inl rfl⟩
  · exact ⟨h1, h2, Or.inr ⟨rfl, h3 rfl⟩⟩
theorem zM_bd {w x y : Nat} {K : Int32 → Prop} (hl : 50 ≤ h.1.length) (hp : zPo M F ce lo) (hi : ce[ca]? = some (w, x, y)) (k : K (nI y)) : zGR (some 10) 12 32 (zov h M) fun x1 => zSA x1 (nI ca) (zov h M) K := zM_body hl hp hi k
/-- the sign of a -/
theorem zpre_n (hl : 50 ≤ h.1.length) (hp : zPo M F ce lo) (hv : zRc ce lo (zmn s n) (.inl ca)) (g : zw_217_63 xs (d + 1) Q (some 10) (nI c) (nI ca) b (if n = 0 then 0 else zSg s) (zov h M)) : zw_217_0 xs (d + 1) Q (some 10) (nI c) (nI ca) b (zov h M) := by
  obtain ⟨h1, h2, h3⟩ := zmn_Rc hv
  have hd : n / 1152921504606846976 < 2 ^ 63 := Nat.lt_of_lt_of_le (Nat.div_lt_of_lt_mul (show n < 1152921504606846976 * 2 ^ 60 from Nat.lt_of_lt_of_le h2 (by decide))) (by decide)
  have hm : n % 1152921504606846976 < 2 ^ 63 := Nat.lt_of_lt_of_le (Nat.mod_lt _ (by decide)) (by decide)
  have nz : n ≠ 0 → zw_217_46 xs (d + 1) Q (some 10) (nI c) (nI ca) b (zov h M) := fun hn => by
    rw [if_neg hn] at g
    exact ⟨fun _ => zM_cv hl hp.1 (zc192 hl hp h1 (zKI_v g)), fun z => absurd rfl z⟩
  obtain ⟨jj, e1, e2⟩ := h1
  refine zM_what hl hp e1 ⟨fun _ => ?_, fun z => absurd rfl z⟩
  have h1 : zNm ce lo ca s n := ⟨jj, e1, e2⟩
  refine zM_nh hl hp h1 ⟨fun z => zM_nl hl hp h1 ⟨fun z2 => ?_, fun z2 => nz ?_⟩, fun z => nz ?_⟩
  · rw [zL0 hd] at z
    rw [zL0 hm] at z2
    have hn : n = 0 := by omega
    rw [if_pos hn] at g
    exact ⟨fun z => absurd z (by decide), fun _ => g⟩
  · rw [zL0 hm] at z2; omega
  · rw [zL0 hd] at z; omega
theorem zpre_x {w x y : Nat} (hl : 50 ≤ h.1.length) (hp : zPo M F ce lo) (hi : ce[ca]? = some (w, x, y)) (hw : w ≠ 3) (hw2 : w < 100) (g : ∀ l5, zw_217_63 xs (d + 1) Q (some 10) (nI c) (nI ca) b l5 (zov h M)) : zw_217_0 xs (d + 1) Q (some 10) (nI c) (nI ca) b (zov h M) := by
  refine zM_what hl hp hi (pk_eq w 3 (fun z => absurd z hw) (fun _ => ⟨fun _ => zM_cv hl hp.1 (zm_192 (zM_body hl hp hi ⟨fun _ => zKI_v (g _), fun _ => zKI_v (g _)⟩)), fun z => absurd rfl z⟩))
theorem zn68 {l5 : Int32} (hc : ¬ nI c = (68 : Int32)) (g : zw_217_81 xs d Q (some 10) (nI c) (nI ca) b l5 0 h) : zw_217_63 xs d Q (some 10) (nI c) (nI ca) b l5 h := ⟨fun z => absurd z hc, fun _ => g⟩
theorem ze60 (hl : 50 ≤ h.1.length) (hw : zWC N fr bits bound M0 F0) (hs : zWS N M0 M F0 F Ts vs most pd p ce lo) (hq : zPq bits p 60 held st vs) (hab : zAbs ce lo vs a b) (hC : 1 ≤ C) (hce : ce.length + 4 ≤ 1400) (hlo : lo.length + 2 ≤ 600) (g : ∀ V, zrv bits 60 vs K = some V → zDo Q h N M0 M F0 Ts vs most pd p ce lo A C V) (g2 : zrv bits 60 vs K = none → zDx Q h N M0 F0 Ts vs most pd p) : zG xs (d + 6) (217, 0, lv_args 0 [zo (some 10), .int (nI 60), .int a, .int b], []) (zov h M) Q := by
  have hg := zPq_g hq
  have h58 : F 58 = .int (nI bits) := (hs.2.2.1 58 (by decide)).trans hw.2.2.2.2.2.1
  obtain ⟨a1, a2, a3, a4, a5, a6⟩ := hq
  have hr : (zkn (zkat st 0) && zkn (zkat st 1)) = true := a3
  simp only [Bool.and_eq_true] at hr
  have b1 := zkn_at hr.2
  obtain ⟨v, w, r, rfl⟩ := zvs2 a2 b1
  obtain ⟨s, n, e0⟩ := znu hg (zkn_at hr.1) hr.1 a2
  obtain ⟨t, m, e1⟩ := znu hg b1 hr.2 a2
  have e0 : v = zmn s n := e0
  have e1 : w = zmn t m := e1
  subst e0 e1
  obtain ⟨ca, rfl, h0⟩ := hab.1 (Nat.succ_pos _)
  obtain ⟨cb, rfl, h1⟩ := hab.2 (Nat.succ_lt_succ (Nat.succ_pos _))
  have h0 : zRc ce lo (zmn s n) (.inl ca) := h0
  have h1 : zRc ce lo (zmn t m) (.inl cb) := h1
  obtain ⟨n1, n2, n3⟩ := zmn_Rc h0
  obtain ⟨m1, m2, m3⟩ := zmn_Rc h1
  have ez : zrv bits 60 (zmn s n :: zmn t m :: r) K = zszd bits (zsum (zsg (zmn s n)) n (zsg (zmn t m)) m) := rfl
  rw [zsg_mn, zsg_mn] at ez
  have et : (t != false) = t := by cases t <;> rfl
  apply zm_217
  refine zpre_n (d := d + 5) hl hs.1 h0 (zn68 (by decide) ⟨fun _ => ?_, fun z => absurd z (by decide), fun z => absurd z (by decide), fun z => absurd z (by decide), fun z => absurd z (by decide), fun z => absurd z (by decide), fun z => absurd z (by decide), fun z => absurd z (by decide), fun z => absurd z (by decide), fun z => absurd rfl z.1⟩)
  refine zM_cv hl hs.1.1 (zc218 (g := false) (d := d + 1) hl hs.1 (by omega) (by omega) h58 a4 n1 m1 n2 m2 (fun z M' F' p1 s1 s2 => zKI_v ?_) (fun z M' F' ce' lo' p1 l1 l2 q1 s1 s2 => zKI_v ?_))
  · rw [et] at z
    exact g2 (by rw [ez, zszd_0 (by omega)]) M' F' ce lo (zWS_up hs s1 s2 p1 (zTbl_sm (zWS_t hs) s1 (s2 21 (by decide)) (by decide)) (fun x V => id) (zSc4_sm (zWS_4 hs) s1 (by decide)) (by decide) (by decide))
  · rw [et] at z q1
    refine g _ (by rw [ez, zszd_1 z]) M' F' Ts pd ce' lo' ce.length (zWS_up hs s1 s2 p1 (zTbl_sm (zWS_t hs) s1 (s2 21 (by decide)) (by decide)) (fun x V => zCr_app) (zSc4_sm (zWS_4 hs) s1 (by decide)) (by decide) (by decide)) (zRc_mn q1 (zp120 a4.2 z) zsum_ok.1) (by omega) (by omega) (Nat.le_refl _) (zfr_sm s1 (by decide))
theorem ze61 (hl : 50 ≤ h.1.length) (hw : zWC N fr bits bound M0 F0) (hs : zWS N M0 M F0 F Ts vs most pd p ce lo) (hq : zPq bits p 61 held st vs) (hab : zAbs ce lo vs a b) (hC : 1 ≤ C) (hce : ce.length + 4 ≤ 1400) (hlo : lo.length + 2 ≤ 600) (g : ∀ V, zrv bits 61 vs K = some V → zDo Q h N M0 M F0 Ts vs most pd p ce lo A C V) (g2 : zrv bits 61 vs K = none → zDx Q h N M0 F0 Ts vs most pd p) : zG xs (d + 6) (217, 0, lv_args 0 [zo (some 10), .int (nI 61), .int a, .int b], []) (zov h M) Q := by
  have hg := zPq_g hq
  have h58 : F 58 = .int (nI bits) := (hs.2.2.1 58 (by decide)).trans hw.2.2.2.2.2.1
  obtain ⟨a1, a2, a3, a4, a5, a6⟩ := hq
  have hr : (zkn (zkat st 0) && zkn (zkat st 1)) = true := a3
  simp only [Bool.and_eq_true] at hr
  have b1 := zkn_at hr.2
  obtain ⟨v, w, r, rfl⟩ := zvs2 a2 b1
  obtain ⟨s, n, e0⟩ := znu hg (zkn_at hr.1) hr.1 a2
  obtain ⟨t, m, e1⟩ := znu hg b1 hr.2 a2
  have e0 : v = zmn s n := e0
  have e1 : w = zmn t m := e1
  subst e0 e1
  obtain ⟨ca, rfl, h0⟩ := hab.1 (Nat.succ_pos _)
  obtain ⟨cb, rfl, h1⟩ := hab.2 (Nat.succ_lt_succ (Nat.succ_pos _))
  have h0 : zRc ce lo (zmn s n) (.inl ca) := h0
  have h1 : zRc ce lo (zmn t m) (.inl cb) := h1
  obtain ⟨n1, n2, n3⟩ := zmn_Rc h0
  obtain ⟨m1, m2, m3⟩ := zmn_Rc h1
  have ez : zrv bits 61 (zmn s n :: zmn t m :: r) K = zszd bits (zsum (zsg (zmn s n)) n (!(zsg (zmn t m))) m) := rfl
  rw [zsg_mn, zsg_mn] at ez
  have et : (t != true) = (!t) := by cases t <;> rfl
  apply zm_217
  refine zpre_n (d := d + 5) hl hs.1 h0 (zn68 (by decide) ⟨fun z => absurd z (by decide), fun _ => ?_, fun z => absurd z (by decide), fun z => absurd z (by decide), fun z => absurd z (by decide), fun z => absurd z (by decide), fun z => absurd z (by decide), fun z => absurd z (by decide), fun z => absurd z (by decide), fun z => absurd rfl z.2.1⟩)
  refine zM_cv hl hs.1.1 (zc218 (g := true) (d := d + 1) hl hs.1 (by omega) (by omega) h58 a4 n1 m1 n2 m2 (fun z M' F' p1 s1 s2 => zKI_v ?_) (fun z M' F' ce' lo' p1 l1 l2 q1 s1 s2 => zKI_v ?_))
  · rw [et] at z
    exact g2 (by rw [ez, zszd_0 (by omega)]) M' F' ce lo (zWS_up hs s1 s2 p1 (zTbl_sm (zWS_t hs) s1 (s2 21 (by decide)) (by decide)) (fun x V => id) (zSc4_sm (zWS_4 hs) s1 (by decide)) (by decide) (by decide))
  · rw [et] at z q1
    refine g _ (by rw [ez, zszd_1 z]) M' F' Ts pd ce' lo' ce.length (zWS_up hs s1 s2 p1 (zTbl_sm (zWS_t hs) s1 (s2 21 (by decide)) (by decide)) (fun x V => zCr_app) (zSc4_sm (zWS_4 hs) s1 (by decide)) (by decide) (by decide)) (zRc_mn q1 (zp120 a4.2 z) zsum_ok.1) (by omega) (by omega) (Nat.le_refl _) (zfr_sm s1 (by decide))
theorem ze62 (hl : 50 ≤ h.1.length) (hw : zWC N fr bits bound M0 F0) (hs : zWS N M0 M F0 F Ts vs most pd p ce lo) (hq : zPq bits p 62 held st vs) (hab : zAbs ce lo vs a b) (hC : 1 ≤ C) (hce : ce.length + 4 ≤ 1400) (hlo : lo.length + 2 ≤ 600) (g : ∀ V, zrv bits 62 vs K = some V → zDo Q h N M0 M F0 Ts vs most pd p ce lo A C V) (g2 : zrv bits 62 vs K = none → zDx Q h N M0 F0 Ts vs most pd p) : zG xs (d + 6) (217, 0, lv_args 0 [zo (some 10), .int (nI 62), .int a, .int b], []) (zov h M) Q := by
  have hg := zPq_g hq
  have h58 : F 58 = .int (nI bits) := (hs.2.2.1 58 (by decide)).trans hw.2.2.2.2.2.1
  obtain ⟨a1, a2, a3, a4, a5, a6⟩ := hq
  have hr : (zkn (zkat st 0) && zkn (zkat st 1)) = true := a3
  simp only [Bool.and_eq_true] at hr
  have b1 := zkn_at hr.2
  obtain ⟨v, w, r, rfl⟩ := zvs2 a2 b1
  obtain ⟨s, n, e0⟩ := znu hg (zkn_at hr.1) hr.1 a2
  obtain ⟨t, m, e1⟩ := znu hg b1 hr.2 a2
  have e0 : v = zmn s n := e0
  have e1 : w = zmn t m := e1
  subst e0 e1
  obtain ⟨ca, rfl, h0⟩ := hab.1 (Nat.succ_pos _)
  obtain ⟨cb, rfl, h1⟩ := hab.2 (Nat.succ_lt_succ (Nat.succ_pos _))
  have h0 : zRc ce lo (zmn s n) (.inl ca) := h0
  have h1 : zRc ce lo (zmn t m) (.inl cb) := h1
  obtain ⟨n1, n2, n3⟩ := zmn_Rc h0
  obtain ⟨m1, m2, m3⟩ := zmn_Rc h1
  have ez : zrv bits 62 (zmn s n :: zmn t m :: r) K = zszd bits ((zsg (zmn s n) != zsg (zmn t m)) && (n * m != 0), n * m) := rfl
  rw [zsg_mn, zsg_mn] at ez
  apply zm_217
  refine zpre_n (d := d + 5) hl hs.1 h0 (zn68 (by decide) ⟨fun z => absurd z (by decide), fun z => absurd z (by decide), fun _ => ?_, fun z => absurd z (by decide), fun z => absurd z (by decide), fun z => absurd z (by decide), fun z => absurd z (by decide), fun z => absurd z (by decide), fun z => absurd z (by decide), fun z => absurd rfl z.2.2.1⟩)
  refine zM_cv hl hs.1.1 (zc223 (d := d + 1) hl hs.1 (by omega) (by omega) h58 a4 n1 m1 n2 m2 (fun z M' F' p1 s1 s2 => zKI_v ?_) (fun z M' F' ce' lo' p1 l1 l2 q1 s1 s2 => zKI_v ?_))
  · exact g2 (by rw [ez, zszd_0 (by show ¬ n * m < _; omega)]) M' F' ce lo (zWS_up hs s1 s2 p1 (zTbl_sm (zWS_t hs) s1 (s2 21 (by decide)) (by decide)) (fun x V => id) (zSc4_sm (zWS_4 hs) s1 (by decide)) (by decide) (by decide))
  · refine g _ (by rw [ez, zszd_1 z]) M' F' Ts pd ce' lo' ce.length (zWS_up hs s1 s2 p1 (zTbl_sm (zWS_t hs) s1 (s2 21 (by decide)) (by decide)) (fun x V => zCr_app) (zSc4_sm (zWS_4 hs) s1 (by decide)) (by decide) (by decide)) (zRc_mn q1 (zp120 a4.2 z) (fun z => by simp at z; simpa using z.2)) (by omega) (by omega) (Nat.le_refl _) (zfr_sm s1 (by decide))
theorem ze63 (hl : 50 ≤ h.1.length) (hw : zWC N fr bits bound M0 F0) (hs : zWS N M0 M F0 F Ts vs most pd p ce lo) (hq : zPq bits p 63 held st vs) (hab : zAbs ce lo vs a b) (hC : 1 ≤ C) (hce : ce.length + 4 ≤ 1400) (hlo : lo.length + 2 ≤ 600) (g : ∀ V, zrv bits 63 vs K = some V → zDo Q h N M0 M F0 Ts vs most pd p ce lo A C V) (g2 : zrv bits 63 vs K = none → zDx Q h N M0 F0 Ts vs most pd p) : zG xs (d + 6) (217, 0, lv_args 0 [zo (some 10), .int (nI 63), .int a, .int b], []) (zov h M) Q := by
  have hg := zPq_g hq
  have h58 : F 58 = .int (nI bits) := (hs.2.2.1 58 (by decide)).trans hw.2.2.2.2.2.1
  obtain ⟨a1, a2, a3, a4, a5, a6⟩ := hq
  have hr : (zkn (zkat st 0) && zkn (zkat st 1)) = true := a3
  simp only [Bool.and_eq_true] at hr
  have b1 := zkn_at hr.2
  obtain ⟨v, w, r, rfl⟩ := zvs2 a2 b1
  obtain ⟨s, n, e0⟩ := znu hg (zkn_at hr.1) hr.1 a2
  obtain ⟨t, m, e1⟩ := znu hg b1 hr.2 a2
  have e0 : v = zmn s n := e0
  have e1 : w = zmn t m := e1
  subst e0 e1
  obtain ⟨ca, rfl, h0⟩ := hab.1 (Nat.succ_pos _)
  obtain ⟨cb, rfl, h1⟩ := hab.2 (Nat.succ_lt_succ (Nat.succ_pos _))
  have h0 : zRc ce lo (zmn s n) (.inl ca) := h0
  have h1 : zRc ce lo (zmn t m) (.inl cb) := h1
  obtain ⟨n1, n2, n3⟩ := zmn_Rc h0
  obtain ⟨m1, m2, m3⟩ := zmn_Rc h1
  have ez : zrv bits 63 (zmn s n :: zmn t m :: r) K = (if m = 0 then some (.arg 24) else if (zquo (zsg (zmn s n)) n (zsg (zmn t m)) m).1.2 < 2 ^ bits ∧ (zquo (zsg (zmn s n)) n (zsg (zmn t m)) m).2 < 2 ^ bits then some (.div (.arg 25) (.add (.div (.arg 23) (zmn (zquo (zsg (zmn s n)) n (zsg (zmn t m)) m).1.1 (zquo (zsg (zmn s n)) n (zsg (zmn t m)) m).1.2)) (zmn false (zquo (zsg (zmn s n)) n (zsg (zmn t m)) m).2))) else none : Option Term) := rfl
  rw [zsg_mn, zsg_mn] at ez
  apply zm_217
  refine zpre_n (d := d + 5) hl hs.1 h0 (zn68 (by decide) ⟨fun z => absurd z (by decide), fun z => absurd z (by decide), fun z => absurd z (by decide), fun _ => ?_, fun z => absurd z (by decide), fun z => absurd z (by decide), fun z => absurd z (by decide), fun z => absurd z (by decide), fun z => absurd z (by decide), fun z => absurd rfl z.2.2.2.1⟩)
  by_cases m0 : m = 0
  · subst m0
    rw [if_pos rfl] at ez
    refine zM_cv hl hs.1.1 (zc225z (d := d + 4) hl hs.1 (by omega) m1 (fun M' F' p1 s1 s2 => zKI_v ?_))
    refine g _ ez M' F' Ts pd [(6, 0, 0)] [] ce.length ?_ ?_ (by rw [List.length_singleton]; omega) (by rw [List.length_nil]; omega) (Nat.le_refl _) (zfr_sm s1 (by decide))
    · refine zWS_up hs s1 s2 (by rw [List.append_nil]; exact p1) (zTbl_sm (zWS_t hs) s1 (s2 21 (by decide)) (by decide)) (fun x V => zCr_app) (zSc4_sm (zWS_4 hs) s1 (by decide)) (by decide) (by decide)
    · rw [List.append_nil]; exact ⟨0, 0, zget_new⟩
  · rw [if_neg m0] at ez
    refine zM_cv hl hs.1.1 (zc225 (d := d + 1) hl hs.1 hce hlo h58 a4 n1 m1 n2 m2 (by omega) (fun z M' F' ce' lo' p1 l1 l2 s1 s2 => zKI_v ?_) (fun z1 z2 M' F' ce' lo' p1 l1 l2 q1 q2 q3 q4 s1 s2 => zKI_v ?_))
    · exact g2 (by rw [ez, if_neg (by omega)]) M' F' (ce ++ ce') (lo ++ lo') (zWS_up hs s1 s2 p1 (zTbl_sm (zWS_t hs) s1 (s2 21 (by decide)) (by decide)) (fun x V => zCr_app) (zSc4_sm (zWS_4 hs) s1 (by decide)) (by decide) (by decide))
    · refine g _ (by rw [ez, if_pos ⟨z1, z2⟩]) M' F' Ts pd ce' lo' (ce.length + 3) (zWS_up hs s1 s2 p1 (zTbl_sm (zWS_t hs) s1 (s2 21 (by decide)) (by decide)) (fun x V => zCr_app) (zSc4_sm (zWS_4 hs) s1 (by decide)) (by decide) (by decide)) ?_ (by omega) (by omega) (Nat.le_refl _) (zfr_sm s1 (by decide))
      exact ⟨ce.length + 2, 0, q4, ce.length + 1, ce.length, q3, zRc_mn q2 (zp120 a4.2 z1) zquo_ok.1, zRc_mn q1 (zp120 a4.2 z2) (fun z => by cases z)⟩
theorem ze64 (hl : 50 ≤ h.1.length) (hw : zWC N fr bits bound M0 F0) (hs : zWS N M0 M F0 F Ts vs most pd p ce lo) (hq : zPq bits p 64 held st vs) (hab : zAbs ce lo vs a b) (hC : 1 ≤ C) (hce : ce.length + 4 ≤ 1400) (hlo : lo.length + 2 ≤ 600) (g : ∀ V, zrv bits 64 vs K = some V → zDo Q h N M0 M F0 Ts vs most pd p ce lo A C V) (g2 : zrv bits 64 vs K = none → zDx Q h N M0 F0 Ts vs most pd p) : zG xs (d + 6) (217, 0, lv_args 0 [zo (some 10), .int (nI 64), .int a, .int b], []) (zov h M) Q := by
  have hg := zPq_g hq
  have h58 : F 58 = .int (nI bits) := (hs.2.2.1 58 (by decide)).trans hw.2.2.2.2.2.1
  obtain ⟨a1, a2, a3, a4, a5, a6⟩ := hq
  have hk : zkn (zkat st 0) = true := a3
  have b1 := zkn_at hk
  obtain ⟨v, r, rfl⟩ := zvs1 a2 b1
  obtain ⟨s, n, e0⟩ := znu hg b1 hk a2
  have e0 : v = zmn s n := e0
  subst e0
  obtain ⟨ca, rfl, h0⟩ := hab.1 (Nat.succ_pos _)
  have h0 : zRc ce lo (zmn s n) (.inl ca) := h0
  obtain ⟨n1, n2, n3⟩ := zmn_Rc h0
  have ca14 := zRc_14 hs.1 h0
  have ez : zrv bits 64 (zmn s n :: r) K = some (zmn (!(zsg (zmn s n)) && n != 0) n) := rfl
  rw [zsg_mn] at ez
  have gg := g _ ez
  apply zm_217
  refine zpre_n (d := d + 5) hl hs.1 h0 (zn68 (by decide) ⟨fun z => absurd z (by decide), fun z => absurd z (by decide), fun z => absurd z (by decide), fun z => absurd z (by decide), fun _ => ?_, fun z => absurd z (by decide), fun z => absurd z (by decide), fun z => absurd z (by decide), fun z => absurd z (by decide), fun z => absurd (Or.inl rfl) z.2.2.2.2.1⟩)
  have n1' := n1
  obtain ⟨jj, e1, e2⟩ := n1'
  refine zM_nh hl hs.1 n1 (zM_nl hl hs.1 n1 ⟨fun _ => zM_bd hl hs.1 e1 ?_, fun z => absurd rfl z⟩)
  cases s
  · exact ⟨fun _ => zdo_n (s := true) (d := d + 3) hl hs hC (by omega) (by omega) n2 gg, fun z => absurd rfl z⟩
  · exact ⟨fun z => absurd (show nI 1 = 0 from z) (by decide), fun _ => zdo_n (s := false) (d := d + 3) hl hs hC (by omega) (by omega) n2 gg⟩
theorem ze65 (hl : 50 ≤ h.1.length) (hw : zWC N fr bits bound M0 F0) (hs : zWS N M0 M F0 F Ts vs most pd p ce lo) (hq : zPq bits p 65 held st vs) (hab : zAbs ce lo vs a b) (hC : 1 ≤ C) (hce : ce.length + 4 ≤ 1400) (hlo : lo.length + 2 ≤ 600) (g : ∀ V, zrv bits 65 vs K = some V → zDo Q h N M0 M F0 Ts vs most pd p ce lo A C V) (g2 : zrv bits 65 vs K = none → zDx Q h N M0 F0 Ts vs most pd p) : zG xs (d + 6) (217, 0, lv_args 0 [zo (some 10), .int (nI 65), .int a, .int b], []) (zov h M) Q := by
  have hg := zPq_g hq
  have h58 : F 58 = .int (nI bits) := (hs.2.2.1 58 (by decide)).trans hw.2.2.2.2.2.1
  obtain ⟨a1, a2, a3, a4, a5, a6⟩ := hq
  have hr := zkhs_c (k := 0) (c := 2) a3
  have b1 := hr.1
  have hk : zkn (zkat st 0) = true := by unfold zkn; rw [hr.2]; rfl
  obtain ⟨v, r, rfl⟩ := zvs1 a2 b1
  obtain ⟨s, n, e0⟩ := znu hg b1 hk a2
  have e0 : v = zmn s n := e0
  subst e0
  obtain ⟨ca, rfl, h0⟩ := hab.1 (Nat.succ_pos _)
  have h0 : zRc ce lo (zmn s n) (.inl ca) := h0
  obtain ⟨n1, n2, n3⟩ := zmn_Rc h0
  have ca14 := zRc_14 hs.1 h0
  have gg := g _ (show zrv bits 65 (zmn s n :: r) K = some (zmn false n) from rfl)
  apply zm_217
  refine zpre_n (d := d + 5) hl hs.1 h0 (zn68 (by decide) ⟨fun z => absurd z (by decide), fun z => absurd z (by decide), fun z => absurd z (by decide), fun z => absurd z (by decide), fun _ => ?_, fun z => absurd z (by decide), fun z => absurd z (by decide), fun z => absurd z (by decide), fun z => absurd z (by decide), fun z => absurd (Or.inr rfl) z.2.2.2.2.1⟩)
  exact zM_nh hl hs.1 n1 (zM_nl hl hs.1 n1 ⟨fun z => absurd z (by decide), fun _ => zdo_n (s := false) (d := d + 3) hl hs hC (by omega) (by omega) n2 gg⟩)
theorem ze66 (hl : 50 ≤ h.1.length) (hw : zWC N fr bits bound M0 F0) (hs : zWS N M0 M F0 F Ts vs most pd p ce lo) (hq : zPq bits p 66 held st vs) (hab : zAbs ce lo vs a b) (hC : 1 ≤ C) (hce : ce.length + 4 ≤ 1400) (hlo : lo.length + 2 ≤ 600) (g : ∀ V, zrv bits 66 vs K = some V → zDo Q h N M0 M F0 Ts vs most pd p ce lo A C V) (g2 : zrv bits 66 vs K = none → zDx Q h N M0 F0 Ts vs most pd p) : zG xs (d + 6) (217, 0, lv_args 0 [zo (some 10), .int (nI 66), .int a, .int b], []) (zov h M) Q := by
  have hg := zPq_g hq
  have h58 : F 58 = .int (nI bits) := (hs.2.2.1 58 (by decide)).trans hw.2.2.2.2.2.1
  obtain ⟨a1, a2, a3, a4, a5, a6⟩ := hq
  have hr := zkhs_c (k := 0) (c := 2) a3
  have b1 := hr.1
  have hk : zkn (zkat st 0) = true := by unfold zkn; rw [hr.2]; rfl
  obtain ⟨v, r, rfl⟩ := zvs1 a2 b1
  obtain ⟨s, n, e0⟩ := znu hg b1 hk a2
  have e0 : v = zmn s n := e0
  subst e0
  obtain ⟨ca, rfl, h0⟩ := hab.1 (Nat.succ_pos _)
  have h0 : zRc ce lo (zmn s n) (.inl ca) := h0
  obtain ⟨n1, n2, n3⟩ := zmn_Rc h0
  have ca14 := zRc_14 hs.1 h0
  have ez : zrv bits 66 (zmn s n :: r) K = some (if zsg (zmn s n) = true then .arg 24 else .div (.arg 25) (zmn s n)) := rfl
  rw [zsg_mn] at ez
  apply zm_217
  refine zpre_n (d := d + 5) hl hs.1 h0 (zn68 (by decide) ⟨fun z => absurd z (by decide), fun z => absurd z (by decide), fun z => absurd z (by decide), fun z => absurd z (by decide), fun z => absurd z (by decide), fun _ => ?_, fun z => absurd z (by decide), fun z => absurd z (by decide), fun z => absurd z (by decide), fun z => absurd rfl z.2.2.2.2.2.1⟩)
  cases s
  · refine ⟨fun z => absurd z ?_, fun _ => zdo_c (V := .div (.arg 25) (zmn false n)) (d := d + 5) (k := 7) (a := ca) (b := 0) hl hs hC (by omega) (by decide) (by omega) (by decide) (g _ ez) ⟨ca, 0, zget_new, zRc_up1 h0⟩⟩
    split <;> decide
  · rw [if_neg (n3 rfl)]
    exact ⟨fun _ => zdo_c (V := .arg 24) (d := d + 5) (k := 6) (a := 0) (b := 0) hl hs hC (by omega) (by decide) (by decide) (by decide) (g _ ez) ⟨0, 0, zget_new⟩, fun z => absurd (by decide) z⟩
theorem ze67 (hl : 50 ≤ h.1.length) (hw : zWC N fr bits bound M0 F0) (hs : zWS N M0 M F0 F Ts vs most pd p ce lo) (hq : zPq bits p 67 held st vs) (hab : zAbs ce lo vs a b) (hC : 1 ≤ C) (hce : ce.length + 4 ≤ 1400) (hlo : lo.length + 2 ≤ 600) (g : ∀ V, zrv bits 67 vs K = some V → zDo Q h N M0 M F0 Ts vs most pd p ce lo A C V) (g2 : zrv bits 67 vs K = none → zDx Q h N M0 F0 Ts vs most pd p) : zG xs (d + 6) (217, 0, lv_args 0 [zo (some 10), .int (nI 67), .int a, .int b], []) (zov h M) Q := by
  have hg := zPq_g hq
  have h58 : F 58 = .int (nI bits) := (hs.2.2.1 58 (by decide)).trans hw.2.2.2.2.2.1
  obtain ⟨a1, a2, a3, a4, a5, a6⟩ := hq
  have hr := zkhs_c (k := 0) (c := 3) a3
  have b1 := hr.1
  have hk : zkn (zkat st 0) = true := by unfold zkn; rw [hr.2]; rfl
  obtain ⟨v, r, rfl⟩ := zvs1 a2 b1
  obtain ⟨s, n, e0⟩ := znu hg b1 hk a2
  have e0 : v = zmn s n := e0
  subst e0
  obtain ⟨ca, rfl, h0⟩ := hab.1 (Nat.succ_pos _)
  have h0 : zRc ce lo (zmn s n) (.inl ca) := h0
  obtain ⟨n1, n2, n3⟩ := zmn_Rc h0
  have ca14 := zRc_14 hs.1 h0
  apply zm_217
  exact zpre_n (d := d + 5) hl hs.1 h0 (zn68 (by decide) ⟨fun z => absurd z (by decide), fun z => absurd z (by decide), fun z => absurd z (by decide), fun z => absurd z (by decide), fun z => absurd z (by decide), fun z => absurd z (by decide), fun _ => zDo_0 hs h0 (g _ rfl), fun z => absurd z (by decide), fun z => absurd z (by decide), fun z => absurd rfl z.2.2.2.2.2.2.1⟩)
theorem zet {l5 : Int32} (hc : 69 ≤ c ∧ c ≤ 74) (h5 : l5 = if n = 0 then 0 else zSg s) (h0 : s = true → n ≠ 0) (g : ∀ t, t = ztst c s n → zCV xs d 188 12 (some 10) [Value.int (zB t)] h (zKI (fun x1 h2 => Q (.inl (some (Value.int x1))) h2) (fun e h => Q (.inr e) h))) : zw_217_81 xs d Q (some 10) (nI c) (nI ca) b l5 0 h := by
  have l5v : (n = 0 ∧ s = false ∧ l5 = 0) ∨ (n ≠ 0 ∧ s = false ∧ l5 = 1) ∨ (n ≠ 0 ∧ s = true ∧ l5 = -1) := by
    by_cases hn : n = 0
    · rw [if_pos hn] at h5
      exact Or.inl ⟨hn, by cases hs : s; rfl; exact absurd hn (h0 hs), h5⟩
    · rw [if_neg hn] at h5
      cases s
      · exact Or.inr (Or.inl ⟨hn, rfl, h5⟩)
      · exact Or.inr (Or.inr ⟨hn, rfl, h5⟩)
  have G : ∀ (t : Bool) (x : Int32), x = zB t → t = ztst c s n → zw_217_489 xs d Q x (some 10) h := fun t x hx ht => by subst hx; exact g t ht
  rcases (by omega : c = 69 ∨ c = 70 ∨ c = 71 ∨ c = 72 ∨ c = 73 ∨ c = 74) with rfl | rfl | rfl | rfl | rfl | rfl
  · refine ⟨fun z => absurd z (by decide), fun z => absurd z (by decide), fun z => absurd z (by decide), fun z => absurd z (by decide), fun z => absurd z (by decide), fun z => absurd z (by decide), fun z => absurd z (by decide), fun z => absurd z (by decide), fun z => absurd z (by decide), fun _ => ?_⟩
    rcases l5v with ⟨q1, q2, q3⟩ | ⟨q1, q2, q3⟩ | ⟨q1, q2, q3⟩ <;> subst q3
    · exact ⟨fun _ => ⟨fun _ => G true 1 rfl (by unfold ztst; simp [q1, q2]), fun z => absurd (by decide) z⟩, fun z => absurd rfl z⟩
    · exact ⟨fun _ => ⟨fun z => absurd z (by decide), fun _ => G false 0 rfl (by unfold ztst; simp [q1, q2])⟩, fun z => absurd rfl z⟩
    · exact ⟨fun _ => ⟨fun z => absurd z (by decide), fun _ => G false 0 rfl (by unfold ztst; simp [q1, q2])⟩, fun z => absurd rfl z⟩
  · refine ⟨fun z => absurd z (by decide), fun z => absurd z (by decide), fun z => absurd z (by decide), fun z => absurd z (by decide), fun z => absurd z (by decide), fun z => absurd z (by decide), fun z => absurd z (by decide), fun z => absurd z (by decide), fun z => absurd z (by decide), fun _ => ?_⟩
    rcases l5v with ⟨q1, q2, q3⟩ | ⟨q1, q2, q3⟩ | ⟨q1, q2, q3⟩ <;> subst q3
    · exact ⟨fun z => absurd z (by decide), fun _ => ⟨fun _ => ⟨fun _ => G false 0 rfl (by unfold ztst; simp [q1, q2]), fun z => absurd (by decide) z⟩, fun z => absurd rfl z⟩⟩
    · exact ⟨fun z => absurd z (by decide), fun _ => ⟨fun _ => ⟨fun z => absurd z (by decide), fun _ => G true 1 rfl (by unfold ztst; simp [q1, q2])⟩, fun z => absurd rfl z⟩⟩
    · exact ⟨fun z => absurd z (by decide), fun _ => ⟨fun _ => ⟨fun z => absurd z (by decide), fun _ => G true 1 rfl (by unfold ztst; simp [q1, q2])⟩, fun z => absurd rfl z⟩⟩
  · refine ⟨fun z => absurd z (by decide), fun z => absurd z (by decide), fun z => absurd z (by decide), fun z => absurd z (by decide), fun z => absurd z (by decide), fun z => absurd z (by decide), fun z => absurd z (by decide), fun z => absurd z (by decide), fun z => absurd z (by decide), fun _ => ?_⟩
    rcases l5v with ⟨q1, q2, q3⟩ | ⟨q1, q2, q3⟩ | ⟨q1, q2, q3⟩ <;> subst q3
    · exact ⟨fun z => absurd z (by decide), fun _ => ⟨fun z => absurd z (by decide), fun _ => ⟨fun _ => ⟨fun z => absurd z (by decide), fun _ => G false 0 rfl (by unfold ztst; simp [q1, q2])⟩, fun z => absurd rfl z⟩⟩⟩
    · exact ⟨fun z => absurd z (by decide), fun _ => ⟨fun z => absurd z (by decide), fun _ => ⟨fun _ => ⟨fun z => absurd z (by decide), fun _ => G false 0 rfl (by unfold ztst; simp [q1, q2])⟩, fun z => absurd rfl z⟩⟩⟩
    · exact ⟨fun z => absurd z (by decide), fun _ => ⟨fun z => absurd z (by decide), fun _ => ⟨fun _ => ⟨fun _ => G true 1 rfl (by unfold ztst; simp [q1, q2]), fun z => absurd (by decide) z⟩, fun z => absurd rfl z⟩⟩⟩
  · refine ⟨fun z => absurd z (by decide), fun z => absurd z (by decide), fun z => absurd z (by decide), fun z => absurd z (by decide), fun z => absurd z (by decide), fun z => absurd z (by decide), fun z => absurd z (by decide), fun z => absurd z (by decide), fun z => absurd z (by decide), fun _ => ?_⟩
    rcases l5v with ⟨q1, q2, q3⟩ | ⟨q1, q2, q3⟩ | ⟨q1, q2, q3⟩ <;> subst q3
    · exact ⟨fun z => absurd z (by decide), fun _ => ⟨fun z => absurd z (by decide), fun _ => ⟨fun z => absurd z (by decide), fun _ => ⟨fun _ => ⟨fun z => absurd z (by decide), fun _ => G false 0 rfl (by unfold ztst; simp [q1, q2])⟩, fun z => absurd rfl z⟩⟩⟩⟩
    · exact ⟨fun z => absurd z (by decide), fun _ => ⟨fun z => absurd z (by decide), fun _ => ⟨fun z => absurd z (by decide), fun _ => ⟨fun _ => ⟨fun _ => G true 1 rfl (by unfold ztst; simp [q1, q2]), fun z => absurd (by decide) z⟩, fun z => absurd rfl z⟩⟩⟩⟩
    · exact ⟨fun z => absurd z (by decide), fun _ => ⟨fun z => absurd z (by decide), fun _ => ⟨fun z => absurd z (by decide), fun _ => ⟨fun _ => ⟨fun z => absurd z (by decide), fun _ => G false 0 rfl (by unfold ztst; simp [q1, q2])⟩, fun z => absurd rfl z⟩⟩⟩⟩
  · refine ⟨fun z => absurd z (by decide), fun z => absurd z (by decide), fun z => absurd z (by decide), fun z => absurd z (by decide), fun z => absurd z (by decide), fun z => absurd z (by decide), fun z => absurd z (by decide), fun z => absurd z (by decide), fun z => absurd z (by decide), fun _ => ?_⟩
    rcases l5v with ⟨q1, q2, q3⟩ | ⟨q1, q2, q3⟩ | ⟨q1, q2, q3⟩ <;> subst q3
    · exact ⟨fun z => absurd z (by decide), fun _ => ⟨fun z => absurd z (by decide), fun _ => ⟨fun z => absurd z (by decide), fun _ => ⟨fun z => absurd z (by decide), fun _ => ⟨fun _ => ⟨fun z => absurd z (by decide), fun _ => G true 1 rfl (by unfold ztst; simp [q1, q2])⟩, fun z => absurd rfl z⟩⟩⟩⟩⟩
    · exact ⟨fun z => absurd z (by decide), fun _ => ⟨fun z => absurd z (by decide), fun _ => ⟨fun z => absurd z (by decide), fun _ => ⟨fun z => absurd z (by decide), fun _ => ⟨fun _ => ⟨fun _ => G false 0 rfl (by unfold ztst; simp [q1, q2]), fun z => absurd (by decide) z⟩, fun z => absurd rfl z⟩⟩⟩⟩⟩
    · exact ⟨fun z => absurd z (by decide), fun _ => ⟨fun z => absurd z (by decide), fun _ => ⟨fun z => absurd z (by decide), fun _ => ⟨fun z => absurd z (by decide), fun _ => ⟨fun _ => ⟨fun z => absurd z (by decide), fun _ => G true 1 rfl (by unfold ztst; simp [q1, q2])⟩, fun z => absurd rfl z⟩⟩⟩⟩⟩
  · refine ⟨fun z => absurd z (by decide), fun z => absurd z (by decide), fun z => absurd z (by decide), fun z => absurd z (by decide), fun z => absurd z (by decide), fun z => absurd z (by decide), fun z => absurd z (by decide), fun z => absurd z (by decide), fun z => absurd z (by decide), fun _ => ?_⟩
    rcases l5v with ⟨q1, q2, q3⟩ | ⟨q1, q2, q3⟩ | ⟨q1, q2, q3⟩ <;> subst q3
    · exact ⟨fun z => absurd z (by decide), fun _ => ⟨fun z => absurd z (by decide), fun _ => ⟨fun z => absurd z (by decide), fun _ => ⟨fun z => absurd z (by decide), fun _ => ⟨fun z => absurd z (by decide), fun _ => ⟨fun z => absurd z (by decide), fun _ => G true 1 rfl (by unfold ztst; simp [q1, q2])⟩⟩⟩⟩⟩⟩
    · exact ⟨fun z => absurd z (by decide), fun _ => ⟨fun z => absurd z (by decide), fun _ => ⟨fun z => absurd z (by decide), fun _ => ⟨fun z => absurd z (by decide), fun _ => ⟨fun z => absurd z (by decide), fun _ => ⟨fun z => absurd z (by decide), fun _ => G true 1 rfl (by unfold ztst; simp [q1, q2])⟩⟩⟩⟩⟩⟩
    · exact ⟨fun z => absurd z (by decide), fun _ => ⟨fun z => absurd z (by decide), fun _ => ⟨fun z => absurd z (by decide), fun _ => ⟨fun z => absurd z (by decide), fun _ => ⟨fun z => absurd z (by decide), fun _ => ⟨fun _ => G false 0 rfl (by unfold ztst; simp [q1, q2]), fun z => absurd (by decide) z⟩⟩⟩⟩⟩⟩
theorem ze69 (hc : 69 ≤ c ∧ c ≤ 74) (hl : 50 ≤ h.1.length) (hs : zWS N M0 M F0 F Ts vs most pd p ce lo) (hq : zPq bits p c held st vs) (hab : zAbs ce lo vs a b) (hC : 1 ≤ C) (hce : ce.length + 4 ≤ 1400) (g : ∀ V, zrv bits c vs K = some V → zDo Q h N M0 M F0 Ts vs most pd p ce lo A C V) : zG xs (d + 6) (217, 0, lv_args 0 [zo (some 10), .int (nI c), .int a, .int b], []) (zov h M) Q := by
  have hg := zPq_g hq
  obtain ⟨a1, a2, a3, a4, a5, a6⟩ := hq
  have a3 : zkhs st 0 2 = true := by
    rcases (by omega : c = 69 ∨ c = 70 ∨ c = 71 ∨ c = 72 ∨ c = 73 ∨ c = 74) with rfl | rfl | rfl | rfl | rfl | rfl <;> exact a3
  have hr := zkhs_c (k := 0) (c := 2) a3
  have b1 := hr.1
  have hk : zkn (zkat st 0) = true := by unfold zkn; rw [hr.2]; rfl
  obtain ⟨v, r, rfl⟩ := zvs1 a2 b1
  obtain ⟨s, n, e0⟩ := znu hg b1 hk a2
  have e0 : v = zmn s n := e0
  subst e0
  obtain ⟨ca, rfl, h0⟩ := hab.1 (Nat.succ_pos _)
  have h0 : zRc ce lo (zmn s n) (.inl ca) := h0
  obtain ⟨n1, n2, n3⟩ := zmn_Rc h0
  have ca14 := zRc_14 hs.1 h0
  have ez : zrv bits c (zmn s n :: r) K = some (ztr (ztst c (zsg (zmn s n)) n)) := by
    rcases (by omega : c = 69 ∨ c = 70 ∨ c = 71 ∨ c = 72 ∨ c = 73 ∨ c = 74) with rfl | rfl | rfl | rfl | rfl | rfl <;> rfl
  rw [zsg_mn] at ez
  apply zm_217
  refine zpre_n (d := d + 5) hl hs.1 h0 (zn68 (fun z => absurd ((nI_eq (a := c) (b := 68) (by omega) (by omega)).mp z) (by omega)) (zet hc rfl n3 (fun t ht => ?_)))
  subst ht
  exact zdo_t (d := d + 4) hl hs hC (by omega) (g _ ez)
end RW5
