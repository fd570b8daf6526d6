/-! the reference at work: instructions that reckon nothing -/
def zPq (bits p c held : Nat) (st vs : List Term) : Prop := (∀ T, T ∈ st → zTg1 T ∧ ztdep T ≤ 8) ∧ zCfo st vs ∧ zkrd c st held = true ∧ (1 ≤ bits ∧ bits ≤ 120) ∧ (∀ v ∈ vs, zmr v + 1 ≤ 40 + p) ∧ p ≤ 150
def zAbs (ce : List (Nat × Nat × Nat)) (lo : List (Nat × Nat)) (vs : List Term) (a b : Int32) : Prop := (0 < vs.length → zCr ce lo a (zkat vs 0)) ∧ (1 < vs.length → zCr ce lo b (zkat vs 1))
section RW2
variable {xs : List Value} {d : Nat} {h : zH} {N : List zNt} {M0 M M' : Nat → zE} {F0 F F' : Nat → Value} {Q : zO → zH → Prop} {ce : List (Nat × Nat × Nat)} {lo : List (Nat × Nat)} {Ts vs st : List Term} {pd : List Int32} {most p bits held C c j : Nat} {a b : Int32} {K V : Term} {A : List Nat}
theorem zPq_g (hp : zPq bits p c held st vs) : ∀ T, T ∈ st → zTg1 T := fun T hT => (hp.1 T hT).1
theorem zd_0 {l1 : Int32} {h : zH} (n34 : ¬ nI c = (34 : Int32)) (n52 : ¬ nI c = (52 : Int32)) (n54 : ¬ nI c = (54 : Int32)) (g : zw_214_62 xs d Q (some 10) l1 (nI c) a b (-1) h) : zw_214_0 xs d Q (some 10) l1 (nI c) a b h := ⟨fun z => absurd z n34, fun _ => ⟨fun z => absurd z n52, fun _ => ⟨fun z => absurd z n54, fun _ => g⟩⟩⟩
theorem zRc_14 {c : Nat} (hp : zPo M F ce lo) (hv : zRc ce lo V (.inl c)) : c < 1400 := by
  have := zRc_lt _ _ hv c (Or.inl rfl)
  have := hp.2.2.2.2.1
  omega
theorem zd31 (hl : 50 ≤ h.1.length) (hs : zWS N M0 M F0 F Ts vs most pd p ce lo) (hq : zPq bits p 31 held st vs) (hab : zAbs ce lo vs a b) (hC : 1 ≤ C) (hce : ce.length + 4 ≤ 1400) (hlo : lo.length + 2 ≤ 600) (g : ∀ V, zrv bits 31 vs K = some V → zDo Q h N M0 M F0 Ts vs most pd p ce lo A C V) : zG xs (d + 6) (214, 0, lv_args 0 [zo (some 10), .int (nI j), .int (nI 31), .int a, .int b], []) (zov h M) Q := by
  have hg := zPq_g hq
  obtain ⟨a1, a2, a3, a4, a5, a6⟩ := hq
  obtain ⟨v, r, rfl⟩ := zvs1 a2 (of_decide_eq_true a3)
  obtain ⟨ca, rfl, h0⟩ := hab.1 (Nat.succ_pos _)
  have h0 : zRc ce lo v (.inl ca) := h0
  have ca14 := zRc_14 hs.1 h0
  apply zm_214
  exact zd_0 (by decide) (by decide) (by decide) ⟨fun z => absurd z (by decide), fun _ => zDo_0 hs h0 (g _ rfl), fun z => absurd z (by decide), fun z => absurd z (by decide), fun z => absurd z (by decide), fun z => absurd z (by decide), fun z => absurd z (by decide), fun z => absurd z (by decide), fun z => absurd z (by decide), fun z => absurd z (by decide), fun z => absurd z (by decide), fun z => absurd z (by decide), fun z => absurd z (by decide), fun z => absurd z (by decide), fun z => absurd z (by decide), fun z => absurd z (by decide), fun z => absurd z (by decide), fun z => absurd z (by decide), fun z => absurd z (by decide), fun z => absurd z (by decide), fun z => absurd z (by decide), fun z => absurd rfl z.2.1⟩
theorem zd35 (hl : 50 ≤ h.1.length) (hs : zWS N M0 M F0 F Ts vs most pd p ce lo) (hq : zPq bits p 35 held st vs) (hab : zAbs ce lo vs a b) (hC : 1 ≤ C) (hce : ce.length + 4 ≤ 1400) (hlo : lo.length + 2 ≤ 600) (g : ∀ V, zrv bits 35 vs K = some V → zDo Q h N M0 M F0 Ts vs most pd p ce lo A C V) : zG xs (d + 6) (214, 0, lv_args 0 [zo (some 10), .int (nI j), .int (nI 35), .int a, .int b], []) (zov h M) Q := by
  have hg := zPq_g hq
  obtain ⟨a1, a2, a3, a4, a5, a6⟩ := hq
  apply zm_214
  exact zd_0 (by decide) (by decide) (by decide) ⟨fun z => absurd z (by decide), fun z => absurd z (by decide), fun z => absurd z (by decide), fun z => absurd z (by decide), fun _ => zdo_c (k := 0) (a := 0) (b := 0) hl hs hC (by omega) (by decide) (by decide) (by decide) (g _ rfl) ⟨0, 0, zget_new⟩, fun z => absurd z (by decide), fun z => absurd z (by decide), fun z => absurd z (by decide), fun z => absurd z (by decide), fun z => absurd z (by decide), fun z => absurd z (by decide), fun z => absurd z (by decide), fun z => absurd z (by decide), fun z => absurd z (by decide), fun z => absurd z (by decide), fun z => absurd z (by decide), fun z => absurd z (by decide), fun z => absurd z (by decide), fun z => absurd z (by decide), fun z => absurd z (by decide), fun z => absurd z (by decide), fun z => absurd rfl z.2.2.2.2.1⟩
theorem zd36 (hl : 50 ≤ h.1.length) (hs : zWS N M0 M F0 F Ts vs most pd p ce lo) (hq : zPq bits p 36 held st vs) (hab : zAbs ce lo vs a b) (hC : 1 ≤ C) (hce : ce.length + 4 ≤ 1400) (hlo : lo.length + 2 ≤ 600) (g : ∀ V, zrv bits 36 vs K = some V → zDo Q h N M0 M F0 Ts vs most pd p ce lo A C V) : zG xs (d + 6) (214, 0, lv_args 0 [zo (some 10), .int (nI j), .int (nI 36), .int a, .int b], []) (zov h M) Q := by
  have hg := zPq_g hq
  obtain ⟨a1, a2, a3, a4, a5, a6⟩ := hq
  obtain ⟨v, w, r, rfl⟩ := zvs2 a2 (of_decide_eq_true a3)
  obtain ⟨ca, rfl, h0⟩ := hab.1 (Nat.succ_pos _)
  obtain ⟨cb, rfl, h1⟩ := hab.2 (Nat.succ_lt_succ (Nat.succ_pos _))
  have h0 : zRc ce lo v (.inl ca) := h0
  have h1 : zRc ce lo w (.inl cb) := h1
  have ca14 := zRc_14 hs.1 h0
  have cb14 := zRc_14 hs.1 h1
  apply zm_214
  exact zd_0 (by decide) (by decide) (by decide) ⟨fun z => absurd z (by decide), fun z => absurd z (by decide), fun z => absurd z (by decide), fun z => absurd z (by decide), fun z => absurd z (by decide), fun _ => zdo_c (k := 5) hl hs hC (by omega) (by decide) (by omega) (by omega) (g _ rfl) ⟨ca, cb, zget_new, zRc_up1 h0, zRc_up1 h1⟩, fun z => absurd z (by decide), fun z => absurd z (by decide), fun z => absurd z (by decide), fun z => absurd z (by decide), fun z => absurd z (by decide), fun z => absurd z (by decide), fun z => absurd z (by decide), fun z => absurd z (by decide), fun z => absurd z (by decide), fun z => absurd z (by decide), fun z => absurd z (by decide), fun z => absurd z (by decide), fun z => absurd z (by decide), fun z => absurd z (by decide), fun z => absurd z (by decide), fun z => absurd rfl z.2.2.2.2.2.1⟩
theorem zd37 (hl : 50 ≤ h.1.length) (hs : zWS N M0 M F0 F Ts vs most pd p ce lo) (hq : zPq bits p 37 held st vs) (hab : zAbs ce lo vs a b) (hC : 1 ≤ C) (hce : ce.length + 4 ≤ 1400) (hlo : lo.length + 2 ≤ 600) (g : ∀ V, zrv bits 37 vs K = some V → zDo Q h N M0 M F0 Ts vs most pd p ce lo A C V) : zG xs (d + 6) (214, 0, lv_args 0 [zo (some 10), .int (nI j), .int (nI 37), .int a, .int b], []) (zov h M) Q := by
  have hg := zPq_g hq
  obtain ⟨a1, a2, a3, a4, a5, a6⟩ := hq
  have hr := zkhs_c (k := 0) (c := 5) a3
  obtain ⟨v, r, rfl⟩ := zvs1 a2 (hr.1)
  obtain ⟨ca, rfl, h0⟩ := hab.1 (Nat.succ_pos _)
  have h0 : zRc ce lo v (.inl ca) := h0
  have ca14 := zRc_14 hs.1 h0
  have hv0 : zVt (zkat st 0) v := zCfo_at 0 a2 hr.1
  obtain ⟨x, y, rfl, _, _⟩ := zVt_pair (zkat_g hg 0 hr.1).1 hr.2 hv0
  obtain ⟨cx, cy, e1, h2, h3⟩ := h0
  apply zm_214
  exact zd_0 (by decide) (by decide) (by decide) ⟨fun z => absurd z (by decide), fun z => absurd z (by decide), fun z => absurd z (by decide), fun z => absurd z (by decide), fun z => absurd z (by decide), fun z => absurd z (by decide), fun _ => zM_head hl hs.1 e1 (zDo_0 hs h2 (g _ rfl)), fun z => absurd z (by decide), fun z => absurd z (by decide), fun z => absurd z (by decide), fun z => absurd z (by decide), fun z => absurd z (by decide), fun z => absurd z (by decide), fun z => absurd z (by decide), fun z => absurd z (by decide), fun z => absurd z (by decide), fun z => absurd z (by decide), fun z => absurd z (by decide), fun z => absurd z (by decide), fun z => absurd z (by decide), fun z => absurd z (by decide), fun z => absurd rfl z.2.2.2.2.2.2.1⟩
theorem zd38 (hl : 50 ≤ h.1.length) (hs : zWS N M0 M F0 F Ts vs most pd p ce lo) (hq : zPq bits p 38 held st vs) (hab : zAbs ce lo vs a b) (hC : 1 ≤ C) (hce : ce.length + 4 ≤ 1400) (hlo : lo.length + 2 ≤ 600) (g : ∀ V, zrv bits 38 vs K = some V → zDo Q h N M0 M F0 Ts vs most pd p ce lo A C V) : zG xs (d + 6) (214, 0, lv_args 0 [zo (some 10), .int (nI j), .int (nI 38), .int a, .int b], []) (zov h M) Q := by
  have hg := zPq_g hq
  obtain ⟨a1, a2, a3, a4, a5, a6⟩ := hq
  have hr := zkhs_c (k := 0) (c := 5) a3
  obtain ⟨v, r, rfl⟩ := zvs1 a2 (hr.1)
  obtain ⟨ca, rfl, h0⟩ := hab.1 (Nat.succ_pos _)
  have h0 : zRc ce lo v (.inl ca) := h0
  have ca14 := zRc_14 hs.1 h0
  have hv0 : zVt (zkat st 0) v := zCfo_at 0 a2 hr.1
  obtain ⟨x, y, rfl, _, _⟩ := zVt_pair (zkat_g hg 0 hr.1).1 hr.2 hv0
  obtain ⟨cx, cy, e1, h2, h3⟩ := h0
  apply zm_214
  exact zd_0 (by decide) (by decide) (by decide) ⟨fun z => absurd z (by decide), fun z => absurd z (by decide), fun z => absurd z (by decide), fun z => absurd z (by decide), fun z => absurd z (by decide), fun z => absurd z (by decide), fun z => absurd z (by decide), fun _ => zM_body hl hs.1 e1 (zDo_0 hs h3 (g _ rfl)), fun z => absurd z (by decide), fun z => absurd z (by decide), fun z => absurd z (by decide), fun z => absurd z (by decide), fun z => absurd z (by decide), fun z => absurd z (by decide), fun z => absurd z (by decide), fun z => absurd z (by decide), fun z => absurd z (by decide), fun z => absurd z (by decide), fun z => absurd z (by decide), fun z => absurd z (by decide), fun z => absurd z (by decide), fun z => absurd rfl z.2.2.2.2.2.2.2.1⟩
theorem zd39 (hl : 50 ≤ h.1.length) (hs : zWS N M0 M F0 F Ts vs most pd p ce lo) (hq : zPq bits p 39 held st vs) (hab : zAbs ce lo vs a b) (hC : 1 ≤ C) (hce : ce.length + 4 ≤ 1400) (hlo : lo.length + 2 ≤ 600) (g : ∀ V, zrv bits 39 vs K = some V → zDo Q h N M0 M F0 Ts vs most pd p ce lo A C V) : zG xs (d + 6) (214, 0, lv_args 0 [zo (some 10), .int (nI j), .int (nI 39), .int a, .int b], []) (zov h M) Q := by
  have hg := zPq_g hq
  obtain ⟨a1, a2, a3, a4, a5, a6⟩ := hq
  obtain ⟨v, r, rfl⟩ := zvs1 a2 (of_decide_eq_true a3)
  obtain ⟨ca, rfl, h0⟩ := hab.1 (Nat.succ_pos _)
  have h0 : zRc ce lo v (.inl ca) := h0
  have ca14 := zRc_14 hs.1 h0
  apply zm_214
  exact zd_0 (by decide) (by decide) (by decide) ⟨fun z => absurd z (by decide), fun z => absurd z (by decide), fun z => absurd z (by decide), fun z => absurd z (by decide), fun z => absurd z (by decide), fun z => absurd z (by decide), fun z => absurd z (by decide), fun z => absurd z (by decide), fun _ => zdo_c (k := 7) (b := 0) hl hs hC (by omega) (by decide) (by omega) (by decide) (g _ rfl) ⟨ca, 0, zget_new, zRc_up1 h0⟩, fun z => absurd z (by decide), fun z => absurd z (by decide), fun z => absurd z (by decide), fun z => absurd z (by decide), fun z => absurd z (by decide), fun z => absurd z (by decide), fun z => absurd z (by decide), fun z => absurd z (by decide), fun z => absurd z (by decide), fun z => absurd z (by decide), fun z => absurd z (by decide), fun z => absurd z (by decide), fun z => absurd rfl z.2.2.2.2.2.2.2.2.1⟩
theorem zd40 (hl : 50 ≤ h.1.length) (hs : zWS N M0 M F0 F Ts vs most pd p ce lo) (hq : zPq bits p 40 held st vs) (hab : zAbs ce lo vs a b) (hC : 1 ≤ C) (hce : ce.length + 4 ≤ 1400) (hlo : lo.length + 2 ≤ 600) (g : ∀ V, zrv bits 40 vs K = some V → zDo Q h N M0 M F0 Ts vs most pd p ce lo A C V) : zG xs (d + 6) (214, 0, lv_args 0 [zo (some 10), .int (nI j), .int (nI 40), .int a, .int b], []) (zov h M) Q := by
  have hg := zPq_g hq
  obtain ⟨a1, a2, a3, a4, a5, a6⟩ := hq
  apply zm_214
  exact zd_0 (by decide) (by decide) (by decide) ⟨fun z => absurd z (by decide), fun z => absurd z (by decide), fun z => absurd z (by decide), fun z => absurd z (by decide), fun z => absurd z (by decide), fun z => absurd z (by decide), fun z => absurd z (by decide), fun z => absurd z (by decide), fun z => absurd z (by decide), fun _ => zdo_c (k := 6) (a := 0) (b := 0) hl hs hC (by omega) (by decide) (by decide) (by decide) (g _ rfl) ⟨0, 0, zget_new⟩, fun z => absurd z (by decide), fun z => absurd z (by decide), fun z => absurd z (by decide), fun z => absurd z (by decide), fun z => absurd z (by decide), fun z => absurd z (by decide), fun z => absurd z (by decide), fun z => absurd z (by decide), fun z => absurd z (by decide), fun z => absurd z (by decide), fun z => absurd z (by decide), fun z => absurd rfl z.2.2.2.2.2.2.2.2.2.1⟩
theorem zd42 (hl : 50 ≤ h.1.length) (hs : zWS N M0 M F0 F Ts vs most pd p ce lo) (hq : zPq bits p 42 held st vs) (hab : zAbs ce lo vs a b) (hC : 1 ≤ C) (hce : ce.length + 4 ≤ 1400) (hlo : lo.length + 2 ≤ 600) (g : ∀ V, zrv bits 42 vs K = some V → zDo Q h N M0 M F0 Ts vs most pd p ce lo A C V) : zG xs (d + 6) (214, 0, lv_args 0 [zo (some 10), .int (nI j), .int (nI 42), .int a, .int b], []) (zov h M) Q := by
  have hg := zPq_g hq
  obtain ⟨a1, a2, a3, a4, a5, a6⟩ := hq
  obtain ⟨v, r, rfl⟩ := zvs1 a2 (of_decide_eq_true a3)
  obtain ⟨ca, rfl, h0⟩ := hab.1 (Nat.succ_pos _)
  have h0 : zRc ce lo v (.inl ca) := h0
  have ca14 := zRc_14 hs.1 h0
  apply zm_214
  exact zd_0 (by decide) (by decide) (by decide) ⟨fun z => absurd z (by decide), fun z => absurd z (by decide), fun z => absurd z (by decide), fun z => absurd z (by decide), fun z => absurd z (by decide), fun z => absurd z (by decide), fun z => absurd z (by decide), fun z => absurd z (by decide), fun z => absurd z (by decide), fun z => absurd z (by decide), fun _ => zdo_c (k := 8) (b := 0) hl hs hC (by omega) (by decide) (by omega) (by decide) (g _ rfl) ⟨ca, 0, zget_new, zRc_up1 h0⟩, fun z => absurd z (by decide), fun z => absurd z (by decide), fun z => absurd z (by decide), fun z => absurd z (by decide), fun z => absurd z (by decide), fun z => absurd z (by decide), fun z => absurd z (by decide), fun z => absurd z (by decide), fun z => absurd z (by decide), fun z => absurd z (by decide), fun z => absurd rfl z.2.2.2.2.2.2.2.2.2.2.1⟩
theorem zd43 (hl : 50 ≤ h.1.length) (hs : zWS N M0 M F0 F Ts vs most pd p ce lo) (hq : zPq bits p 43 held st vs) (hab : zAbs ce lo vs a b) (hC : 1 ≤ C) (hce : ce.length + 4 ≤ 1400) (hlo : lo.length + 2 ≤ 600) (g : ∀ V, zrv bits 43 vs K = some V → zDo Q h N M0 M F0 Ts vs most pd p ce lo A C V) : zG xs (d + 6) (214, 0, lv_args 0 [zo (some 10), .int (nI j), .int (nI 43), .int a, .int b], []) (zov h M) Q := by
  have hg := zPq_g hq
  obtain ⟨a1, a2, a3, a4, a5, a6⟩ := hq
  obtain ⟨v, r, rfl⟩ := zvs1 a2 (of_decide_eq_true a3)
  obtain ⟨ca, rfl, h0⟩ := hab.1 (Nat.succ_pos _)
  have h0 : zRc ce lo v (.inl ca) := h0
  have ca14 := zRc_14 hs.1 h0
  apply zm_214
  exact zd_0 (by decide) (by decide) (by decide) ⟨fun z => absurd z (by decide), fun z => absurd z (by decide), fun z => absurd z (by decide), fun z => absurd z (by decide), fun z => absurd z (by decide), fun z => absurd z (by decide), fun z => absurd z (by decide), fun z => absurd z (by decide), fun z => absurd z (by decide), fun z => absurd z (by decide), fun z => absurd z (by decide), fun _ => zdo_c (k := 9) (b := 0) hl hs hC (by omega) (by decide) (by omega) (by decide) (g _ rfl) ⟨ca, 0, zget_new, zRc_up1 h0⟩, fun z => absurd z (by decide), fun z => absurd z (by decide), fun z => absurd z (by decide), fun z => absurd z (by decide), fun z => absurd z (by decide), fun z => absurd z (by decide), fun z => absurd z (by decide), fun z => absurd z (by decide), fun z => absurd z (by decide), fun z => absurd rfl z.2.2.2.2.2.2.2.2.2.2.2.1⟩
theorem zd45 (hl : 50 ≤ h.1.length) (hs : zWS N M0 M F0 F Ts vs most pd p ce lo) (hq : zPq bits p 45 held st vs) (hab : zAbs ce lo vs a b) (hC : 1 ≤ C) (hce : ce.length + 4 ≤ 1400) (hlo : lo.length + 2 ≤ 600) (g : ∀ V, zrv bits 45 vs K = some V → zDo Q h N M0 M F0 Ts vs most pd p ce lo A C V) : zG xs (d + 6) (214, 0, lv_args 0 [zo (some 10), .int (nI j), .int (nI 45), .int a, .int b], []) (zov h M) Q := by
  have hg := zPq_g hq
  obtain ⟨a1, a2, a3, a4, a5, a6⟩ := hq
  apply zm_214
  exact zd_0 (by decide) (by decide) (by decide) ⟨fun z => absurd z (by decide), fun z => absurd z (by decide), fun z => absurd z (by decide), fun z => absurd z (by decide), fun z => absurd z (by decide), fun z => absurd z (by decide), fun z => absurd z (by decide), fun z => absurd z (by decide), fun z => absurd z (by decide), fun z => absurd z (by decide), fun z => absurd z (by decide), fun z => absurd z (by decide), fun _ => zdo_c (k := 10) (a := 0) (b := 0) hl hs hC (by omega) (by decide) (by decide) (by decide) (g _ rfl) ⟨0, 0, zget_new⟩, fun z => absurd z (by decide), fun z => absurd z (by decide), fun z => absurd z (by decide), fun z => absurd z (by decide), fun z => absurd z (by decide), fun z => absurd z (by decide), fun z => absurd z (by decide), fun z => absurd z (by decide), fun z => absurd rfl z.2.2.2.2.2.2.2.2.2.2.2.2.1⟩
theorem zd51 (hl : 50 ≤ h.1.length) (hs : zWS N M0 M F0 F Ts vs most pd p ce lo) (hq : zPq bits p 51 held st vs) (hab : zAbs ce lo vs a b) (hC : 1 ≤ C) (hce : ce.length + 4 ≤ 1400) (hlo : lo.length + 2 ≤ 600) (g : ∀ V, zrv bits 51 vs K = some V → zDo Q h N M0 M F0 Ts vs most pd p ce lo A C V) : zG xs (d + 6) (214, 0, lv_args 0 [zo (some 10), .int (nI j), .int (nI 51), .int a, .int b], []) (zov h M) Q := by
  have hg := zPq_g hq
  obtain ⟨a1, a2, a3, a4, a5, a6⟩ := hq
  apply zm_214
  exact zd_0 (by decide) (by decide) (by decide) ⟨fun z => absurd z (by decide), fun z => absurd z (by decide), fun z => absurd z (by decide), fun z => absurd z (by decide), fun z => absurd z (by decide), fun z => absurd z (by decide), fun z => absurd z (by decide), fun z => absurd z (by decide), fun z => absurd z (by decide), fun z => absurd z (by decide), fun z => absurd z (by decide), fun z => absurd z (by decide), fun z => absurd z (by decide), fun z => absurd z (by decide), fun z => absurd z (by decide), fun _ => zdo_c (k := 12) (a := 0) (b := 0) hl hs hC (by omega) (by decide) (by decide) (by decide) (g _ rfl) ⟨0, 0, zget_new⟩, fun z => absurd z (by decide), fun z => absurd z (by decide), fun z => absurd z (by decide), fun z => absurd z (by decide), fun z => absurd z (by decide), fun z => absurd rfl z.2.2.2.2.2.2.2.2.2.2.2.2.2.2.2.1⟩
theorem zd46 (hl : 50 ≤ h.1.length) (hs : zWS N M0 M F0 F Ts vs most pd p ce lo) (hq : zPq bits p 46 held st vs) (hab : zAbs ce lo vs a b) (hC : 1 ≤ C) (hce : ce.length + 4 ≤ 1400) (hlo : lo.length + 2 ≤ 600) (g : ∀ V, zrv bits 46 vs K = some V → zDo Q h N M0 M F0 Ts vs most pd p ce lo A C V) : zG xs (d + 6) (214, 0, lv_args 0 [zo (some 10), .int (nI j), .int (nI 46), .int a, .int b], []) (zov h M) Q := by
  have hg := zPq_g hq
  obtain ⟨a1, a2, a3, a4, a5, a6⟩ := hq
  have hr : (zkhs st 1 8 && zt1 (zkat st 1) == zkat st 0) = true := a3
  simp only [Bool.and_eq_true, beq_iff_eq] at hr
  have b1 := zkhs_c hr.1
  obtain ⟨v, w, r, rfl⟩ := zvs2 a2 (b1.1)
  obtain ⟨ca, rfl, h0⟩ := hab.1 (Nat.succ_pos _)
  obtain ⟨cb, rfl, h1⟩ := hab.2 (Nat.succ_lt_succ (Nat.succ_pos _))
  have h0 : zRc ce lo v (.inl ca) := h0
  have h1 : zRc ce lo w (.inl cb) := h1
  have ca14 := zRc_14 hs.1 h0
  have cb14 := zRc_14 hs.1 h1
  have hv1 : zVt (zkat st 1) w := zCfo_at 1 a2 b1.1
  obtain ⟨L, rfl, hL⟩ := zVt_list (zkat_g hg 1 b1.1).1 b1.2 hv1
  have hgo : zgo v = 0 := zgo_t (zkat_g hg 0 (by omega)).1 (zCfo_at 0 a2 (by omega))
  apply zm_214
  exact zd_0 (by decide) (by decide) (by decide) ⟨fun z => absurd z (by decide), fun z => absurd z (by decide), fun z => absurd z (by decide), fun z => absurd z (by decide), fun z => absurd z (by decide), fun z => absurd z (by decide), fun z => absurd z (by decide), fun z => absurd z (by decide), fun z => absurd z (by decide), fun z => absurd z (by decide), fun z => absurd z (by decide), fun z => absurd z (by decide), fun z => absurd z (by decide), fun _ => zdo_c (k := 11) hl hs hC (by omega) (by decide) (by omega) (by omega) (g _ rfl) ⟨ca, cb, by show _ = some (10 + 1 + zgo v, ca, cb); rw [hgo]; exact zget_new, zRc_up1 h0, zRc_up1 h1⟩, fun z => absurd z (by decide), fun z => absurd z (by decide), fun z => absurd z (by decide), fun z => absurd z (by decide), fun z => absurd z (by decide), fun z => absurd z (by decide), fun z => absurd z (by decide), fun z => absurd rfl z.2.2.2.2.2.2.2.2.2.2.2.2.2.1⟩
theorem zd48 (hl : 50 ≤ h.1.length) (hs : zWS N M0 M F0 F Ts vs most pd p ce lo) (hq : zPq bits p 48 held st vs) (hab : zAbs ce lo vs a b) (hC : 1 ≤ C) (hce : ce.length + 4 ≤ 1400) (hlo : lo.length + 2 ≤ 600) (g : ∀ V, zrv bits 48 vs K = some V → zDo Q h N M0 M F0 Ts vs most pd p ce lo A C V) : zG xs (d + 6) (214, 0, lv_args 0 [zo (some 10), .int (nI j), .int (nI 48), .int a, .int b], []) (zov h M) Q := by
  have hg := zPq_g hq
  obtain ⟨a1, a2, a3, a4, a5, a6⟩ := hq
  have hr : (zkhs st 0 8 || zkhs st 0 9 || zkhs st 0 4) = true := a3
  simp only [Bool.or_eq_true] at hr
  have b0 : 0 < st.length := by
    rcases hr with (z | z) | z <;> exact (zkhs_c z).1
  obtain ⟨v, r, rfl⟩ := zvs1 a2 (b0)
  obtain ⟨ca, rfl, h0⟩ := hab.1 (Nat.succ_pos _)
  have h0 : zRc ce lo v (.inl ca) := h0
  have ca14 := zRc_14 hs.1 h0
  have hv0 : zVt (zkat st 0) v := zCfo_at 0 a2 b0
  have hmr := a5 v List.mem_cons_self
  have num : ∀ n : Nat, n < 1000 → zsize v = n → zCV xs (d + 6) 189 12 (some 10) [Value.long (0 : Int64), Value.long (nI n).toInt64, Value.int (0 : Int32)] (zov h M) (zKI (fun x1 h2 => Q (.inl (some (Value.int x1))) h2) (fun e h => Q (.inr e) h)) := by
    intro n hn hz
    have e1 : (0 : Int64) = lN (n / 1152921504606846976) := by rw [Nat.div_eq_of_lt (by omega)]; rfl
    have e2 : (nI n).toInt64 = lN (n % 1152921504606846976) := by rw [nI_l (by omega), Nat.mod_eq_of_lt (by omega)]
    rw [e1, e2]
    exact zdo_n (s := false) (d := d + 3) hl hs hC (by omega) (by omega) (Nat.lt_of_lt_of_le (show n < 1000 by omega) (by decide)) (by have := g _ rfl; rw [← hz]; exact this)
  have main : zGR (some 10) 12 30 (zov h M) fun x28 => zBA x28 (nI ca) (zov h M) fun x30 => ((x30 = (4 : Int32) → zGR (some 10) 12 32 (zov h M) fun x33 => zSA x33 (nI ca) (zov h M) fun x35 => zw_214_316 xs (d + 6) Q (x35).toInt64 (0 : Int64) (some 10) (zov h M)) ∧ (¬ x30 = (4 : Int32) → zCV xs (d + 6) 205 12 (some 10) [Value.int (nI ca)] (zov h M) (zKI (fun x31 h32 => zw_214_316 xs (d + 6) Q (x31).toInt64 (0 : Int64) (some 10) h32) (fun e h => Q (.inr e) h)))) := by
    have rows : ∀ (L : List Term) (k : Nat), zRc ce lo (zenc L) (.inr (ca, k)) → zRk k L → L.length ≤ zmr v → zsize v = L.length → zGR (some 10) 12 30 (zov h M) fun x28 => zBA x28 (nI ca) (zov h M) fun x30 => ((x30 = (4 : Int32) → zGR (some 10) 12 32 (zov h M) fun x33 => zSA x33 (nI ca) (zov h M) fun x35 => zw_214_316 xs (d + 6) Q (x35).toInt64 (0 : Int64) (some 10) (zov h M)) ∧ (¬ x30 = (4 : Int32) → zCV xs (d + 6) 205 12 (some 10) [Value.int (nI ca)] (zov h M) (zKI (fun x31 h32 => zw_214_316 xs (d + 6) Q (x31).toInt64 (0 : Int64) (some 10) h32) (fun e h => Q (.inr e) h)))) := by
      intro L k hr hk hln hz
      have hw : ∃ w x y, ce[ca]? = some (w, x, y) ∧ w ≠ 4 ∧ w < 100 := by
        cases L with
        | nil =>
          obtain ⟨x, y, e⟩ := hr
          have := hk.1
          exact ⟨k, x, y, e, by omega, by omega⟩
        | cons e L =>
          obtain ⟨x, y, e1, _⟩ := hr
          have := hk.1
          have := zgo_le e
          exact ⟨_, x, y, e1, by omega, by omega⟩
      obtain ⟨w, x, y, e1, e2, e3⟩ := hw
      refine zM_what hl hs.1 e1 (pk_eq w 4 (fun z => absurd z e2) (fun _ => ?_))
      exact zM_cv hl hs.1.1 (zc205 (d := d + 4) hl hs.1 hr hk (by omega) (zKI_v (num L.length (by omega) hz)))
    rcases hr with (z | z) | z
    · obtain ⟨L, rfl, hL⟩ := zVt_list (zkat_g hg 0 b0).1 (zkhs_c z).2 hv0
      refine rows L 10 h0 ⟨Or.inl rfl, fun _ x hx => zgo_t (zTok_1 (zkat_g hg 0 b0).1) (hL x hx)⟩ ?_ ?_
      · have := (zmr_rws (.old (zenc L))).2
        have e : zrws (.old (zenc L)) = L := zels_enc L
        rw [e] at this; exact this
      · show (zels (zenc L)).length = _; rw [zels_enc]
    · obtain ⟨es, rfl, hL, _⟩ := zVt_map (zkat_g hg 0 b0).1 (zkhs_c z).2 hv0
      refine rows (es.map fun e : Term × Term => zent2 e.1 e.2) 12 h0 ⟨Or.inr (Or.inl rfl), fun _ x hx => by obtain ⟨y, _, rfl⟩ := List.mem_map.mp hx; rfl⟩ ?_ ?_
      · have := (zmr_rws (.length (zenc (es.map fun e => zent2 e.1 e.2)))).2
        have e : zrws (.length (zenc (es.map fun e => zent2 e.1 e.2))) = es.map fun e => zent2 e.1 e.2 := zels_enc _
        rw [e] at this; exact this
      · show (zels (zenc _)).length = _; rw [zels_enc]
    · obtain ⟨k, w, rfl, ht⟩ := zVt_text (zkat_g hg 0 b0).1 (zkhs_c z).2 hv0
      obtain ⟨⟨jj, e1, e2⟩, e3⟩ := h0
      have k8 := ht.1
      exact zM_what hl hs.1 e1 ⟨fun _ => zM_body hl hs.1 e1 (num k (by omega) rfl), fun z => absurd rfl z⟩
  apply zm_214
  exact zd_0 (by decide) (by decide) (by decide) ⟨fun z => absurd z (by decide), fun z => absurd z (by decide), fun z => absurd z (by decide), fun z => absurd z (by decide), fun z => absurd z (by decide), fun z => absurd z (by decide), fun z => absurd z (by decide), fun z => absurd z (by decide), fun z => absurd z (by decide), fun z => absurd z (by decide), fun z => absurd z (by decide), fun z => absurd z (by decide), fun z => absurd z (by decide), fun z => absurd z (by decide), fun _ => main, fun z => absurd z (by decide), fun z => absurd z (by decide), fun z => absurd z (by decide), fun z => absurd z (by decide), fun z => absurd z (by decide), fun z => absurd z (by decide), fun z => absurd rfl z.2.2.2.2.2.2.2.2.2.2.2.2.2.2.1⟩
theorem zd55 (hl : 50 ≤ h.1.length) (hs : zWS N M0 M F0 F Ts vs most pd p ce lo) (hq : zPq bits p 55 held st vs) (hab : zAbs ce lo vs a b) (hC : 1 ≤ C) (hce : ce.length + 4 ≤ 1400) (hlo : lo.length + 2 ≤ 600) (g : ∀ V, zrv bits 55 vs K = some V → zDo Q h N M0 M F0 Ts vs most pd p ce lo A C V) : zG xs (d + 6) (214, 0, lv_args 0 [zo (some 10), .int (nI j), .int (nI 55), .int a, .int b], []) (zov h M) Q := by
  have hg := zPq_g hq
  obtain ⟨a1, a2, a3, a4, a5, a6⟩ := hq
  have hr : (zkhs st 0 1 && zkhs st 1 1) = true := a3
  simp only [Bool.and_eq_true] at hr
  have b0 := zkhs_c hr.1
  have b1 := zkhs_c hr.2
  obtain ⟨v, w, r, rfl⟩ := zvs2 a2 (b1.1)
  obtain ⟨ca, rfl, h0⟩ := hab.1 (Nat.succ_pos _)
  obtain ⟨cb, rfl, h1⟩ := hab.2 (Nat.succ_lt_succ (Nat.succ_pos _))
  have h0 : zRc ce lo v (.inl ca) := h0
  have h1 : zRc ce lo w (.inl cb) := h1
  have ca14 := zRc_14 hs.1 h0
  have cb14 := zRc_14 hs.1 h1
  have tr : ∀ t : Bool, zrv bits 55 (v :: w :: r) K = some (ztr t) → zCV xs (d + 6) 188 12 (some 10) [Value.int (zB t)] (zov h M) (zKI (fun x1 h2 => Q (.inl (some (Value.int x1))) h2) (fun e h => Q (.inr e) h)) := fun t ht => zdo_t (d := d + 4) hl hs hC (by omega) (g _ ht)
  have V0 := zVt_bool (zkat_g hg 0 b0.1).1 b0.2 (show zVt (zkat st 0) v from zCfo_at 0 a2 b0.1)
  have V1 := zVt_bool (zkat_g hg 1 b1.1).1 b1.2 (show zVt (zkat st 1) w from zCfo_at 1 a2 b1.1)
  apply zm_214
  refine zd_0 (by decide) (by decide) (by decide) ⟨fun z => absurd z (by decide), fun z => absurd z (by decide), fun z => absurd z (by decide), fun z => absurd z (by decide), fun z => absurd z (by decide), fun z => absurd z (by decide), fun z => absurd z (by decide), fun z => absurd z (by decide), fun z => absurd z (by decide), fun z => absurd z (by decide), fun z => absurd z (by decide), fun z => absurd z (by decide), fun z => absurd z (by decide), fun z => absurd z (by decide), fun z => absurd z (by decide), fun z => absurd z (by decide), fun z => absurd z (by decide), fun z => absurd z (by decide), fun z => absurd z (by decide), fun _ => ?_, fun z => absurd z (by decide), fun z => absurd rfl z.2.2.2.2.2.2.2.2.2.2.2.2.2.2.2.2.2.2.2.1⟩
  rcases V0 with rfl | rfl <;> rcases V1 with rfl | rfl
  · obtain ⟨x0, y0, e0⟩ := h0
    obtain ⟨x1, y1, e1⟩ := h1
    exact zM_what hl hs.1 e0 (⟨fun z => absurd (show nI 1 = 2 from z) (by decide), fun _ => tr false rfl⟩)
  · obtain ⟨x0, y0, e0⟩ := h0
    obtain ⟨x1, y1, e1⟩ := h1
    exact zM_what hl hs.1 e0 (⟨fun z => absurd (show nI 1 = 2 from z) (by decide), fun _ => tr false rfl⟩)
  · obtain ⟨x0, y0, e0⟩ := h0
    obtain ⟨x1, y1, e1⟩ := h1
    exact zM_what hl hs.1 e0 (⟨fun _ => zM_what hl hs.1 e1 (⟨fun z => absurd (show nI 1 = 2 from z) (by decide), fun _ => tr false rfl⟩), fun z => absurd rfl z⟩)
  · obtain ⟨x0, y0, e0⟩ := h0
    obtain ⟨x1, y1, e1⟩ := h1
    exact zM_what hl hs.1 e0 (⟨fun _ => zM_what hl hs.1 e1 (⟨fun _ => tr true rfl, fun z => absurd rfl z⟩), fun z => absurd rfl z⟩)
theorem zd56 (hl : 50 ≤ h.1.length) (hs : zWS N M0 M F0 F Ts vs most pd p ce lo) (hq : zPq bits p 56 held st vs) (hab : zAbs ce lo vs a b) (hC : 1 ≤ C) (hce : ce.length + 4 ≤ 1400) (hlo : lo.length + 2 ≤ 600) (g : ∀ V, zrv bits 56 vs K = some V → zDo Q h N M0 M F0 Ts vs most pd p ce lo A C V) : zG xs (d + 6) (214, 0, lv_args 0 [zo (some 10), .int (nI j), .int (nI 56), .int a, .int b], []) (zov h M) Q := by
  have hg := zPq_g hq
  obtain ⟨a1, a2, a3, a4, a5, a6⟩ := hq
  have hr : (zkhs st 0 1 && zkhs st 1 1) = true := a3
  simp only [Bool.and_eq_true] at hr
  have b0 := zkhs_c hr.1
  have b1 := zkhs_c hr.2
  obtain ⟨v, w, r, rfl⟩ := zvs2 a2 (b1.1)
  obtain ⟨ca, rfl, h0⟩ := hab.1 (Nat.succ_pos _)
  obtain ⟨cb, rfl, h1⟩ := hab.2 (Nat.succ_lt_succ (Nat.succ_pos _))
  have h0 : zRc ce lo v (.inl ca) := h0
  have h1 : zRc ce lo w (.inl cb) := h1
  have ca14 := zRc_14 hs.1 h0
  have cb14 := zRc_14 hs.1 h1
  have tr : ∀ t : Bool, zrv bits 56 (v :: w :: r) K = some (ztr t) → zCV xs (d + 6) 188 12 (some 10) [Value.int (zB t)] (zov h M) (zKI (fun x1 h2 => Q (.inl (some (Value.int x1))) h2) (fun e h => Q (.inr e) h)) := fun t ht => zdo_t (d := d + 4) hl hs hC (by omega) (g _ ht)
  have V0 := zVt_bool (zkat_g hg 0 b0.1).1 b0.2 (show zVt (zkat st 0) v from zCfo_at 0 a2 b0.1)
  have V1 := zVt_bool (zkat_g hg 1 b1.1).1 b1.2 (show zVt (zkat st 1) w from zCfo_at 1 a2 b1.1)
  apply zm_214
  refine zd_0 (by decide) (by decide) (by decide) ⟨fun z => absurd z (by decide), fun z => absurd z (by decide), fun z => absurd z (by decide), fun z => absurd z (by decide), fun z => absurd z (by decide), fun z => absurd z (by decide), fun z => absurd z (by decide), fun z => absurd z (by decide), fun z => absurd z (by decide), fun z => absurd z (by decide), fun z => absurd z (by decide), fun z => absurd z (by decide), fun z => absurd z (by decide), fun z => absurd z (by decide), fun z => absurd z (by decide), fun z => absurd z (by decide), fun z => absurd z (by decide), fun z => absurd z (by decide), fun z => absurd z (by decide), fun z => absurd z (by decide), fun _ => ?_, fun z => absurd rfl z.2.2.2.2.2.2.2.2.2.2.2.2.2.2.2.2.2.2.2.2⟩
  rcases V0 with rfl | rfl <;> rcases V1 with rfl | rfl
  · obtain ⟨x0, y0, e0⟩ := h0
    obtain ⟨x1, y1, e1⟩ := h1
    exact zM_what hl hs.1 e0 (⟨fun z => absurd (show nI 1 = 2 from z) (by decide), fun _ => zM_what hl hs.1 e1 (⟨fun z => absurd (show nI 1 = 2 from z) (by decide), fun _ => tr false rfl⟩)⟩)
  · obtain ⟨x0, y0, e0⟩ := h0
    obtain ⟨x1, y1, e1⟩ := h1
    exact zM_what hl hs.1 e0 (⟨fun z => absurd (show nI 1 = 2 from z) (by decide), fun _ => zM_what hl hs.1 e1 (⟨fun _ => tr true rfl, fun z => absurd rfl z⟩)⟩)
  · obtain ⟨x0, y0, e0⟩ := h0
    obtain ⟨x1, y1, e1⟩ := h1
    exact zM_what hl hs.1 e0 (⟨fun _ => tr true rfl, fun z => absurd rfl z⟩)
  · obtain ⟨x0, y0, e0⟩ := h0
    obtain ⟨x1, y1, e1⟩ := h1
    exact zM_what hl hs.1 e0 (⟨fun _ => tr true rfl, fun z => absurd rfl z⟩)
theorem zd57 (hl : 50 ≤ h.1.length) (hs : zWS N M0 M F0 F Ts vs most pd p ce lo) (hq : zPq bits p 57 held st vs) (hab : zAbs ce lo vs a b) (hC : 1 ≤ C) (hce : ce.length + 4 ≤ 1400) (hlo : lo.length + 2 ≤ 600) (g : ∀ V, zrv bits 57 vs K = some V → zDo Q h N M0 M F0 Ts vs most pd p ce lo A C V) : zG xs (d + 6) (214, 0, lv_args 0 [zo (some 10), .int (nI j), .int (nI 57), .int a, .int b], []) (zov h M) Q := by
  have hg := zPq_g hq
  obtain ⟨a1, a2, a3, a4, a5, a6⟩ := hq
  have hr := zkhs_c (k := 0) (c := 1) a3
  obtain ⟨v, r, rfl⟩ := zvs1 a2 (hr.1)
  obtain ⟨ca, rfl, h0⟩ := hab.1 (Nat.succ_pos _)
  have h0 : zRc ce lo v (.inl ca) := h0
  have ca14 := zRc_14 hs.1 h0
  have tr : ∀ t : Bool, zrv bits 57 (v :: r) K = some (ztr t) → zCV xs (d + 6) 188 12 (some 10) [Value.int (zB t)] (zov h M) (zKI (fun x1 h2 => Q (.inl (some (Value.int x1))) h2) (fun e h => Q (.inr e) h)) := fun t ht => zdo_t (d := d + 4) hl hs hC (by omega) (g _ ht)
  have V0 := zVt_bool (zkat_g hg 0 hr.1).1 hr.2 (show zVt (zkat st 0) v from zCfo_at 0 a2 hr.1)
  apply zm_214
  refine zd_0 (by decide) (by decide) (by decide) ⟨fun z => absurd z (by decide), fun z => absurd z (by decide), fun z => absurd z (by decide), fun z => absurd z (by decide), fun z => absurd z (by decide), fun z => absurd z (by decide), fun z => absurd z (by decide), fun z => absurd z (by decide), fun z => absurd z (by decide), fun z => absurd z (by decide), fun z => absurd z (by decide), fun z => absurd z (by decide), fun z => absurd z (by decide), fun z => absurd z (by decide), fun z => absurd z (by decide), fun z => absurd z (by decide), fun z => absurd z (by decide), fun z => absurd z (by decide), fun z => absurd z (by decide), fun z => absurd z (by decide), fun z => absurd z (by decide), fun _ => ?_⟩
  rcases V0 with rfl | rfl
  · obtain ⟨x0, y0, e0⟩ := h0
    exact zM_what hl hs.1 e0 (⟨fun _ => tr true rfl, fun z => absurd rfl z⟩)
  · obtain ⟨x0, y0, e0⟩ := h0
    exact zM_what hl hs.1 e0 (⟨fun z => absurd (show nI 2 = 1 from z) (by decide), fun _ => tr false rfl⟩)
theorem zd30 (g : Q (.inl (some (.int (-1)))) (zov h M)) : zG xs (d + 6) (214, 0, lv_args 0 [zo (some 10), .int (nI j), .int (nI 30), .int a, .int b], []) (zov h M) Q := by
  apply zm_214
  exact zd_0 (by decide) (by decide) (by decide) ⟨fun _ => g, fun z => absurd z (by decide), fun z => absurd z (by decide), fun z => absurd z (by decide), fun z => absurd z (by decide), fun z => absurd z (by decide), fun z => absurd z (by decide), fun z => absurd z (by decide), fun z => absurd z (by decide), fun z => absurd z (by decide), fun z => absurd z (by decide), fun z => absurd z (by decide), fun z => absurd z (by decide), fun z => absurd z (by decide), fun z => absurd z (by decide), fun z => absurd z (by decide), fun z => absurd z (by decide), fun z => absurd z (by decide), fun z => absurd z (by decide), fun z => absurd z (by decide), fun z => absurd z (by decide), fun z => absurd rfl z.1⟩
theorem zd32 (g : Q (.inl (some (.int b))) (zov h M)) : zG xs (d + 6) (214, 0, lv_args 0 [zo (some 10), .int (nI j), .int (nI 32), .int a, .int b], []) (zov h M) Q := by
  apply zm_214
  exact zd_0 (by decide) (by decide) (by decide) ⟨fun z => absurd z (by decide), fun z => absurd z (by decide), fun _ => g, fun z => absurd z (by decide), fun z => absurd z (by decide), fun z => absurd z (by decide), fun z => absurd z (by decide), fun z => absurd z (by decide), fun z => absurd z (by decide), fun z => absurd z (by decide), fun z => absurd z (by decide), fun z => absurd z (by decide), fun z => absurd z (by decide), fun z => absurd z (by decide), fun z => absurd z (by decide), fun z => absurd z (by decide), fun z => absurd z (by decide), fun z => absurd z (by decide), fun z => absurd z (by decide), fun z => absurd z (by decide), fun z => absurd z (by decide), fun z => absurd rfl z.2.2.1⟩
end RW2
