/-! settled(): the least key behind the last one, again and again -/
def zmk1 (kp : Option Term) (t : Term) : Prop := ∀ k, kp = some k → 0 < zcmp t k
def zBst (kp : Option Term) (P : List Term) : Option Term → Prop
  | none => ∀ y ∈ P, ¬ zmk1 kp (zv1 y)
  | some x => ∃ P1 P2, P = P1 ++ x :: P2 ∧ zmk1 kp (zv1 x) ∧ (∀ y ∈ P1, zmk1 kp (zv1 y) → zcmp (zv1 x) (zv1 y) < 0) ∧ ∀ y ∈ P2, zmk1 kp (zv1 y) → ¬ zcmp (zv1 y) (zv1 x) < 0
section ST1
variable {K : Term} {L P E R : List Term} {es : List (Term × Term)} {kp b : Option Term} {x : Term}
theorem zbt_k (h : zbt K x) : zVt K (zv1 x) := by
  obtain ⟨k, v, hv, rfl | rfl⟩ := h <;> exact hv
theorem zc3 {a b : Term} (hk : zTok K) (hs : ztsim K = true) (ha : zVt K a) (hb : zVt K b) : (zcmp a b < 0 ∧ 0 < zcmp b a ∧ ¬ 0 < zcmp a b ∧ zcmp a b ≠ 0 ∧ a ≠ b) ∨ (zcmp a b = 0 ∧ a = b ∧ ¬ 0 < zcmp a b ∧ ¬ zcmp a b < 0) ∨ (0 < zcmp a b ∧ zcmp b a < 0 ∧ ¬ zcmp a b < 0 ∧ zcmp a b ≠ 0 ∧ a ≠ b) := by
  have o := zOr_t K a b b hk hs ha hb hb
  have o2 := zOr_t K b a b hk hs hb ha hb
  rcases o.1 with z | z | z
  · have z2 := o.2.2.1.mp z
    rw [z, z2]
    exact Or.inl ⟨by decide, by decide, by decide, by decide, fun e => by rw [o.2.1.mpr e] at z; exact absurd z (by decide)⟩
  · rw [z]
    exact Or.inr (Or.inl ⟨rfl, o.2.1.mp z, by decide, by decide⟩)
  · have z2 := o2.2.2.1.mpr z
    rw [z, z2]
    exact Or.inr (Or.inr ⟨by decide, by decide, by decide, by decide, fun e => by rw [o.2.1.mpr e] at z; exact absurd z (by decide)⟩)
theorem ztr3 {a b c : Term} (hk : zTok K) (hs : ztsim K = true) (ha : zVt K a) (hb : zVt K b) (hc : zVt K c) (h1 : zcmp a b < 0) (h2 : zcmp b c < 0) : zcmp a c < 0 := by
  rw [(zlt_t hk hs ha hb)] at h1
  rw [(zlt_t hk hs hb hc)] at h2
  exact (zlt_t hk hs ha hc).mpr (ztr_t hk hs ha hb hc h1 h2)
/-- one more is looked at -/
theorem zBst_snoc (hk : zTok K) (hs : ztsim K = true) (hL : ∀ y ∈ P ++ [x], zbt K y) (hb : zBst kp P b) : (¬ zmk1 kp (zv1 x) → zBst kp (P ++ [x]) b) ∧ (zmk1 kp (zv1 x) → (b = none → zBst kp (P ++ [x]) (some x)) ∧ ∀ y, b = some y → (zcmp (zv1 x) (zv1 y) < 0 → zBst kp (P ++ [x]) (some x)) ∧ (¬ zcmp (zv1 x) (zv1 y) < 0 → zBst kp (P ++ [x]) b)) := by
  have tx : zVt K (zv1 x) := zbt_k (hL x (List.mem_append.mpr (Or.inr List.mem_cons_self)))
  have tP : ∀ y ∈ P, zVt K (zv1 y) := fun y hy => zbt_k (hL y (List.mem_append.mpr (Or.inl hy)))
  refine ⟨fun hn => ?_, fun hm => ⟨fun h0 => ?_, fun y hy => ⟨fun hlt => ?_, fun hge => ?_⟩⟩⟩
  · cases b with
    | none =>
      intro y hy
      rcases List.mem_append.mp hy with z | z
      · exact hb y z
      · rw [List.mem_singleton.mp z]; exact hn
    | some w =>
      obtain ⟨P1, P2, rfl, h1, h2, h3⟩ := hb
      refine ⟨P1, P2 ++ [x], by rw [List.append_assoc]; rfl, h1, h2, fun y hy hm => ?_⟩
      rcases List.mem_append.mp hy with z | z
      · exact h3 y z hm
      · rw [List.mem_singleton.mp z] at hm; exact absurd hm hn
  · subst h0
    exact ⟨P, [], rfl, hm, fun y hy hm' => absurd hm' (hb y hy), fun y hy => by cases hy⟩
  · subst hy
    obtain ⟨P1, P2, rfl, h1, h2, h3⟩ := hb
    have ty := tP y (List.mem_append.mpr (Or.inr List.mem_cons_self))
    refine ⟨P1 ++ y :: P2, [], rfl, hm, fun w hw hm' => ?_, fun y hy => by cases hy⟩
    have tw := tP w hw
    rcases List.mem_append.mp hw with z | z
    · exact ztr3 hk hs tx ty tw hlt (h2 w z hm')
    · rcases List.mem_cons.mp z with z | z
      · rw [z]; exact hlt
      · have h4 := h3 w z hm'
        rcases zc3 hk hs ty tw with q | q | q
        · exact ztr3 hk hs tx ty tw hlt q.1
        · rw [← q.2.1]; exact hlt
        · exact absurd q.2.1 h4
  · subst hy
    obtain ⟨P1, P2, rfl, h1, h2, h3⟩ := hb
    refine ⟨P1, P2 ++ [x], by rw [List.append_assoc]; rfl, h1, h2, fun w hw hm' => ?_⟩
    rcases List.mem_append.mp hw with z | z
    · exact h3 w z hm'
    · rw [List.mem_singleton.mp z]; exact hge
theorem zbm_key : ∀ (L : List Term) (e : Term × Term), e ∈ zbm L → ∃ x ∈ L, zv1 x = e.1
  | [], e, h => by cases h
  | x :: L, e, h => by
    rw [zbm] at h
    rcases zupl_in _ e h with z | z
    · obtain ⟨y, h1, h2⟩ := zbm_key L e z
      exact ⟨y, List.mem_cons_of_mem _ h1, h2⟩
    · exact ⟨x, List.mem_cons_self, (zopl_in z).1.symm⟩
theorem zfd_first {key : Term} (hk : zTok K) (hs : ztsim K = true) (hy : zVt K key) {P2 : List Term} (hx : zVt K (zv1 x)) (he : zv1 x = key) : ∀ (P1 : List Term), (∀ y ∈ P1, zVt K (zv1 y) ∧ zv1 y ≠ key) → zfd key (P1 ++ x :: P2) = if zgo x = 1 then .arg 24 else .div (.arg 25) (zv2 x)
  | [], _ => by rw [List.nil_append, zfd, if_pos ((zeq_t hk hs hx hy).mpr he)]
  | y :: P1, h => by
    rw [List.cons_append, zfd, if_neg (fun z => (h y List.mem_cons_self).2 ((zeq_t hk hs (h y List.mem_cons_self).1 hy).mp z))]
    exact zfd_first hk hs hy hx he P1 (fun z hz => h z (List.mem_cons_of_mem _ hz))
theorem zget_in (hk : zTok K) (hs : ztsim K = true) {key : Term} (hy : zVt K key) : ∀ (es : List (Term × Term)), (∀ e ∈ es, zVt K e.1) → zSrt es → (∀ v, (key, v) ∈ es → zget key es = .div (.arg 25) v) ∧ (∀ v, zget key es = .div (.arg 25) v → (key, v) ∈ es)
  | [], _, _ => ⟨(fun v h => by cases h), (fun v h => by cases h)⟩
  | e :: es, h1, h2 => by
    obtain ⟨p1, p2⟩ := List.pairwise_cons.mp h2
    obtain ⟨i1, i2⟩ := zget_in hk hs hy es (fun x hx => h1 x (List.mem_cons_of_mem _ hx)) p2
    have te := h1 e List.mem_cons_self
    rcases zc3 hk hs te hy with q | q | q
    · rw [zget_lt q.1]
      refine ⟨fun v hv => ?_, fun v hv => List.mem_cons_of_mem _ (i2 v hv)⟩
      rcases List.mem_cons.mp hv with z | z
      · exact absurd (by rw [← z]) q.2.2.2.2
      · exact i1 v z
    · rw [zget_ge q.2.2.2, if_pos q.1]
      refine ⟨fun v hv => ?_, fun v hv => ?_⟩
      · rcases List.mem_cons.mp hv with z | z
        · rw [← z]
        · have := p1 _ z
          exact absurd this (by rw [q.2.1]; rw [(zeq_t hk hs hy hy).mpr rfl]; decide)
      · injection hv with _ hv
        rw [← hv, ← q.2.1]
        exact List.mem_cons_self
    · rw [zget_ge q.2.2.1, if_neg q.2.2.2.1]
      refine ⟨fun v hv => ?_, fun v hv => by cases hv⟩
      rcases List.mem_cons.mp hv with z | z
      · exact absurd (by rw [← z]) q.2.2.2.2
      · have := p1 _ z
        exact absurd this q.2.2.1
/-- what was taken, and what is to come -/
def zStl (kp : Option Term) (L : List Term) (E R : List (Term × Term)) : Prop := E ++ R = zbm L ∧ (∀ e ∈ E, ¬ zmk1 kp e.1) ∧ ∀ e ∈ R, zmk1 kp e.1
theorem zStl_0 (hb : zBst kp L none) {E R : List (Term × Term)} (hz : zStl kp L E R) : E = zbm L := by
  obtain ⟨h1, h2, h3⟩ := hz
  cases R with
  | nil => rw [List.append_nil] at h1; exact h1
  | cons e R =>
    obtain ⟨y, y1, y2⟩ := zbm_key L e (by rw [← h1]; exact List.mem_append.mpr (Or.inr List.mem_cons_self))
    exact absurd (by rw [y2]; exact h3 e List.mem_cons_self) (hb y y1)
theorem zStl_1 (hk : zTok K) (hs : ztsim K = true) (hL : ∀ y ∈ L, zbt K y) (hkp : ∀ k, kp = some k → zVt K k) (hb : zBst kp L (some x)) {E R : List (Term × Term)} (hz : zStl kp L E R) : (zgo x = 1 → zStl (some (zv1 x)) L E R) ∧ (zgo x ≠ 1 → ∃ R', R = (zv1 x, zv2 x) :: R' ∧ zStl (some (zv1 x)) L (E ++ [(zv1 x, zv2 x)]) R') := by
  obtain ⟨P1, P2, hP, b1, b2, b3⟩ := hb
  obtain ⟨h1, h2, h3⟩ := hz
  have tL : ∀ y ∈ L, zVt K (zv1 y) := fun y hy => zbt_k (hL y hy)
  have xm : x ∈ L := by rw [hP]; exact List.mem_append.mpr (Or.inr List.mem_cons_self)
  have tx := tL x xm
  obtain ⟨m1, m2, m3⟩ := zbm_ok hk hs L hL
  have tE : ∀ e ∈ E ++ R, zVt K e.1 := fun e he => m1 e (by rw [← h1]; exact he)
  have first : zfd (zv1 x) L = if zgo x = 1 then .arg 24 else .div (.arg 25) (zv2 x) := by
    rw [hP]
    refine zfd_first hk hs tx tx rfl P1 (fun y hy => ⟨tL y (by rw [hP]; exact List.mem_append.mpr (Or.inl hy)), fun e => ?_⟩)
    have := b2 y hy (by rw [e]; exact b1)
    rw [e, (zeq_t hk hs tx tx).mpr rfl] at this
    exact absurd this (by decide)
  rw [zfd_bm hk hs tx L hL] at first
  obtain ⟨g1, g2⟩ := zget_in hk hs tx (zbm L) m1 m2
  have low : ∀ e ∈ E, ¬ zmk1 (some (zv1 x)) e.1 := fun e he hm => by
    have te := tE e (List.mem_append.mpr (Or.inl he))
    refine h2 e he (fun k hk' => ?_)
    have tk := hkp k hk'
    have q1 := hm _ rfl
    have q2 := b1 k hk'
    rcases zc3 hk hs te tk with q | q | q
    · -- e < k < x < e
      have z1 : zcmp k (zv1 x) < 0 := by
        rcases zc3 hk hs tx tk with w | w | w
        · exact absurd q2 w.2.2.1
        · exact absurd q2 w.2.2.1
        · exact w.2.1
      have z2 := ztr3 hk hs te tk tx q.1 z1
      rcases zc3 hk hs te tx with w | w | w
      · exact absurd q1 w.2.2.1
      · exact absurd q1 w.2.2.1
      · exact absurd z2 w.2.2.1
    · rw [q.2.1] at q1
      rcases zc3 hk hs tx tk with w | w | w
      · exact absurd q2 w.2.2.1
      · exact absurd q2 w.2.2.1
      · rcases zc3 hk hs tk tx with w2 | w2 | w2
        · exact absurd q1 w2.2.2.1
        · exact absurd q1 w2.2.2.1
        · exact absurd w2.1 (by
            intro _
            exact w2.2.2.1 w.2.1)
    · exact q.1
  have up : ∀ e ∈ R, zmk1 (some (zv1 x)) e.1 ∨ e.1 = zv1 x := fun e he => by
    have hm := h3 e he
    obtain ⟨y, y1, y2⟩ := zbm_key L e (by rw [← h1]; exact List.mem_append.mpr (Or.inr he))
    rw [← y2] at hm ⊢
    have ty := tL y y1
    rw [hP] at y1
    rcases List.mem_append.mp y1 with z | z
    · have := b2 y z hm
      rcases zc3 hk hs tx ty with w | w | w
      · exact Or.inl (fun k hk' => by cases hk'; exact w.2.1)
      · exact absurd this w.2.2.2
      · exact absurd this w.2.2.1
    · rcases List.mem_cons.mp z with z | z
      · rw [z]; exact Or.inr rfl
      · have := b3 y z hm
        rcases zc3 hk hs ty tx with w | w | w
        · exact absurd w.1 this
        · exact Or.inr w.2.1
        · exact Or.inl (fun k hk' => by cases hk'; exact w.1)
  refine ⟨fun hg => ⟨h1, low, fun e he => ?_⟩, fun hg => ?_⟩
  · rcases up e he with z | z
    · exact z
    · rw [if_pos hg] at first
      have hin : (zv1 x, e.2) ∈ zbm L := by rw [← z, ← h1]; exact List.mem_append.mpr (Or.inr he)
      rw [g1 _ hin] at first
      cases first
  · rw [if_neg hg] at first
    have hin := g2 _ first
    rw [← h1] at hin
    have hR : (zv1 x, zv2 x) ∈ R := by
      rcases List.mem_append.mp hin with z | z
      · exact absurd b1 (h2 _ z)
      · exact z
    rw [← h1] at m2
    have m2' := List.pairwise_append.mp m2
    cases R with
    | nil => cases hR
    | cons e R =>
      obtain ⟨p1, p2⟩ := List.pairwise_cons.mp m2'.2.1
      have te := tE e (List.mem_append.mpr (Or.inr List.mem_cons_self))
      have hee : e = (zv1 x, zv2 x) := by
        rcases List.mem_cons.mp hR with z | z
        · exact z.symm
        · have q := p1 _ z
          have q : zcmp e.1 (zv1 x) < 0 := q
          rcases up e List.mem_cons_self with w | w
          · have w := w _ rfl
            rcases zc3 hk hs te tx with u | u | u
            · exact absurd w u.2.2.1
            · exact absurd w u.2.2.1
            · exact absurd q u.2.2.1
          · rw [w, (zeq_t hk hs tx tx).mpr rfl] at q
            exact absurd q (by decide)
      subst hee
      refine ⟨R, rfl, by rw [List.append_assoc]; exact h1, fun e he => ?_, fun e he => ?_⟩
      · rcases List.mem_append.mp he with z | z
        · exact low e z
        · rw [List.mem_singleton.mp z]
          intro hm
          have := hm _ rfl
          rw [(zeq_t hk hs tx tx).mpr rfl] at this
          exact absurd this (by decide)
      · intro k hk'
        cases hk'
        have q := p1 _ he
        have te := tE e (List.mem_append.mpr (Or.inr (List.mem_cons_of_mem _ he)))
        rcases zc3 hk hs tx te with u | u | u
        · exact u.2.1
        · exact absurd q u.2.2.2
        · exact absurd q u.2.2.1
/-- how many are left -/
def zmkb (kp : Option Term) (t : Term) : Bool := match kp with
  | none => true
  | some k => decide (0 < zcmp t k)
theorem zmkb_i {t : Term} : zmkb kp t = true ↔ zmk1 kp t := by
  cases kp with
  | none => exact ⟨(fun _ k hk => by cases hk), fun _ => rfl⟩
  | some k => exact ⟨(fun h k' hk => by cases hk; exact of_decide_eq_true h), fun h => decide_eq_true (h k rfl)⟩
theorem zflt_le {p q : Term → Bool} : ∀ (L : List Term), (∀ y ∈ L, p y = true → q y = true) → (L.filter p).length ≤ (L.filter q).length
  | [], _ => Nat.le_refl _
  | y :: L, h => by
    have ih := zflt_le L (fun z hz => h z (List.mem_cons_of_mem _ hz))
    have h0 := h y List.mem_cons_self
    rw [List.filter_cons, List.filter_cons]
    by_cases hp : p y = true
    · rw [if_pos hp, if_pos (h0 hp), List.length_cons, List.length_cons]; omega
    · rw [if_neg hp]
      split
      · rw [List.length_cons]; omega
      · exact ih
theorem zflt_lt {p q : Term → Bool} (hq : q x = true) (hp : ¬ p x = true) : ∀ (L : List Term), (∀ y ∈ L, p y = true → q y = true) → x ∈ L → (L.filter p).length < (L.filter q).length
  | [], _, hx => by cases hx
  | y :: L, h, hx => by
    have h0 := h y List.mem_cons_self
    have hL : ∀ z ∈ L, p z = true → q z = true := fun z hz => h z (List.mem_cons_of_mem _ hz)
    rw [List.filter_cons, List.filter_cons]
    rcases List.mem_cons.mp hx with z | z
    · subst z
      rw [if_neg hp, if_pos hq, List.length_cons]
      have := zflt_le L hL
      omega
    · have ih := zflt_lt hq hp L hL z
      by_cases hp : p y = true
      · rw [if_pos hp, if_pos (h0 hp), List.length_cons, List.length_cons]; omega
      · rw [if_neg hp]
        split
        · rw [List.length_cons]; omega
        · exact ih
def zleft (kp : Option Term) (L : List Term) : Nat := (L.filter fun y => zmkb kp (zv1 y)).length
theorem zleft_le : zleft kp L ≤ L.length := List.length_filter_le _ _
theorem zleft_lt (hk : zTok K) (hs : ztsim K = true) (hL : ∀ y ∈ L, zbt K y) (hkp : ∀ k, kp = some k → zVt K k) (hx : x ∈ L) (hm : zmk1 kp (zv1 x)) : zleft (some (zv1 x)) L < zleft kp L := by
  have tx := zbt_k (hL x hx)
  refine zflt_lt (x := x) (p := fun y => zmkb (some (zv1 x)) (zv1 y)) (q := fun y => zmkb kp (zv1 y)) (zmkb_i.mpr hm) (fun z => ?_) L (fun y hy hp => zmkb_i.mpr (fun k hk' => ?_)) hx
  · have := zmkb_i.mp z _ rfl
    rw [(zeq_t hk hs tx tx).mpr rfl] at this
    exact absurd this (by decide)
  · have ty := zbt_k (hL y hy)
    have tk := hkp k hk'
    have q1 := zmkb_i.mp hp _ rfl
    have q2 := hm k hk'
    have l1 : zcmp (zv1 x) (zv1 y) < 0 := by
      rcases zc3 hk hs ty tx with w | w | w
      · exact absurd q1 w.2.2.1
      · exact absurd q1 w.2.2.1
      · exact w.2.1
    have l2 : zcmp k (zv1 x) < 0 := by
      rcases zc3 hk hs tx tk with w | w | w
      · exact absurd q2 w.2.2.1
      · exact absurd q2 w.2.2.1
      · exact w.2.1
    have l3 := ztr3 hk hs tk tx ty l2 l1
    rcases zc3 hk hs tk ty with w | w | w
    · exact w.2.1
    · exact absurd l3 w.2.2.2
    · exact absurd l3 w.2.2.1
/-- the links that are made -/
def zlks (b : Nat) : Nat → List Nat → List (Nat × Nat × Nat)
  | _, [] => []
  | _, [hd] => [(15, hd, b)]
  | s, hd :: h2 :: l => (15, hd, s + 1) :: zlks b (s + 1) (h2 :: l)
theorem zlks_len (b : Nat) : ∀ (s : Nat) (l : List Nat), (zlks b s l).length = l.length
  | _, [] => rfl
  | _, [_] => rfl
  | s, hd :: h2 :: l => by rw [zlks, List.length_cons, zlks_len b (s + 1) (h2 :: l)]; rfl
theorem zlks_snoc (b hd : Nat) : ∀ (s : Nat) (l : List Nat), l ≠ [] → ∃ h0, (zlks b s l)[l.length - 1]? = some (15, h0, b) ∧ zlks b s (l ++ [hd]) = (zlks b s l ++ [(15, hd, b)]).set (l.length - 1) (15, h0, s + l.length)
  | _, [], h => absurd rfl h
  | s, [h0], _ => ⟨h0, rfl, rfl⟩
  | s, h1 :: h2 :: l, _ => by
    obtain ⟨h0, e1, e2⟩ := zlks_snoc b hd (s + 1) (h2 :: l) (by intro z; cases z)
    refine ⟨h0, ?_, ?_⟩
    · rw [zlks, show (h1 :: h2 :: l).length - 1 = (h2 :: l).length - 1 + 1 from rfl, List.getElem?_cons_succ]; exact e1
    · show zlks b s (h1 :: h2 :: (l ++ [hd])) = ((zlks b s (h1 :: h2 :: l)) ++ [(15, hd, b)]).set ((h2 :: l).length - 1 + 1) (15, h0, s + (h1 :: h2 :: l).length)
      rw [zlks, zlks, show zlks b (s + 1) (h2 :: (l ++ [hd])) = _ from e2, show s + (h1 :: h2 :: l).length = s + 1 + (h2 :: l).length by rw [List.length_cons]; omega]
      rfl
theorem zlks_rc {ce : List (Nat × Nat × Nat)} {lo : List (Nat × Nat)} {b : Nat} (hb : ∃ x y, ce[b]? = some (14, x, y)) : ∀ (hs : List Nat) (es : List (Term × Term)) (s : Nat), hs.length = es.length → (∀ (i hd : Nat) (e : Term × Term), hs[i]? = some hd → es[i]? = some e → zRc ce lo (zent2 e.1 e.2) (.inl hd)) → (∀ i c, (zlks b s hs)[i]? = some c → ce[s + i]? = some c) → zRc ce lo (zenc (es.map fun e => zent2 e.1 e.2)) (.inr (if hs = [] then b else s, 14))
  | [], [], s, _, _, _ => hb
  | [], e :: es, s, h, _, _ => by cases h
  | hd :: hs, [], s, h, _, _ => by cases h
  | [hd], [e], s, _, h1, h2 => ⟨hd, b, h2 0 _ rfl, h1 0 hd e rfl rfl, hb⟩
  | [hd], e :: e2 :: es, s, h, _, _ => by cases h
  | hd :: h2 :: hs, [e], s, h, _, _ => by cases h
  | hd :: h2 :: hs, e :: e2 :: es, s, hl, h1, h3 => by
    have ih := zlks_rc (lo := lo) hb (h2 :: hs) (e2 :: es) (s + 1) (Nat.succ.inj hl) (fun i a c q1 q2 => h1 (i + 1) a c q1 q2) (fun i c q => by rw [show s + 1 + i = s + (i + 1) by omega]; exact h3 (i + 1) c q)
    exact ⟨hd, s + 1, h3 0 _ rfl, h1 0 hd e rfl rfl, ih⟩
end ST1
