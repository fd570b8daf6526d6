/-! fitting as a scan of the nodes in their order -/
/-- every node behind n and inside it is part of a node -/
theorem zfuls_par {N : List zNt} : ∀ (c k k' m : Nat), zfuls N c k k' → k ≤ m → m < k' → ∃ j, j ∈ zchn N c k ∧ j ≤ m ∧ m < znx N j
  | 0, k, k', m, h, h1, h2 => by have : k = k' := h; omega
  | c + 1, k, k', m, h, h1, h2 => by
    by_cases hm : m < znx N k
    · exact ⟨k, List.mem_cons_self, h1, hm⟩
    · obtain ⟨j, j1, j2, j3⟩ := zfuls_par c (znx N k) k' m h.2 (by omega) h2
      exact ⟨j, List.mem_cons_of_mem _ j1, j2, j3⟩
theorem zpar_in {N : List zNt} (hg : zGd N) : ∀ (f n m : Nat), m ≤ n + f → n < m → n < N.length → m < znx N n → ∃ p ep, n ≤ p ∧ p < m ∧ N[p]? = some ep ∧ m ∈ zchn N (eM ep) (p + 1)
  | 0, n, m, hf, h1, h2, h3 => by omega
  | f + 1, n, m, hf, h1, h2, h3 => by
    obtain ⟨e, he⟩ : ∃ e, N[n]? = some e := ⟨_, List.getElem?_eq_getElem h2⟩
    obtain ⟨j, j1, j2, j3⟩ := zfuls_par _ _ _ m (zGd_k hg he) (by omega) h3
    have hjn := zchn_ge _ _ _ j1
    by_cases hjm : j = m
    · subst hjm; exact ⟨n, e, Nat.le_refl _, h1, he, j1⟩
    · have hj := zchn_lt _ _ _ j (zGd_k hg he) j1
      have hjl := (zful_lt hj.2.2.1).1
      obtain ⟨p, ep, p1, p2, p3⟩ := zpar_in hg f j m (by omega) (by omega) hjl j3
      exact ⟨p, ep, by omega, p2, p3⟩
section SC
variable {N : List zNt}
/-- te: the type that each node must have; r: the first that does not fit (or the end) -/
def zTe (N : List zNt) (n : Nat) (T : Term) (te : Nat → Bool × Term) (r : Nat) : Prop := te n = (false, T) ∧ n < N.length ∧ n ≤ r ∧
  (∀ (p : Nat) (ep : zNt), n ≤ p → p < r → N[p]? = some ep → ∀ j, j ∈ zchn N (eM ep) (p + 1) → te j = zpt (te p).1 (te p).2 ep (j == p + 1)) ∧
  (∀ m, n ≤ m → m < r → ∃ e, N[m]? = some e ∧ zfit (te m).1 (te m).2 e = true) ∧ r ≤ znx N n ∧
  (r < znx N n → ∃ e, N[r]? = some e ∧ zfit (te r).1 (te r).2 e = false)
/-- the disorder that is seen ahead of node m -/
def zdv (N : List zNt) (te : Nat → Bool × Term) (m : Nat) : Option Nat := match N[m]? with
  | none => none
  | some e => if (te (eA e)).1 = true ∧ m ≠ eA e + 1 ∧ zdis N (eA e) = true then some (zFp N (eA e + 1)) else none
def zev2 (N : List zNt) (te : Nat → Bool × Term) (r m : Nat) : Option Nat := zor (zdv N te m) (if m = r then some (zFp N r) else none)
def zS2 (N : List zNt) (te : Nat → Bool × Term) (r : Nat) : Nat → Nat → Option Nat
  | _, 0 => none
  | lo, k + 1 => zor (zev2 N te r lo) (zS2 N te r (lo + 1) k)
theorem zor_assoc (a b c : Option Nat) : zor (zor a b) c = zor a (zor b c) := by cases a <;> rfl
theorem zor_none (a : Option Nat) : zor a none = a := by cases a <;> rfl
theorem zS2_add {te : Nat → Bool × Term} {r : Nat} : ∀ (k lo k2 : Nat), zS2 N te r lo (k + k2) = zor (zS2 N te r lo k) (zS2 N te r (lo + k) k2)
  | 0, lo, k2 => by rw [Nat.zero_add]; rfl
  | k + 1, lo, k2 => by
    rw [show k + 1 + k2 = (k + k2) + 1 by omega, zS2, zS2, zS2_add k (lo + 1) k2, zor_assoc, show lo + 1 + k = lo + (k + 1) by omega]
theorem zS2_r {te : Nat → Bool × Term} {r lo k : Nat} (h1 : lo ≤ r) (h2 : r < lo + k) : ∃ x, zS2 N te r lo k = some x := by
  rw [show k = (r - lo) + ((k - (r - lo) - 1) + 1) by omega, zS2_add, show lo + (r - lo) = r by omega, zS2]
  cases zS2 N te r lo (r - lo) with
  | some x => exact ⟨x, rfl⟩
  | none =>
    show ∃ x, zor (zev2 N te r r) _ = some x
    unfold zev2
    rw [if_pos rfl]
    cases zdv N te r with
    | some y => exact ⟨y, rfl⟩
    | none => exact ⟨_, rfl⟩
theorem zmi_scan (hg : zGd N) {n : Nat} {T : Term} {te : Nat → Bool × Term} {r : Nat} (ht : zTe N n T te r) : ∀ (f i : Nat), N.length ≤ f + i → n ≤ i → i < N.length → i ≤ r → i < znx N n → zMi N i (te i).1 (te i).2 = zor (if i = r then some (zFp N r) else none) (zS2 N te r (i + 1) (min (znx N i) (r + 1) - (i + 1)))
  | 0, i, hf, h1, h2, h3, h4 => by omega
  | f + 1, i, hf, h1, h2, h3, h4 => by
    obtain ⟨t0, hn, nr, kid, fit, rle, bad⟩ := ht
    have ht : zTe N n T te r := ⟨t0, hn, nr, kid, fit, rle, bad⟩
    have hfi := hg.2.2 i h2
    obtain ⟨l1, l2, l3⟩ := zful_lt hfi
    obtain ⟨e, he⟩ : ∃ e, N[i]? = some e := ⟨_, List.getElem?_eq_getElem h2⟩
    have spec := zMi_eq hg.1.1 i (te i).1 (te i).2
    unfold zmiB at spec
    rw [he] at spec
    dsimp only at spec
    have hFi : zFp N i = eF e := by unfold zFp; rw [he]
    by_cases hir : i = r
    · have hb : zfit (te i).1 (te i).2 e = false := by
        obtain ⟨e', h1', h2'⟩ := bad (by omega)
        rw [← hir, he] at h1'
        cases h1'
        rw [hir]; exact h2'
      rw [if_pos hb] at spec
      rw [spec, if_pos hir, ← hFi, hir]
      rfl
    · have hlt : i < r := by omega
      rw [if_neg hir]
      obtain ⟨e', g1, g2⟩ := fit i h1 hlt
      cases he.symm.trans g1
      rw [if_neg (by rw [g2]; decide)] at spec
      have hk := zGd_k hg he
      -- a child's range
      have child : ∀ j, j ∈ zchn N (eM e) (i + 1) → j ≤ r → zor (zdv N te j) (zMi N j (te j).1 (te j).2) = zS2 N te r j (min (znx N j) (r + 1) - j) := by
        intro j hj hjr
        have hji := zchn_ge _ _ _ hj
        have hjf := (zchn_lt _ _ _ j hk hj).2.2.1
        have hjl := zful_lt hjf
        have hjz := (zchn_lt _ _ _ j hk hj).2.2.2
        have hiz := znest (hg.2.2 n hn) h1 h4
        rw [zmi_scan hg ht f j (by omega) (by omega) hjl.1 hjr (by omega)]
        rw [show min (znx N j) (r + 1) - j = (min (znx N j) (r + 1) - (j + 1)) + 1 by omega, zS2, ← zor_assoc]
        rfl
      have chain : ∀ (c k k' : Nat), zfuls N c k k' → (∀ j, j ∈ zchn N c k → j ∈ zchn N (eM e) (i + 1)) → k ≤ r → zfst ((zchn N c k).map fun j => zor (zdv N te j) (zMi N j (te j).1 (te j).2)) = zS2 N te r k (min k' (r + 1) - k) := by
        intro c
        induction c with
        | zero =>
          intro k k' hf' _ hkr
          have : k = k' := hf'
          subst this
          rw [show min k (r + 1) - k = 0 by omega]
          rfl
        | succ c ih =>
          intro k k' hf' hsub hkr
          have hkf := zful_lt hf'.1
          have hle : znx N k ≤ k' := by
            have := zchn_lt _ _ _ k hf' List.mem_cons_self
            exact this.2.2.2
          rw [zchn, List.map_cons, zfst, child k (hsub k List.mem_cons_self) hkr]
          by_cases hz : znx N k ≤ r
          · rw [ih (znx N k) k' hf'.2 (fun j hj => hsub j (List.mem_cons_of_mem _ hj)) hz]
            rw [show min k' (r + 1) - k = (min (znx N k) (r + 1) - k) + (min k' (r + 1) - znx N k) by omega, zS2_add, show k + (min (znx N k) (r + 1) - k) = znx N k by omega]
          · obtain ⟨x, hx⟩ := zS2_r (N := N) (te := te) (r := r) (lo := k) (k := min (znx N k) (r + 1) - k) hkr (by omega)
            rw [hx]
            rw [show min k' (r + 1) - k = min (znx N k) (r + 1) - k by omega, hx]
            rfl
      rw [spec]
      show _ = zS2 N te r (i + 1) (min (znx N i) (r + 1) - (i + 1))
      rw [← chain (eM e) (i + 1) (znx N i) hk (fun j hj => hj) (by omega)]
      have dvk : ∀ j, j ∈ zchn N (eM e) (i + 1) → zdv N te j = if (te i).1 = true ∧ j ≠ i + 1 ∧ zdis N i = true then some (zFp N (i + 1)) else none := by
        intro j hj
        obtain ⟨ej, hj1, hj2⟩ := hg.2.1 i e he j hj
        unfold zdv
        rw [hj1]
        dsimp only
        rw [hj2]
      have tek : ∀ j, j ∈ zchn N (eM e) (i + 1) → te j = zpt (te i).1 (te i).2 e (j == i + 1) := kid i e h1 hlt he
      by_cases hkd : (te i).1 = true
      · -- an entry
        rw [if_pos hkd]
        have hw : zisw e 28 2 = true := by
          unfold zfit at g2
          rw [if_pos hkd] at g2
          exact g2
        obtain ⟨c1, c2, c3, _⟩ := zkid_w hg he hw
        rw [c1] at dvk tek
        rw [c1]
        have d1 := dvk (i + 1) (by simp)
        have d2 := dvk (znx N (i + 1)) (by simp)
        have t1 := tek (i + 1) (by simp)
        have t2 := tek (znx N (i + 1)) (by simp)
        rw [beq_self_eq_true] at t1
        rw [c2] at t2
        unfold zpt at t1 t2
        rw [if_pos hkd] at t1 t2
        rw [if_neg (fun z => z.2.1 rfl)] at d1
        have hne : znx N (i + 1) ≠ i + 1 := fun z => by rw [z, beq_self_eq_true] at c2; cases c2
        simp only [List.map_cons, List.map_nil, zfst]
        rw [d1, d2, t1, t2]
        show zor _ (zor _ _) = zor (zMi N (i + 1) false (zt1 (te i).2)) (zor (zor _ (zMi N (znx N (i + 1)) false (zt2 (te i).2))) none)
        rw [zor_none]
        by_cases hd : zdis N i = true
        · rw [if_pos hd, if_pos ⟨hkd, hne, hd⟩]
        · rw [if_neg hd, if_neg (fun z => hd z.2.2)]
      · rw [if_neg hkd]
        congr 1
        refine List.map_congr_left (fun j hj => ?_)
        rw [dvk j hj, if_neg (fun z => hkd z.1), tek j hj]
        rfl
theorem zTok_1 {T : Term} (h : zTok T) : zTok (zt1 T) := by
  unfold zTok at h
  split at h
  · exact h
  · exact h.2
  · exact h.2.1
  · exact h.elim
theorem zTok_2 {T : Term} (h : zTok T) : zTok (zt2 T) := by
  unfold zTok at h
  split at h
  · exact h
  · exact h
  · exact h.2.2
  · exact h.elim
theorem zpt_ok {kd : Bool} {T : Term} {e : zNt} {fst : Bool} (h1 : zTok T) (h2 : zTs T) : zTok (zpt kd T e fst).2 ∧ zTs (zpt kd T e fst).2 ∧ ((zpt kd T e fst).1 = true → ztc (zpt kd T e fst).2 = 9 ∨ ztc (zpt kd T e fst).2 = 10) := by
  unfold zpt
  split
  · split
    · exact ⟨zTok_1 h1, zTs_1 h2, fun z => by cases z⟩
    · exact ⟨zTok_2 h1, zTs_2 h2, fun z => by cases z⟩
  · split
    · rename_i hm; exact ⟨h1, h2, fun _ => hm⟩
    · split
      · exact ⟨zTok_2 h1, zTs_2 h2, fun z => by cases z⟩
      · exact ⟨zTok_1 h1, zTs_1 h2, fun z => by cases z⟩
theorem zte_ok (hg : zGd N) {n : Nat} {T : Term} {te : Nat → Bool × Term} {r : Nat} (ht : zTe N n T te r) (h1 : zTok T) (h2 : zTs T) : ∀ (f m : Nat), m ≤ n + f → n ≤ m → m ≤ r → m < znx N n → zTok (te m).2 ∧ zTs (te m).2 ∧ ((te m).1 = true → ztc (te m).2 = 9 ∨ ztc (te m).2 = 10)
  | 0, m, hf, a1, a2, a3 => by
    have : m = n := by omega
    subst this
    rw [ht.1]
    exact ⟨h1, h2, fun z => by cases z⟩
  | f + 1, m, hf, a1, a2, a3 => by
    by_cases hmn : m = n
    · subst hmn
      rw [ht.1]
      exact ⟨h1, h2, fun z => by cases z⟩
    · obtain ⟨p, ep, p1, p2, p3, p4⟩ := zpar_in hg m n m (by omega) (by omega) ht.2.1 a3
      obtain ⟨b1, b2, b3⟩ := zte_ok hg ht h1 h2 f p (by omega) p1 (by omega) (by omega)
      rw [ht.2.2.2.1 p ep p1 (by omega) p3 m p4]
      exact zpt_ok b1 b2
/-- a node of a simple type that has parts is a pair -/
theorem zsim_pair {K : Term} {e : zNt} (hk : zEk e) (hs : ztsim K = true) (hf : zfit false K e = true) (hm : eM e ≠ 0) : ztc K = 5 ∧ ztsim (zt1 K) = true ∧ ztsim (zt2 K) = true := by
  unfold ztsim at hs
  split at hs
  · rename_i c
    have hc : 1 ≤ c ∧ c ≤ 4 := of_decide_eq_true hs
    exfalso
    unfold zfit at hf
    have hcc : ztc (.arg c) = c := rfl
    rw [hcc, if_neg (by decide), if_neg (by omega)] at hf
    split at hf
    · rcases Bool.or_eq_true _ _ |>.mp hf with w | w
      · exact hm (zisw_ok w).2.2
      · exact hm (zisw_ok w).2.2
    · split at hf
      · exact hm (hk.2.2.2.2.1 (eq_of_beq hf)).1
      · split at hf
        · simp at hf; exact hm (hk.2.2.2.2.1 hf.1).1
        · rw [if_pos (by omega)] at hf
          exact hm (hk.2.2.2.2.2.1 (eq_of_beq hf)).1
  · rename_i c a b
    simp at hs
    exact ⟨hs.1.1, hs.1.2, hs.2⟩
  · cases hs
theorem zsim_in (hg : zGd N) {n : Nat} {T : Term} {te : Nat → Bool × Term} {r : Nat} (ht : zTe N n T te r) (h1 : zTok T) (h2 : zTs T) {q : Nat} (q1 : n ≤ q) (q2 : q < r) (q3 : (te q).1 = true) : ∀ (f m : Nat), m ≤ q + 1 + f → q + 1 ≤ m → m < znx N (q + 1) → m ≤ r → (te m).1 = false ∧ ztsim (te m).2 = true := by
  obtain ⟨eq, he, hfit⟩ := ht.2.2.2.2.1 q q1 q2
  have hql := (List.getElem?_eq_some_iff.mp he).1
  have hw : zisw eq 28 2 = true := by unfold zfit at hfit; rw [if_pos q3] at hfit; exact hfit
  obtain ⟨c1, c2, c3, c4, c5⟩ := zkid_w hg he hw
  obtain ⟨b1, b2, b3⟩ := zte_ok hg ht h1 h2 q q (by omega) q1 (by omega) (by have := ht.2.2.2.2.2.1; omega)
  have hkey : ztsim (zt1 (te q).2) = true := by
    have hm := b3 q3
    generalize (te q).2 = U at b1 b2 hm
    unfold zTok at b1
    split at b1
    · rename_i c; have : c = 9 ∨ c = 10 := hm; omega
    · rename_i c x; have : c = 9 ∨ c = 10 := hm; omega
    · exact b2.1 hm
    · exact b1.elim
  have ht1 : te (q + 1) = (false, zt1 (te q).2) := by
    rw [ht.2.2.2.1 q eq q1 q2 he (q + 1) (by rw [c1]; simp), beq_self_eq_true]
    unfold zpt
    rw [if_pos q3]; rfl
  intro f
  induction f with
  | zero =>
    intro m m1 m2 m3 m4
    have : m = q + 1 := by omega
    rw [this, ht1]; exact ⟨rfl, hkey⟩
  | succ f ih =>
    intro m m1 m2 m3 m4
    by_cases hm : m = q + 1
    · rw [hm, ht1]; exact ⟨rfl, hkey⟩
    · obtain ⟨p, ep, p1, p2, p3, p4⟩ := zpar_in hg m (q + 1) m (by omega) (by omega) c4 m3
      obtain ⟨i1, i2⟩ := ih p (by omega) p1 (by omega) (by omega)
      obtain ⟨e', f1, f2⟩ := ht.2.2.2.2.1 p (by omega) (by omega)
      cases p3.symm.trans f1
      rw [i1] at f2
      have hm0 : eM ep ≠ 0 := fun z => by rw [z] at p4; cases p4
      obtain ⟨s1, s2, s3⟩ := zsim_pair (hg.1.2 p ep p3) i2 f2 hm0
      rw [ht.2.2.2.1 p ep (by omega) (by omega) p3 m p4]
      unfold zpt
      rw [i1, if_neg (by decide), if_neg (by omega)]
      refine ⟨rfl, ?_⟩
      show ztsim (if _ then zt2 (te p).2 else zt1 (te p).2) = true
      split
      · exact s3
      · exact s2
theorem zS2_none {te : Nat → Bool × Term} {r : Nat} : ∀ (k lo : Nat), (∀ m, lo ≤ m → m < lo + k → zev2 N te r m = none) → zS2 N te r lo k = none
  | 0, lo, _ => rfl
  | k + 1, lo, h => by
    rw [zS2, h lo (Nat.le_refl _) (by omega), zS2_none k (lo + 1) (fun m h1 h2 => h m (by omega) (by omega))]
    rfl
theorem zS2_first {te : Nat → Bool × Term} {r lo k z x : Nat} (h1 : lo ≤ z) (h2 : z < lo + k) (h : ∀ m, lo ≤ m → m < z → zev2 N te r m = none) (hz : zev2 N te r z = some x) : zS2 N te r lo k = some x := by
  rw [show k = (z - lo) + ((k - (z - lo) - 1) + 1) by omega, zS2_add, zS2_none (z - lo) lo (fun m a b => h m a (by omega)), show lo + (z - lo) = z by omega, zS2, hz]
  rfl
/-- an event ahead of m: an entry, and m is its value -/
theorem zdv_at (hg : zGd N) {n : Nat} {T : Term} {te : Nat → Bool × Term} {r m x : Nat} (ht : zTe N n T te r) (m1 : n < m) (m2 : m ≤ r) (m3 : m < znx N n) (h : zdv N te m = some x) : ∃ q, n ≤ q ∧ q < m ∧ (te q).1 = true ∧ zdis N q = true ∧ m = znx N (q + 1) ∧ x = zFp N (q + 1) := by
  obtain ⟨p, ep, p1, p2, p3, p4⟩ := zpar_in hg m n m (by omega) m1 ht.2.1 m3
  obtain ⟨em, e1, e2⟩ := hg.2.1 p ep p3 m p4
  unfold zdv at h
  rw [e1] at h
  dsimp only at h
  rw [e2] at h
  split at h
  · rename_i hc
    cases h
    obtain ⟨e', f1, f2⟩ := ht.2.2.2.2.1 p p1 (by omega)
    cases p3.symm.trans f1
    have hw : zisw ep 28 2 = true := by unfold zfit at f2; rw [if_pos hc.1] at f2; exact f2
    obtain ⟨c1, c2, c3, c4, c5⟩ := zkid_w hg p3 hw
    rw [c1] at p4
    refine ⟨p, p1, p2, hc.1, hc.2.2, ?_, rfl⟩
    rcases List.mem_cons.mp p4 with z | z
    · exact absurd z hc.2.1
    · exact List.mem_singleton.mp z
  · cases h
theorem zdv_of (hg : zGd N) {n : Nat} {T : Term} {te : Nat → Bool × Term} {r q : Nat} (ht : zTe N n T te r) (q1 : n ≤ q) (q2 : q < r) (q3 : (te q).1 = true) (q4 : zdis N q = true) : zdv N te (znx N (q + 1)) = some (zFp N (q + 1)) := by
  obtain ⟨e, he, f2⟩ := ht.2.2.2.2.1 q q1 q2
  have hw : zisw e 28 2 = true := by unfold zfit at f2; rw [if_pos q3] at f2; exact f2
  obtain ⟨c1, c2, c3, c4, c5⟩ := zkid_w hg he hw
  obtain ⟨em, e1, e2⟩ := hg.2.1 q e he (znx N (q + 1)) (by rw [c1]; simp)
  unfold zdv
  rw [e1]
  dsimp only
  rw [e2, if_pos ⟨q3, (fun z => by rw [z, beq_self_eq_true] at c2; cases c2), q4⟩]
theorem zmi_dis (hg : zGd N) {n : Nat} {T : Term} {te : Nat → Bool × Term} {r q : Nat} (ht : zTe N n T te r) (h1 : zTok T) (h2 : zTs T) (q1 : n ≤ q) (q2 : q < r) (q3 : (te q).1 = true) (q4 : zdis N q = true) (q5 : znx N (q + 1) ≤ r) (hmin : ∀ p, n ≤ p → p < q → (te p).1 = true → zdis N p = true → ¬ znx N (p + 1) ≤ r) : zMi N n false T = some (zFp N (q + 1)) := by
  have hrle := ht.2.2.2.2.2.1
  have hfn := zful_lt (hg.2.2 n ht.2.1)
  have sc := zmi_scan hg ht N.length n (by omega) (Nat.le_refl _) ht.2.1 ht.2.2.1 hfn.2.1
  rw [ht.1] at sc
  rw [sc, if_neg (by omega)]
  show zS2 N te r (n + 1) (min (znx N n) (r + 1) - (n + 1)) = _
  obtain ⟨e, he, f2⟩ := ht.2.2.2.2.1 q q1 q2
  have hw : zisw e 28 2 = true := by unfold zfit at f2; rw [if_pos q3] at f2; exact f2
  obtain ⟨c1, c2, c3, c4, c5⟩ := zkid_w hg he hw
  have hql := zful_lt (hg.2.2 (q + 1) c4)
  have hzq : znx N (q + 1) < znx N n := by
    have hk := zGd_k hg he
    rw [(zisw_ok hw).2.2] at hk
    obtain ⟨k1, k2, k3⟩ := zfuls_2 hk
    have := zful_lt k2
    have := znest (hg.2.2 n ht.2.1) q1 (by omega)
    omega
  refine zS2_first (z := znx N (q + 1)) (by omega) (by omega) (fun m a b => ?_) ?_
  · unfold zev2
    rw [if_neg (by omega)]
    cases hd : zdv N te m with
    | none => rfl
    | some x =>
      exfalso
      obtain ⟨p, p1, p2, p3, p4, p5, p6⟩ := zdv_at hg ht (by omega) (by omega) (by omega) hd
      by_cases hpq : p < q
      · exact hmin p p1 hpq p3 p4 (by omega)
      · by_cases hpe : p = q
        · subst hpe; omega
        · have := zsim_in hg ht h1 h2 q1 q2 q3 p p (by omega) (by omega) (by omega) (by omega)
          rw [p3] at this
          exact absurd this.1 (by decide)
  · unfold zev2
    rw [zdv_of hg ht q1 q2 q3 q4]
    rfl
theorem zmi_nod (hg : zGd N) {n : Nat} {T : Term} {te : Nat → Bool × Term} {r : Nat} (ht : zTe N n T te r) (hno : ∀ q, n ≤ q → q < r → (te q).1 = true → zdis N q = true → ¬ znx N (q + 1) ≤ r) : zMi N n false T = if r < znx N n then some (zFp N r) else none := by
  have hrle := ht.2.2.2.2.2.1
  have hfn := zful_lt (hg.2.2 n ht.2.1)
  have sc := zmi_scan hg ht N.length n (by omega) (Nat.le_refl _) ht.2.1 ht.2.2.1 hfn.2.1
  rw [ht.1] at sc
  rw [sc]
  have dn : ∀ m, n < m → m ≤ r → m < znx N n → zdv N te m = none := by
    intro m m1 m2 m3
    cases hd : zdv N te m with
    | none => rfl
    | some x =>
      obtain ⟨p, p1, p2, p3, p4, p5, p6⟩ := zdv_at hg ht m1 m2 m3 hd
      exact absurd (by omega) (hno p p1 (by omega) p3 p4)
  by_cases hnr : n = r
  · rw [if_pos hnr, if_pos (by omega)]; rfl
  · have := ht.2.2.1
    rw [if_neg hnr]
    show zS2 N te r (n + 1) (min (znx N n) (r + 1) - (n + 1)) = _
    by_cases hrz : r < znx N n
    · rw [if_pos hrz]
      refine zS2_first (z := r) (by omega) (by omega) (fun m a b => ?_) ?_
      · unfold zev2
        rw [if_neg (by omega), dn m (by omega) (by omega) (by omega)]; rfl
      · unfold zev2
        rw [if_pos rfl, dn r (by omega) (Nat.le_refl _) hrz]; rfl
    · rw [if_neg hrz]
      refine zS2_none _ _ (fun m a b => ?_)
      unfold zev2
      rw [if_neg (by omega), dn m (by omega) (by omega) (by omega)]; rfl
end SC
/-! values by their type, and the reference's cells of them -/
def znb (e : zNt) : Term := .sub (.arg (if eC e = 1 ∧ eH e * 1152921504606846976 + eL e ≠ 0 then 1 else 0)) (.arg (eH e * 1152921504606846976 + eL e))
def zwd (c : Nat) (l : List Term) : Term := match l with
  | [] => .arg c
  | [v] => .div (.arg c) v
  | v :: u :: _ => .add (.div (.arg c) v) u
def ztvB (N : List zNt) (r : Nat → Bool → Term → Term) (i : Nat) (kd : Bool) (T : Term) : Term := match N[i]? with
  | none => .null
  | some e => if kd = true then zent2 (r (i + 1) false (zt1 T)) (r (znx N (i + 1)) false (zt2 T))
      else if ztc T = 8 then .old (zenc ((zchn N (eM e) (i + 1)).map fun j => r j false (zt1 T)))
      else if ztc T = 9 then .length (zenc ((zchn N (eM e) (i + 1)).map fun j => r j true T))
      else if ztc T = 10 then .sum (zenc ((zchn N (eM e) (i + 1)).map fun j => r j true T))
      else if eS e = 0 then znb e
      else if eS e = 1 then .mul (.arg (eC e)) (.arg (eL e))
      else zwd (eC e) ((zchn N (eM e) (i + 1)).map fun j => r j (zpt false T e (j == i + 1)).1 (zpt false T e (j == i + 1)).2)
/-- the value that node i is, by its type -/
def ztv (N : List zNt) : Nat → Bool → Term → Term := zfix (fun _ _ => .null) (ztvB N) 200
theorem ztv_eq {N : List zNt} (hN : N.length ≤ 100) (i : Nat) (kd : Bool) (T : Term) : ztv N i kd T = ztvB N (ztv N) i kd T := by
  have := zfix_eq (bot := fun _ _ => .null) (body := ztvB N) (n := N.length) (g := 200) (i := i) (fun r i hi => funext fun kd => funext fun T => by
    unfold ztvB; rw [List.getElem?_eq_none hi]) (fun r r' i hr => funext fun kd => funext fun T => by
    unfold ztvB
    rw [hr (i + 1) (by omega), hr (znx N (i + 1)) (by have := znx_ge (N := N) (i := i + 1); omega)]
    cases he : N[i]? with
    | none => rfl
    | some e =>
      have m1 : ∀ (g : Nat → Bool × Term), ((zchn N (eM e) (i + 1)).map fun j => r j (g j).1 (g j).2) = ((zchn N (eM e) (i + 1)).map fun j => r' j (g j).1 (g j).2) := fun g => List.map_congr_left (fun j hj => by
        have := zchn_ge _ _ _ hj
        rw [hr j (by omega)])
      have m2 := m1 (fun _ => (false, zt1 T))
      have m3 := m1 (fun _ => (true, T))
      have m4 := m1 (fun j => zpt false T e (j == i + 1))
      dsimp only at m2 m3
      dsimp only
      rw [m2, m3, m4]) (by omega)
  exact congrFun (congrFun this kd) T
/-- a type's number in the reference -/
def zTx (Ts : List Term) (x : Int32) (t : Bool × Term) : Prop := ∃ i : Nat, i < 220 ∧ Ts[i]? = some t.2 ∧ x = nI ((if t.1 = true then 1000 else 0) + i)
theorem zq1_some {T : Term} (h : zTok T) (hc : 5 ≤ ztc T) : zq1 T = some (zt1 T) := by
  unfold zTok at h
  split at h
  · rename_i c; have : 5 ≤ c := hc; omega
  · rfl
  · rfl
  · exact h.elim
theorem zq2_some {T : Term} (h : zTok T) (hc : ztc T = 5 ∨ ztc T = 7 ∨ ztc T = 9 ∨ ztc T = 10) : zq2 T = some (zt2 T) := by
  unfold zTok at h
  split at h
  · rename_i c; have : c = 5 ∨ c = 7 ∨ c = 9 ∨ c = 10 := hc; omega
  · rename_i c a; have : c = 5 ∨ c = 7 ∨ c = 9 ∨ c = 10 := hc; omega
  · rfl
  · exact h.elim
section VM
variable {xs : List Value} {d : Nat} {h : zH} {M : Nat → zE} {F : Nat → Value} {Q : zO → zH → Prop} {Ts : List Term} {T : Term} {N : List zNt} {fr : Nat} {i : Nat} {e : zNt} {To : List Int32} {kd : Bool} {K : Int32 → Prop}
theorem zM_kind {j : Nat} (hl : 50 ≤ h.1.length) (h10 : M 10 = zMo F) (hR : zRf F) (ht : zTbl M F Ts) (hj : Ts[j]? = some T) (h2 : j < 220) (k : ztc T ≤ 10 → K (nI (ztc T))) : zGR (some 10) 12 22 (zov h M) fun x => zIA xs x (nI j) (zov h M) K := by
  obtain ⟨_, _, _, a4, Ki, On, Tw, De, Si, b1, b2, b3, b4, b5, cc1, cc2, cc3, cc4, cc5, rows⟩ := ht
  exact zM_gr hl h10 (hR (22, 25) (by decide)) (zM_ia' hl b1 (rows j T hj).1 (k (zTok_c (a4 j T hj).1)))
theorem zM_one {j : Nat} (hl : 50 ≤ h.1.length) (h10 : M 10 = zMo F) (hR : zRf F) (ht : zTbl M F Ts) (hj : Ts[j]? = some T) (h2 : j < 220) (hc : 5 ≤ ztc T) (k : ∀ x, x < 220 → Ts[x]? = some (zt1 T) → K (nI x)) : zGR (some 10) 12 23 (zov h M) fun x => zIA xs x (nI j) (zov h M) K := by
  obtain ⟨_, _, _, a4, Ki, On, Tw, De, Si, b1, b2, b3, b4, b5, cc1, cc2, cc3, cc4, cc5, rows⟩ := ht
  obtain ⟨x, x1, x2⟩ := (rows j T hj).2.1
  rw [zq1_some (a4 j T hj).1 hc] at x2
  obtain ⟨y, y1, y2, rfl⟩ := x2
  exact zM_gr hl h10 (hR (23, 26) (by decide)) (zM_ia' hl b2 x1 (k y y1 y2))
theorem zM_two {j : Nat} (hl : 50 ≤ h.1.length) (h10 : M 10 = zMo F) (hR : zRf F) (ht : zTbl M F Ts) (hj : Ts[j]? = some T) (h2 : j < 220) (hc : ztc T = 5 ∨ ztc T = 7 ∨ ztc T = 9 ∨ ztc T = 10) (k : ∀ x, x < 220 → Ts[x]? = some (zt2 T) → K (nI x)) : zGR (some 10) 12 24 (zov h M) fun x => zIA xs x (nI j) (zov h M) K := by
  obtain ⟨_, _, _, a4, Ki, On, Tw, De, Si, b1, b2, b3, b4, b5, cc1, cc2, cc3, cc4, cc5, rows⟩ := ht
  obtain ⟨x, x1, x2⟩ := (rows j T hj).2.2.1
  rw [zq2_some (a4 j T hj).1 hc] at x2
  obtain ⟨y, y1, y2, rfl⟩ := x2
  exact zM_gr hl h10 (hR (24, 27) (by decide)) (zM_ia' hl b3 x1 (k y y1 y2))
theorem zc184 {c k : Nat} (hl : 50 ≤ h.1.length) (h10 : M 10 = zMo F) (hR : zRf F) (hr : zNr M F N fr) (hN : zNg N) (he : N[i]? = some e) (hc : c < 2 ^ 31) (hk : k < 2 ^ 31) (q : Q (.inl (some (.int (zB (zisw e c k))))) (zov h M)) : zG xs d (184, 0, lv_args 0 [zo (some 10), .int (nI i), .int (nI c), .int (nI k)], []) (zov h M) Q := by
  obtain ⟨n1, n2, n3, n4, _⟩ := hN.2 i e he
  apply zm_184
  refine zM_nS hl h10 hR hr he (pk_eq (eS e) 3 (fun z => zM_nC hl h10 hR hr he (pk_eq (eC e) c (fun z2 => zM_nM hl h10 hR hr he (pk_eq (eM e) k (fun z3 => ⟨Or.inr rfl, ?_⟩) (fun z3 => ⟨Or.inl rfl, ?_⟩))) (fun z2 => ⟨Or.inl rfl, ?_⟩))) (fun z => ⟨Or.inl rfl, ?_⟩))
  · have : zisw e c k = true := by unfold zisw; rw [z, z2, z3]; simp
    rw [this] at q; exact q
  · have : zisw e c k = false := by unfold zisw; rw [beq_false_of_ne z3]; simp
    rw [this] at q; exact q
  · have : zisw e c k = false := by unfold zisw; rw [beq_false_of_ne z2]; simp
    rw [this] at q; exact q
  · have : zisw e c k = false := by unfold zisw; rw [beq_false_of_ne z]; simp
    rw [this] at q; exact q
theorem zc183 {x : Int32} (hl : 50 ≤ h.1.length) (h10 : M 10 = zMo F) (hR : zRf F) (hr : zNr M F N fr) (hN : zNg N) (ht : zTbl M F Ts) (he : N[i]? = some e) (hTo : M 19 = zAi To) (hTi : To[i]? = some x) (hx : zTx Ts x (kd, T)) (q : Q (.inl (some (.int (zB (zfit kd T e))))) (zov h M)) : zG xs (d + 1) (183, 0, lv_args 0 [zo (some 10), .int (nI i)], []) (zov h M) Q := by
  obtain ⟨j, hj, hjT, rfl⟩ : ∃ j : Nat, j < 220 ∧ Ts[j]? = some T ∧ x = nI ((if kd = true then 1000 else 0) + j) := hx
  obtain ⟨n1, n2, n3, n4, _⟩ := hN.2 i e he
  have hil := (List.getElem?_eq_some_iff.mp he).1
  have hi100 := hN.1
  unfold zfit at q
  refine zm_183 (zM_gr hl h10 (hR (15, 19) (by decide)) (zM_ia' hl hTo hTi ?_))
  cases kd with
  | true =>
    rw [if_pos rfl] at q
    refine ⟨fun z => absurd ((nI_ltI (a := 1000 + j) (b := 1000) (by omega) (by decide)).mp z) (by omega), fun _ => ?_⟩
    exact zM_cv hl h10 (zc184 (c := 28) (k := 2) hl h10 hR hr hN he (by decide) (by decide) (zKI_v ⟨zB_01 _, q⟩))
  | false =>
    rw [if_neg (by decide)] at q
    have hj0 : nI ((if false = true then 1000 else 0) + j) = nI j := by rw [if_neg (by decide), Nat.zero_add]
    rw [hj0]
    refine ⟨fun _ => ?_, fun z => absurd (nI_lt (a := j) (b := 1000) (by omega) (by decide)) z⟩
    refine zM_kind hl h10 hR ht hjT hj (fun hc10 => ?_)
    have nn : ∀ (j : Nat) (P : Prop), j ≤ 7 → (ztc T = j → P) → (nI (ztc T) = nI j → P) := fun j P hj hp z => hp ((nI_eq (by omega) (by omega)).mp z)
    have two : ∀ (c1 m1 c2 m2 : Nat) (K : Int32 → zH → Prop) (E : Nat → zH → Prop), c1 < 100 → m1 < 100 → c2 < 100 → m2 < 100 → (zisw e c1 m1 || zisw e c2 m2) = true ∧ K 1 (zov h M) ∨ (zisw e c1 m1 || zisw e c2 m2) = false ∧ K 0 (zov h M) → zCV xs (d + 1) 184 12 (some 10) [.int (nI i), .int (nI c1), .int (nI m1)] (zov h M) (zKI (fun x5 h6 => (x5 = 0 → zCV xs (d + 1) 184 12 (some 10) [.int (nI i), .int (nI c2), .int (nI m2)] h6 (zKI (fun x7 h8 => (x7 = 0 → K 0 h8) ∧ (¬ x7 = 0 → K 1 h8)) E)) ∧ (¬ x5 = 0 → K 1 h6)) E) := by
      intro c1 m1 c2 m2 K E l1 l2 l3 l4 hk
      refine zM_cv hl h10 (zc184 hl h10 hR hr hN he (by omega) (by omega) (zKI_v ⟨fun z => zM_cv hl h10 (zc184 hl h10 hR hr hN he (by omega) (by omega) (zKI_v ⟨fun z2 => ?_, fun z2 => ?_⟩)), fun z => ?_⟩))
      · have q1 := zB_0.mp z
        have q2 := zB_0.mp z2
        rcases hk with ⟨q, _⟩ | ⟨_, q⟩
        · rw [q1, q2] at q; cases q
        · exact q
      · rcases hk with ⟨_, q⟩ | ⟨q, _⟩
        · exact q
        · have : zisw e c2 m2 = false := by cases hq : zisw e c2 m2; rfl; rw [hq] at q; simp at q
          exact absurd (by rw [this]; rfl) z2
      · rcases hk with ⟨_, q⟩ | ⟨q, _⟩
        · exact q
        · have : zisw e c1 m1 = false := by cases hq : zisw e c1 m1; rfl; rw [hq] at q; simp at q
          exact absurd (by rw [this]; rfl) z
    have orq : ∀ (b : Bool) (A B : Prop), (b = true → A) → (b = false → B) → b = true ∧ A ∨ b = false ∧ B := fun b A B ha hb => by
      cases b
      · exact Or.inr ⟨rfl, hb rfl⟩
      · exact Or.inl ⟨rfl, ha rfl⟩
    refine ⟨nn 0 _ (by decide) (fun c => ?_), nn 1 _ (by decide) (fun c => ?_), nn 2 _ (by decide) (fun c => ?_), nn 3 _ (by decide) (fun c => ?_), nn 4 _ (by decide) (fun c => ?_), nn 5 _ (by decide) (fun c => ?_), nn 6 _ (by decide) (fun c => ?_), nn 7 _ (by decide) (fun c => ?_), fun hno => ?_⟩
    · rw [if_pos c] at q
      exact zM_cv hl h10 (zc184 (c := 20) (k := 0) hl h10 hR hr hN he (by decide) (by decide) (zKI_v ⟨zB_01 _, q⟩))
    · rw [if_neg (by omega), if_pos c] at q
      refine two 21 0 22 0 _ _ (by decide) (by decide) (by decide) (by decide) (orq _ _ _ (fun z => ⟨Or.inr rfl, ?_⟩) (fun z => ⟨Or.inl rfl, ?_⟩))
      · rw [z] at q; exact q
      · rw [z] at q; exact q
    · rw [if_neg (by omega), if_neg (by omega), if_pos c] at q
      refine zM_nS hl h10 hR hr he (pk_eq (eS e) 0 (fun z => ⟨Or.inr rfl, ?_⟩) (fun z => ⟨Or.inl rfl, ?_⟩))
      · rw [z] at q; exact q
      · rw [beq_false_of_ne z] at q; exact q
    · rw [if_neg (by omega), if_neg (by omega), if_neg (by omega), if_pos c] at q
      refine zM_nS hl h10 hR hr he (pk_eq (eS e) 0 (fun z => zM_nC hl h10 hR hr he (pk_eq (eC e) 0 (fun z2 => ⟨Or.inr rfl, ?_⟩) (fun z2 => ⟨Or.inl rfl, ?_⟩))) (fun z => ⟨Or.inl rfl, ?_⟩))
      · rw [z, z2] at q; exact q
      · rw [beq_false_of_ne z2, Bool.and_false] at q; exact q
      · rw [beq_false_of_ne z] at q; exact q
    · rw [if_neg (by omega), if_neg (by omega), if_neg (by omega), if_neg (by omega), if_pos c] at q
      refine zM_nS hl h10 hR hr he (pk_eq (eS e) 1 (fun z => ⟨Or.inr rfl, ?_⟩) (fun z => ⟨Or.inl rfl, ?_⟩))
      · rw [z] at q; exact q
      · rw [beq_false_of_ne z] at q; exact q
    · rw [if_neg (by omega), if_neg (by omega), if_neg (by omega), if_neg (by omega), if_neg (by omega), if_pos c] at q
      exact zM_cv hl h10 (zc184 (c := 23) (k := 2) hl h10 hR hr hN he (by decide) (by decide) (zKI_v ⟨zB_01 _, q⟩))
    · rw [if_neg (by omega), if_neg (by omega), if_neg (by omega), if_neg (by omega), if_neg (by omega), if_neg (by omega), if_pos c] at q
      refine two 24 0 25 1 _ _ (by decide) (by decide) (by decide) (by decide) (orq _ _ _ (fun z => ⟨Or.inr rfl, ?_⟩) (fun z => ⟨Or.inl rfl, ?_⟩))
      · rw [z] at q; exact q
      · rw [z] at q; exact q
    · rw [if_neg (by omega), if_neg (by omega), if_neg (by omega), if_neg (by omega), if_neg (by omega), if_neg (by omega), if_neg (by omega), if_pos c] at q
      refine two 26 1 27 1 _ _ (by decide) (by decide) (by decide) (by decide) (orq _ _ _ (fun z => ⟨Or.inr rfl, ?_⟩) (fun z => ⟨Or.inl rfl, ?_⟩))
      · rw [z] at q; exact q
      · rw [z] at q; exact q
    · have n0 : ∀ j, j ≤ 7 → nI (ztc T) ≠ nI j → ztc T ≠ j := fun j hj hn q => hn (by rw [q])
      have := n0 0 (by decide) hno.1
      have := n0 1 (by decide) hno.2.1
      have := n0 2 (by decide) hno.2.2.1
      have := n0 3 (by decide) hno.2.2.2.1
      have := n0 4 (by decide) hno.2.2.2.2.1
      have := n0 5 (by decide) hno.2.2.2.2.2.1
      have := n0 6 (by decide) hno.2.2.2.2.2.2.1
      have := n0 7 (by decide) hno.2.2.2.2.2.2.2
      rw [if_neg (by omega), if_neg (by omega), if_neg (by omega), if_neg (by omega), if_neg (by omega), if_neg (by omega), if_neg (by omega), if_neg (by omega)] at q
      refine zM_nS hl h10 hR hr he (pk_eq (eS e) 2 (fun z => ⟨Or.inr rfl, ?_⟩) (fun z => ⟨Or.inl rfl, ?_⟩))
      · rw [z] at q; exact q
      · rw [beq_false_of_ne z] at q; exact q
theorem zc185 {x : Int32} {p : Nat} (hl : 50 ≤ h.1.length) (h10 : M 10 = zMo F) (hR : zRf F) (hr : zNr M F N fr) (hN : zNg N) (ht : zTbl M F Ts) (he : N[i]? = some e) (hTo : M 19 = zAi To) (hTi : To[i]? = some x) (hx : zTx Ts x (kd, T)) (hfit : zfit kd T e = true) (hp : p < eM e) (hkd : kd = true → ztc T = 9 ∨ ztc T = 10) (q : ∀ y, zTx Ts y (zpt kd T e (p == 0)) → Q (.inl (some (.int y))) (zov h M)) : zG xs d (185, 0, lv_args 0 [zo (some 10), .int (nI i), .int (nI p)], []) (zov h M) Q := by
  obtain ⟨j, hj, hjT, rfl⟩ : ∃ j : Nat, j < 220 ∧ Ts[j]? = some T ∧ x = nI ((if kd = true then 1000 else 0) + j) := hx
  obtain ⟨n1, n2, n3, n4, n5⟩ := hN.2 i e he
  have hil := (List.getElem?_eq_some_iff.mp he).1
  have hi100 := hN.1
  have htk := (ht.2.2.2.1 j T hjT).1
  unfold zfit at hfit
  unfold zpt at q
  refine zm_185 (zM_gr hl h10 (hR (15, 19) (by decide)) (zM_ia' hl hTo hTi ?_))
  have fin : ∀ (U : Term) (y : Nat), y < 220 → Ts[y]? = some U → zTx Ts (nI y) (false, U) := fun U y y1 y2 => ⟨y, y1, y2, by rw [if_neg (show ¬ (false, U).1 = true from (by decide : ¬ false = true)), Nat.zero_add]⟩
  cases kd with
  | true =>
    rw [if_pos rfl] at q hfit
    have hm := hkd rfl
    obtain ⟨w1, w2, w3⟩ := zisw_ok hfit
    refine ⟨fun z => absurd ((nI_ltI (a := 1000 + j) (b := 1000) (by omega) (by decide)).mp z) (by omega), fun _ => pk_eq p 0 (fun hp0 => ?_) (fun hp0 => ?_)⟩
    · rw [show nI ((if true = true then 1000 else 0) + j) - 1000 = nI j by rw [if_pos rfl]; exact (pk_sub (a := 1000 + j) (b := 1000) (by omega)).trans (by rw [show 1000 + j - 1000 = j by omega])]
      refine zM_one hl h10 hR ht hjT hj (by omega) (fun y y1 y2 => q _ (fin _ y y1 ?_))
      rw [hp0]; exact y2
    · rw [show nI ((if true = true then 1000 else 0) + j) - 1000 = nI j by rw [if_pos rfl]; exact (pk_sub (a := 1000 + j) (b := 1000) (by omega)).trans (by rw [show 1000 + j - 1000 = j by omega])]
      refine zM_two hl h10 hR ht hjT hj (by omega) (fun y y1 y2 => q _ (fin _ y y1 ?_))
      rw [beq_false_of_ne hp0]; exact y2
  | false =>
    rw [if_neg (by decide)] at q hfit
    have hj0 : nI ((if false = true then 1000 else 0) + j) = nI j := by rw [if_neg (by decide), Nat.zero_add]
    rw [hj0]
    refine ⟨fun _ => ?_, fun z => absurd (nI_lt (a := j) (b := 1000) (by omega) (by decide)) z⟩
    have map : (ztc T = 9 ∨ ztc T = 10) → zw_185_64 xs d Q (nI j) (zov h M) := by
      intro hm
      unfold zw_185_64
      rw [if_pos hm] at q
      have := q (nI (1000 + j)) ⟨j, hj, hjT, by rw [if_pos rfl]⟩
      rw [show (1000 : Int32) + nI j = nI (1000 + j) from nI_add 1000 j]
      exact this
    refine zM_kind hl h10 hR ht hjT hj (fun hc10 => pk_eq (ztc T) 9 (fun h9 => map (Or.inl h9)) (fun h9 => zM_kind hl h10 hR ht hjT hj (fun _ => pk_eq (ztc T) 10 (fun h10' => map (Or.inr h10')) (fun h10' => zM_kind hl h10 hR ht hjT hj (fun _ => ?_)))))
    rw [if_neg (by omega)] at q
    -- some part: the type has parts
    have hc5 : 5 ≤ ztc T := by
      by_cases z : 5 ≤ ztc T
      · exact z
      · exfalso
        have hm : eM e = 0 := by
          split at hfit
          · exact (zisw_ok hfit).2.2
          · split at hfit
            · rcases Bool.or_eq_true _ _ |>.mp hfit with w | w
              · exact (zisw_ok w).2.2
              · exact (zisw_ok w).2.2
            · split at hfit
              · exact (n5.1 (eq_of_beq hfit)).1
              · split at hfit
                · simp at hfit; exact (n5.1 hfit.1).1
                · rw [if_pos (by omega)] at hfit
                  exact (n5.2.1 (eq_of_beq hfit)).1
        omega
    have c107 : ((ztc T = 5 ∧ (p == 0) = false) ∨ (ztc T = 7 ∧ eC e = 27)) → zw_185_107 xs d Q (some 10) (nI j) (zov h M) := by
      intro hc
      rw [if_pos hc] at q
      exact zM_two hl h10 hR ht hjT hj (by omega) (fun y y1 y2 => q _ (fin _ y y1 y2))
    have c116 : ¬ ((ztc T = 5 ∧ (p == 0) = false) ∨ (ztc T = 7 ∧ eC e = 27)) → zw_185_116 xs d Q (some 10) (nI j) (zov h M) := by
      intro hc
      rw [if_neg hc] at q
      exact zM_one hl h10 hR ht hjT hj hc5 (fun y y1 y2 => q _ (fin _ y y1 y2))
    have c85 : (ztc T = 5 → (p == 0) = true) → zw_185_85 xs d Q (some 10) (nI i) (nI j) (zov h M) := by
      intro hp5
      refine zM_kind hl h10 hR ht hjT hj (fun _ => pk_eq (ztc T) 7 (fun h7 => zM_nC hl h10 hR hr he (pk_eq (eC e) 27 (fun h27 => c107 (Or.inr ⟨h7, h27⟩)) (fun h27 => c116 (fun z => ?_)))) (fun h7 => c116 (fun z => ?_)))
      · rcases z with z | z
        · omega
        · exact h27 z.2
      · rcases z with z | z
        · rw [hp5 z.1] at z; cases z.2
        · exact h7 z.1
    refine pk_eq (ztc T) 5 (fun h5 => pk_eq p 1 (fun hp1 => c107 (Or.inl ⟨h5, by rw [hp1]; rfl⟩)) (fun hp1 => c85 (fun _ => ?_))) (fun h5 => c85 (fun z => absurd z h5))
    rw [if_neg (by omega), if_neg (by omega), if_neg (by omega), if_neg (by omega), if_neg (by omega), if_pos h5] at hfit
    have := (zisw_ok hfit).2.2
    have : p = 0 := by omega
    rw [this]; rfl
end VM
section VB
variable {xs : List Value} {d : Nat} {h : zH} {M : Nat → zE} {F : Nat → Value} {Q : zO → zH → Prop} {Ts : List Term} {T : Term} {N : List zNt} {fr : Nat} {i : Nat} {e : zNt} {To Cl : List Int32} {kd : Bool} {ce : List (Nat × Nat × Nat)} {lo : List (Nat × Nat)}
/-- a cell whose head is -1 -/
theorem zc187m {k b : Nat} (hl : 50 ≤ h.1.length) (hp : zPo M F ce lo) (hc : ce.length < 1400) (hk : k < 128) (hb : b < 32768)
    (q : ∀ M' F', zPo M' F' (ce ++ [(k, 4294967295, b)]) lo → zSm [10, 30, 31, 32] M M' → zSm [27] F F' → Q (.inl (some (.int (nI ce.length)))) (zov h M')) : zG xs d (187, 0, lv_args 0 [zo (some 10), .int (nI k), .int (-1), .int (nI b)], []) (zov h M) Q := by
  obtain ⟨a1, a2, a3, a4, a5, a6, W, H, B, U, L, b1, b2, b3, b4, b5, b6, b7, b8, b9, b10, b11, b12⟩ := hp
  apply zm_187
  refine zM_gr hl a1 (a2 (30, 30) (by decide)) (zM_gi hl a1 a3 ?_)
  rw [znar_b k hk, znar_h hb, show vp_nar .short ((-1 : Int32)).toInt16.toInt32 = nI 4294967295 by decide]
  refine zM_sty hl b1 (by omega) (by omega) ?_
  refine zM_gr hl (by rw [zub_n (by decide)]; exact a1) (a2 (31, 31) (by decide)) (zM_gi hl (by rw [zub_n (by decide)]; exact a1) a3 ?_)
  refine zM_sth (L := H) hl (by rw [zub_n (by decide)]; exact b2) (by omega) (by omega) ?_
  refine zM_gr hl (by rw [zub_n (by decide), zub_n (by decide)]; exact a1) (a2 (32, 32) (by decide)) (zM_gi hl (by rw [zub_n (by decide), zub_n (by decide)]; exact a1) a3 ?_)
  refine zM_sth (L := B) hl (by rw [zub_n (by decide), zub_n (by decide)]; exact b3) (by omega) (by omega) ?_
  refine zM_gi hl (by rw [zub_n (by decide), zub_n (by decide), zub_n (by decide)]; exact a1) a3 (zM_pf hl (by rw [zub_n (by decide), zub_n (by decide), zub_n (by decide)]; exact a1) ?_)
  have sF : zSm [27] F (zub F 27 (.int (nI ce.length + 1))) := zSm_ub zSm_refl (by decide)
  refine q _ (zub F 27 (.int (nI ce.length + 1))) ⟨zub_s, zRf_sm a2 sF (by decide), ?_, ?_, ?_, a6, W.set ce.length (nI k), H.set ce.length (nI 4294967295), B.set ce.length (nI b), U, L, ?_, ?_, ?_, ?_, ?_, ?_, ?_, ?_, b9, b10, ?_, b12⟩ ?_ sF
  · rw [zub_s, nI_1, List.length_append, List.length_singleton]
  · rw [zub_n (by decide)]; exact a4
  · rw [List.length_append, List.length_singleton]; omega
  · rw [zub_n (by decide), zub_n (by decide), zub_n (by decide), zub_s]
  · rw [zub_n (by decide), zub_n (by decide), zub_s]
  · rw [zub_n (by decide), zub_s]
  · rw [zub_n (by decide), zub_n (by decide), zub_n (by decide), zub_n (by decide)]; exact b4
  · rw [zub_n (by decide), zub_n (by decide), zub_n (by decide), zub_n (by decide)]; exact b5
  · rw [List.length_set]; exact b6
  · rw [List.length_set]; exact b7
  · rw [List.length_set]; exact b8
  · intro i c hi
    exact ⟨zgetset (f := fun c : Nat × Nat × Nat => nI c.1) (by omega) rfl rfl (fun i c hi => (b11 i c hi).1) i c hi, zgetset (f := fun c : Nat × Nat × Nat => nI c.2.1) (by omega) rfl rfl (fun i c hi => (b11 i c hi).2.1) i c hi, zgetset (f := fun c : Nat × Nat × Nat => nI c.2.2) (by omega) rfl rfl (fun i c hi => (b11 i c hi).2.2) i c hi⟩
  · exact zSm_ub (zSm_ub (zSm_ub (zSm_ub zSm_refl (by decide)) (by decide)) (by decide)) (by decide)
theorem zc188 {s : Bool} (hl : 50 ≤ h.1.length) (hp : zPo M F ce lo) (hc : ce.length < 1400)
    (q : ∀ M' F', zPo M' F' (ce ++ [(if s = true then 2 else 1, 0, 0)]) lo → zSm [10, 30, 31, 32] M M' → zSm [27] F F' → Q (.inl (some (.int (nI ce.length)))) (zov h M')) : zG xs (d + 1) (188, 0, lv_args 0 [zo (some 10), .int (zB s)], []) (zov h M) Q := by
  refine zm_188 ⟨fun z => ?_, fun z => ?_⟩
  · rw [zB_0.mp z] at q
    exact zM_cv hl hp.1 (zc187 (k := 1) (a := 0) (b := 0) hl hp hc (by decide) (by decide) (by decide) (fun M' F' a1 a2 a3 => zKI_v (q M' F' a1 a2 a3)))
  · have hs : s = true := by cases hq : s; exact absurd (by rw [hq]; rfl) z; rfl
    subst hs
    exact zM_cv hl hp.1 (zc187 (k := 2) (a := 0) (b := 0) hl hp hc (by decide) (by decide) (by decide) (fun M' F' a1 a2 a3 => zKI_v (q M' F' a1 a2 a3)))
theorem zlast {α : Type} {l : List α} {x : α} : (l ++ [x])[l.length]? = some x := by rw [List.getElem?_append_right (Nat.le_refl _), Nat.sub_self]; rfl
theorem zc186 {x : Int32} (hl : 50 ≤ h.1.length) (hp : zPo M F ce lo) (hc : ce.length < 1400) (hlo : lo.length < 600) (hr : zNr M F N fr) (hx : zNx M N) (hg : zGd N) (ht : zTbl M F Ts) (he : N[i]? = some e) (hTo : M 19 = zAi To) (hTi : To[i]? = some x) (htx : zTx Ts x (kd, T)) (hCl : M 20 = zAi Cl) (lCl : Cl.length = 100) (hfit : zfit kd T e = true) (hkd : kd = true → ztc T = 9 ∨ ztc T = 10)
    (hch : kd = true ∨ ztc T ≤ 7 → ∀ j, j ∈ zchn N (eM e) (i + 1) → ∃ c, Cl[j]? = some (nI c) ∧ zRc ce lo (ztv N j (zpt kd T e (j == i + 1)).1 (zpt kd T e (j == i + 1)).2) (.inl c))
    (hrow : kd = false → 8 ≤ ztc T → 0 < eM e → ∃ c, Cl[i]? = some (nI c) ∧ zRc ce lo (ztv N i false T) (.inl c))
    (q : ∀ M' F' ce' lo' c, zPo M' F' (ce ++ ce') (lo ++ lo') → ce'.length ≤ 1 → (kd = false → 8 ≤ ztc T → 0 < eM e → ce' = []) → lo'.length ≤ 1 → zRc (ce ++ ce') (lo ++ lo') (ztv N i kd T) (.inl c) → zSm [10, 30, 31, 32, 33, 34] M M' → zSm [27, 28] F F' → Q (.inl (some (.int (nI c)))) (zov h M')) : zG xs (d + 3) (186, 0, lv_args 0 [zo (some 10), .int (nI i)], []) (zov h M) Q := by
  obtain ⟨j, hj, hjT, rfl⟩ : ∃ j : Nat, j < 220 ∧ Ts[j]? = some T ∧ x = nI ((if kd = true then 1000 else 0) + j) := htx
  obtain ⟨n1, n2, n3, n4, n5, n6, n7, n8⟩ := hg.1.2 i e he
  have h10 := hp.1
  have hR := hp.2.1
  have hil := (List.getElem?_eq_some_iff.mp he).1
  have hi100 := hg.1.1
  have htk := (ht.2.2.2.1 j T hjT).1
  have hk := zGd_k hg he
  have tv := ztv_eq hg.1.1 i kd T
  unfold ztvB at tv
  rw [he] at tv
  dsimp only at tv
  have fin : ∀ {M' F'} {x : Nat × Nat × Nat}, ¬ (kd = false ∧ 8 ≤ ztc T ∧ 0 < eM e) → zPo M' F' (ce ++ [x]) lo → zSm [10, 30, 31, 32] M M' → zSm [27] F F' → (zRc (ce ++ [x]) (lo ++ []) (ztv N i kd T) (.inl ce.length)) → Q (.inl (some (.int (nI ce.length)))) (zov h M') := fun a0 a1 a2 a3 a4 => q _ _ _ [] _ (by rw [List.append_nil]; exact a1) (Nat.le_refl _) (fun b1 b2 b3 => absurd ⟨b1, b2, b3⟩ a0) (Nat.zero_le _) a4 (zSm_mono a2 (by decide)) (zSm_mono a3 (by decide))
  -- behind the parts' cells
  have c73 : ∀ (a b : Int32), (0 < eM e → Cl[i + 1]? = some a) → (eM e = 0 → a = -1) → (1 < eM e → Cl[znx N (i + 1)]? = some b) → zw_186_54 xs (d + 3) Q (some 10) (nI i) (nI ((if kd = true then 1000 else 0) + j)) a b (zov h M) := by
    intro a b ha ha0 hb
    have pair : ∀ c, zisw e c 2 = true → (kd = true ∨ ztc T ≤ 7) → (∀ f, (zpt kd T e f).1 = false) → ztv N i kd T = .add (.div (.arg c) (ztv N (i + 1) false (zpt kd T e true).2)) (ztv N (znx N (i + 1)) false (zpt kd T e false).2) → zCV xs (d + 3) 187 12 (some 10) [.int 5, .int a, .int b] (zov h M) (zKI (fun x23 h24 => Q (.inl (some (.int x23))) h24) (fun e h => Q (.inr e) h)) := by
      intro c hw hor hpf hv
      obtain ⟨w1, w2, w3⟩ := zisw_ok hw
      obtain ⟨k1, k2, k3, k4, k5⟩ := zkid_w hg he hw
      obtain ⟨c1, g1, g2⟩ := hch hor (i + 1) (by rw [k1]; simp)
      obtain ⟨c2, g3, g4⟩ := hch hor (znx N (i + 1)) (by rw [k1]; simp)
      rw [beq_self_eq_true, hpf] at g2
      rw [k2, hpf] at g4
      have b1 := zRc_lt _ _ g2 c1 (Or.inl rfl)
      have b2 := zRc_lt _ _ g4 c2 (Or.inl rfl)
      rw [ha (by omega)] at g1
      rw [hb (by omega)] at g3
      cases g1
      cases g3
      refine zM_cv hl h10 (zc187 (k := 5) hl hp hc (by decide) (by omega) (by omega) (fun M' F' a1 a2 a3 => zKI_v (fin (fun z => hor.elim (fun w => absurd (z.1.symm.trans w) (by decide)) (fun w => by omega)) a1 a2 a3 ?_)))
      rw [hv]
      exact ⟨c1, c2, zlast, zRc_app _ _ g2, zRc_app _ _ g4⟩
    cases kd with
    | true =>
      rw [if_pos rfl] at tv
      refine ⟨fun z => absurd ((nI_ltI (a := 1000 + j) (b := 1000) (by omega) (by decide)).mp z) (by omega), fun _ => ?_⟩
      have hw : zisw e 28 2 = true := by unfold zfit at hfit; rw [if_pos rfl] at hfit; exact hfit
      have := pair 28 hw (Or.inl rfl) (fun f => rfl) (by rw [tv]; rfl)
      exact ⟨fun z => absurd z (by decide), fun z => absurd z (by decide), fun z => absurd z (by decide), fun z => absurd z (by decide), fun _ => this, fun z => absurd z (by decide), fun z => absurd z (by decide), fun z => absurd rfl z.2.2.2.2.1⟩
    | false =>
      rw [if_neg (by decide)] at tv
      have hj0 : nI ((if false = true then 1000 else 0) + j) = nI j := by rw [if_neg (by decide), Nat.zero_add]
      rw [hj0]
      refine ⟨fun _ => zM_kind hl h10 hR ht hjT hj (fun hc10 => ?_), fun z => absurd (nI_lt (a := j) (b := 1000) (by omega) (by decide)) z⟩
      have nn : ∀ (j : Nat) (P : Prop), j ≤ 10 → (ztc T = j → P) → (nI (ztc T) = nI j → P) := fun j P hj hp z => hp ((nI_eq (by omega) (by omega)).mp z)
      have hfit' := hfit
      unfold zfit at hfit'
      rw [if_neg (by decide)] at hfit'
      have leafC : ∀ (c : Nat), zisw e c 0 = true → ztc T ≤ 7 → ztv N i false T = .arg c := by
        intro c hw h7
        obtain ⟨w1, w2, w3⟩ := zisw_ok hw
        rw [tv, if_neg (by omega), if_neg (by omega), if_neg (by omega), if_neg (by omega), if_neg (by omega), w3, w2]
        rfl
      have one : ∀ (c : Nat), zisw e c 1 = true → ztc T ≤ 7 → ztc T ≠ 5 → ∃ c1, a = nI c1 ∧ c1 < ce.length ∧ zRc ce lo (ztv N (i + 1) false (zpt false T e true).2) (.inl c1) ∧ ztv N i false T = .div (.arg c) (ztv N (i + 1) false (zpt false T e true).2) := by
        intro c hw h7 h5
        obtain ⟨w1, w2, w3⟩ := zisw_ok hw
        have k1 : zchn N (eM e) (i + 1) = [i + 1] := by rw [w3]; rfl
        obtain ⟨c1, g1, g2⟩ := hch (Or.inr h7) (i + 1) (by rw [k1]; simp)
        have hp1 : (zpt false T e true).1 = false := by unfold zpt; rw [if_neg (by decide), if_neg (by omega)]
        rw [beq_self_eq_true, hp1] at g2
        have b1 := zRc_lt _ _ g2 c1 (Or.inl rfl)
        rw [ha (by omega)] at g1
        cases g1
        refine ⟨c1, rfl, b1, g2, ?_⟩
        rw [tv, if_neg (by omega), if_neg (by omega), if_neg (by omega), if_neg (by omega), if_neg (by omega), k1, w2]
        simp only [List.map_cons, List.map_nil]
        rw [beq_self_eq_true, hp1]
        rfl
      refine ⟨nn 0 _ (by decide) (fun c => ?_), nn 1 _ (by decide) (fun c => ?_), fun z23 => ?_, nn 4 _ (by decide) (fun c => ?_), nn 5 _ (by decide) (fun c => ?_), nn 6 _ (by decide) (fun c => ?_), nn 7 _ (by decide) (fun c => ?_), fun hno => ?_⟩
      · rw [if_pos c] at hfit'
        have hv := leafC 20 hfit' (by omega)
        refine zM_cv hl h10 (zc187 (k := 0) (a := 0) (b := 0) hl hp hc (by decide) (by decide) (by decide) (fun M' F' a1 a2 a3 => zKI_v (fin (fun z => by omega) a1 a2 a3 ?_)))
        rw [hv]
        exact ⟨0, 0, zlast⟩
      · rw [if_neg (by omega), if_pos c] at hfit'
        have b145 : ∀ s : Bool, ztv N i false T = .arg (if s = true then 22 else 21) → zw_186_145 xs (d + 3) Q (zB s) (some 10) (zov h M) := by
          intro s hv
          refine zM_cv hl h10 (zc188 (d := d + 1) hl hp hc (fun M' F' a1 a2 a3 => zKI_v (fin (fun z => by omega) a1 a2 a3 ?_)))
          rw [hv]
          cases s
          · exact ⟨0, 0, zlast⟩
          · exact ⟨0, 0, zlast⟩
        refine zM_nC hl h10 hR hr he (pk_eq (eC e) 22 (fun h22 => b145 true ?_) (fun h22 => b145 false ?_))
        · rcases Bool.or_eq_true _ _ |>.mp hfit' with w | w
          · have := (zisw_ok w).2.1; omega
          · exact leafC 22 w (by omega)
        · rcases Bool.or_eq_true _ _ |>.mp hfit' with w | w
          · exact leafC 21 w (by omega)
          · exact absurd (zisw_ok w).2.1 h22
      · have c23 : ztc T = 2 ∨ ztc T = 3 := by
          rcases z23 with z | z
          · exact Or.inl ((nI_eq (b := 2) (by omega) (by omega)).mp z)
          · exact Or.inr ((nI_eq (b := 3) (by omega) (by omega)).mp z)
        have hS0 : eS e = 0 := by
          rw [if_neg (by omega), if_neg (by omega)] at hfit'
          split at hfit'
          · exact eq_of_beq hfit'
          · rw [if_pos (by omega)] at hfit'; simp at hfit'; exact hfit'.1
        obtain ⟨m1, m2, m3, m4, m5⟩ := n5 hS0
        have hv : ztv N i false T = znb e := by rw [tv, if_neg (by omega), if_neg (by omega), if_neg (by omega), if_pos hS0]
        obtain ⟨n, hn⟩ : ∃ n, eH e * 1152921504606846976 + eL e = n := ⟨_, rfl⟩
        rw [hn] at m5
        have hbd : n < 2 ^ 120 := by omega
        have e1 : eH e = n / 1152921504606846976 := by omega
        have e2 : eL e = n % 1152921504606846976 := by omega
        have b177 : ∀ s : Bool, (s = true ↔ eC e = 1) → zw_186_177 xs (d + 3) Q (zB s) (lN (eL e)) (lN (eH e)) (some 10) (zov h M) := by
          intro s hs
          unfold zw_186_177
          rw [e1, e2]
          refine zM_cv hl h10 (zc189 (d := d) (s := s) (n := n) hl hp hc hlo (by omega) (fun M' F' ce' lo' a1 a2 a3 a4 a5 a6 => zKI_v (q M' F' ce' lo' _ a1 (by omega) (fun _ z _ => absurd z (by omega)) (by omega) ?_ a5 a6)))
          rw [hv]
          unfold znb
          rw [hn]
          refine ⟨?_, hbd, ?_⟩
          · have : ((if eC e = 1 ∧ n ≠ 0 then 1 else 0) == 1) = (s && n != 0) := by
              by_cases hq : eC e = 1 ∧ n ≠ 0
              · rw [if_pos hq, hs.mpr hq.1]
                simp [hq.2]
              · rw [if_neg hq]
                cases hs2 : s with
                | false => rfl
                | true =>
                  have h1 := hs.mp hs2
                  exact absurd ⟨h1, m5 h1⟩ hq
            rw [this]
            exact a4
          · by_cases hq : eC e = 1 ∧ n ≠ 0
            · rw [if_pos hq]; exact Or.inr ⟨rfl, hq.2⟩
            · rw [if_neg hq]; exact Or.inl rfl
        obtain ⟨_, _, So, Fi, Co, Ma, Ab, Hi, Lo, c1, c2, c3, c4, c5, c6, c7, c8, c9, c10, c11, c12, c13, c14, rows⟩ := hr
        have hr : zNr M F N fr := ⟨‹_›, ‹_›, So, Fi, Co, Ma, Ab, Hi, Lo, c1, c2, c3, c4, c5, c6, c7, c8, c9, c10, c11, c12, c13, c14, rows⟩
        refine zM_gr hl h10 (hR (17, 21) (by decide)) (zM_la hl c6 (rows i e he).2.2.2.2.2.1 (zM_gr hl h10 (hR (18, 22) (by decide)) (zM_la hl c7 (rows i e he).2.2.2.2.2.2 (zM_nC hl h10 hR hr he (pk_eq (eC e) 1 (fun z => b177 true ⟨fun _ => z, fun _ => rfl⟩) (fun z => b177 false ⟨fun q => (by cases q), fun q => absurd q z⟩))))))
      · rw [if_neg (by omega), if_neg (by omega), if_neg (by omega), if_neg (by omega), if_pos c] at hfit'
        have hS1 : eS e = 1 := eq_of_beq hfit'
        obtain ⟨m1, m2⟩ := n6 hS1
        have hv : ztv N i false T = .mul (.arg (eC e)) (.arg (eL e)) := by rw [tv, if_neg (by omega), if_neg (by omega), if_neg (by omega), if_neg (by omega), if_pos hS1]
        obtain ⟨_, _, So, Fi, Co, Ma, Ab, Hi, Lo, c1, c2, c3, c4, c5, c6, c7, c8, c9, c10, c11, c12, c13, c14, rows⟩ := hr
        have hr : zNr M F N fr := ⟨‹_›, ‹_›, So, Fi, Co, Ma, Ab, Hi, Lo, c1, c2, c3, c4, c5, c6, c7, c8, c9, c10, c11, c12, c13, c14, rows⟩
        refine zM_gr hl h10 (hR (18, 22) (by decide)) (zM_la hl c7 (rows i e he).2.2.2.2.2.2 (zM_nC hl h10 hR hr he ?_))
        refine zM_cv hl h10 (zc190 (d := d + 1) (k := 4) (u := 0) (v := eL e) (b := eC e) hl hp hc hlo (by decide) (by omega) (fun M' F' a1 a2 a3 => zKI_v (q M' F' _ _ _ a1 (Nat.le_refl _) (fun _ z _ => absurd z (by omega)) (Nat.le_refl _) ?_ a2 a3)))
        rw [hv]
        exact ⟨⟨lo.length, zlast, zlast⟩, m2⟩
      · rw [if_neg (by omega), if_neg (by omega), if_neg (by omega), if_neg (by omega), if_neg (by omega), if_pos c] at hfit'
        obtain ⟨w1, w2, w3⟩ := zisw_ok hfit'
        obtain ⟨k1, k2, k3, k4, k5⟩ := zkid_w hg he hfit'
        refine pair 23 hfit' (Or.inr (by omega)) (fun f => by unfold zpt; rw [if_neg (by decide), if_neg (by omega)]) ?_
        have hpf : ∀ f, (zpt false T e f).1 = false := fun f => by unfold zpt; rw [if_neg (by decide), if_neg (by omega)]
        rw [tv, if_neg (by omega), if_neg (by omega), if_neg (by omega), if_neg (by omega), if_neg (by omega), k1, w2]
        simp only [List.map_cons, List.map_nil]
        rw [beq_self_eq_true, k2, hpf, hpf]
        rfl
      · rw [if_neg (by omega), if_neg (by omega), if_neg (by omega), if_neg (by omega), if_neg (by omega), if_neg (by omega), if_pos c] at hfit'
        refine zM_nM hl h10 hR hr he (pk_eq (eM e) 0 (fun hm => ?_) (fun hm => ?_))
        · have hw : zisw e 24 0 = true := by
            rcases Bool.or_eq_true _ _ |>.mp hfit' with w | w
            · exact w
            · have := (zisw_ok w).2.2; omega
          have hv := leafC 24 hw (by omega)
          unfold zw_186_226
          rw [ha0 hm]
          refine zM_cv hl h10 (zc187m (k := 6) (b := 0) hl hp hc (by decide) (by decide) (fun M' F' a1 a2 a3 => zKI_v (fin (fun z => by omega) a1 a2 a3 ?_)))
          rw [hv]
          exact ⟨_, 0, zlast⟩
        · have hw : zisw e 25 1 = true := by
            rcases Bool.or_eq_true _ _ |>.mp hfit' with w | w
            · exact absurd (zisw_ok w).2.2 hm
            · exact w
          obtain ⟨c1, rfl, b1, g2, hv⟩ := one 25 hw (by omega) (by omega)
          refine zM_cv hl h10 (zc187 (k := 7) (b := 0) hl hp hc (by decide) (by omega) (by decide) (fun M' F' a1 a2 a3 => zKI_v (fin (fun z => by omega) a1 a2 a3 ?_)))
          rw [hv]
          exact ⟨c1, 0, zlast, zRc_app _ _ g2⟩
      · rw [if_neg (by omega), if_neg (by omega), if_neg (by omega), if_neg (by omega), if_neg (by omega), if_neg (by omega), if_neg (by omega), if_pos c] at hfit'
        refine zM_nC hl h10 hR hr he (pk_eq (eC e) 26 (fun h26 => ?_) (fun h26 => ?_))
        · have hw : zisw e 26 1 = true := by
            rcases Bool.or_eq_true _ _ |>.mp hfit' with w | w
            · exact w
            · have := (zisw_ok w).2.1; omega
          obtain ⟨c1, rfl, b1, g2, hv⟩ := one 26 hw (by omega) (by omega)
          refine zM_cv hl h10 (zc187 (k := 8) (b := 0) hl hp hc (by decide) (by omega) (by decide) (fun M' F' a1 a2 a3 => zKI_v (fin (fun z => by omega) a1 a2 a3 ?_)))
          rw [hv]
          exact ⟨c1, 0, zlast, zRc_app _ _ g2⟩
        · have hw : zisw e 27 1 = true := by
            rcases Bool.or_eq_true _ _ |>.mp hfit' with w | w
            · exact absurd (zisw_ok w).2.1 h26
            · exact w
          obtain ⟨c1, rfl, b1, g2, hv⟩ := one 27 hw (by omega) (by omega)
          refine zM_cv hl h10 (zc187 (k := 9) (b := 0) hl hp hc (by decide) (by omega) (by decide) (fun M' F' a1 a2 a3 => zKI_v (fin (fun z => by omega) a1 a2 a3 ?_)))
          rw [hv]
          exact ⟨c1, 0, zlast, zRc_app _ _ g2⟩
      · have n0 : ∀ j, j ≤ 10 → nI (ztc T) ≠ nI j → ztc T ≠ j := fun j hj hn q => hn (by rw [q])
        have := n0 0 (by decide) hno.1
        have := n0 1 (by decide) hno.2.1
        have := n0 2 (by decide) (fun z => hno.2.2.1 (Or.inl z))
        have := n0 3 (by decide) (fun z => hno.2.2.1 (Or.inr z))
        have := n0 4 (by decide) hno.2.2.2.1
        have := n0 5 (by decide) hno.2.2.2.2.1
        have := n0 6 (by decide) hno.2.2.2.2.2.1
        have := n0 7 (by decide) hno.2.2.2.2.2.2
        refine zM_nM hl h10 hR hr he (pk_lt 0 (eM e) (fun hm => ?_) (fun hm => ?_))
        · obtain ⟨c1, g1, g2⟩ := hrow rfl (by omega) hm
          refine zM_gr hl h10 (hR (16, 20) (by decide)) (zM_ia' hl hCl g1 ?_)
          exact q M F [] [] c1 (by rw [List.append_nil, List.append_nil]; exact hp) (Nat.zero_le _) (fun _ _ _ => rfl) (Nat.zero_le _) (by rw [List.append_nil, List.append_nil]; exact g2) zSm_refl zSm_refl
        · refine zM_kind hl h10 hR ht hjT hj (fun _ => ?_)
          rw [show (10 : Int32) + 2 * (nI (ztc T) - 8) = nI (10 + 2 * (ztc T - 8)) by
            rw [show nI (ztc T) - (8 : Int32) = nI (ztc T - 8) from pk_sub (b := 8) (by omega), show (2 : Int32) * nI (ztc T - 8) = nI (2 * (ztc T - 8)) from pk_mul 2 _]
            exact nI_add 10 _]
          refine zM_cv hl h10 (zc187 (a := 0) (b := 0) hl hp hc (by omega) (by decide) (by decide) (fun M' F' a1 a2 a3 => zKI_v (fin (fun z => by omega) a1 a2 a3 ?_)))
          have hm0 : eM e = 0 := by omega
          rw [hm0] at tv
          rw [tv]
          by_cases h8 : ztc T = 8
          · rw [if_pos h8, h8]; exact ⟨0, 0, zlast⟩
          · rw [if_neg h8]
            by_cases h9 : ztc T = 9
            · rw [if_pos h9, h9]; exact ⟨0, 0, zlast⟩
            · have h10' : ztc T = 10 := by omega
              rw [if_neg h9, if_pos h10', h10']; exact ⟨0, 0, zlast⟩
  refine zm_186 (zM_gr hl h10 (hR (15, 19) (by decide)) (zM_ia' hl hTo hTi (zM_nM hl h10 hR hr he (pk_lt 0 (eM e) (fun h0 => ?_) (fun h0 => ?_)))))
  · have hk0 : zful N (i + 1) := by
      obtain ⟨q, hq⟩ : ∃ q, eM e = q + 1 := ⟨eM e - 1, by omega⟩
      rw [hq] at hk
      exact hk.1
    have l1 := zful_lt hk0
    obtain ⟨y, hy⟩ : ∃ y, Cl[i + 1]? = some y := ⟨_, List.getElem?_eq_getElem (by omega)⟩
    rw [nI_1]
    refine zM_gr hl h10 (hR (16, 20) (by decide)) (zM_ia' hl hCl hy (zM_nM hl h10 hR hr he (pk_lt 1 (eM e) (fun h1 => ?_) (fun h1 => ?_))))
    · have hk1 : zful N (znx N (i + 1)) := by
        obtain ⟨q, hq⟩ : ∃ q, eM e = q + 1 + 1 := ⟨eM e - 2, by omega⟩
        rw [hq] at hk
        exact hk.2.1
      have l2 := zful_lt hk1
      obtain ⟨y2, hy2⟩ : ∃ y, Cl[znx N (i + 1)]? = some y := ⟨_, List.getElem?_eq_getElem (by omega)⟩
      refine zM_gr hl h10 (hR (16, 20) (by decide)) (zM_cv hl h10 (zc164 hl h10 hR hx (by omega) hi100 (zKI_v (zM_ia' hl hCl hy2 ?_))))
      exact c73 y y2 (fun _ => hy) (fun z => absurd z (by omega)) (fun _ => hy2)
    · exact c73 y (-1) (fun _ => hy) (fun z => absurd z (by omega)) (fun z => absurd z (by omega))
  · refine zM_nM hl h10 hR hr he (pk_lt 1 (eM e) (fun h1 => absurd h1 (by omega)) (fun h1 => ?_))
    exact c73 (-1) (-1) (fun z => absurd z (by omega)) (fun _ => rfl) (fun z => absurd z (by omega))
end VB
/-! the reference's reading of a value: what its loops keep -/
/-- the nodes ahead of m fit, and their parts' types are known -/
def zT1 (N : List zNt) (n : Nat) (T : Term) (te : Nat → Bool × Term) (m : Nat) : Prop := te n = (false, T) ∧
  (∀ (p : Nat) (ep : zNt), n ≤ p → p < m → N[p]? = some ep → ∀ j, j ∈ zchn N (eM ep) (p + 1) → te j = zpt (te p).1 (te p).2 ep (j == p + 1)) ∧
  (∀ p, n ≤ p → p < m → ∃ e, N[p]? = some e ∧ zfit (te p).1 (te p).2 e = true)
def zteN (N : List zNt) (te : Nat → Bool × Term) (m : Nat) (e : zNt) : Nat → Bool × Term := fun j => if j ∈ zchn N (eM e) (m + 1) then zpt (te m).1 (te m).2 e (j == m + 1) else te j
section VL
variable {N : List zNt} {n : Nat} {T : Term} {te : Nat → Bool × Term} {m : Nat} {e : zNt}
theorem zteN_le (j : Nat) (hj : j ≤ m) : zteN N te m e j = te j := by
  unfold zteN
  rw [if_neg (fun z => by have := zchn_ge _ _ _ z; omega)]
theorem zteN_kid (hg : zGd N) (he : N[m]? = some e) {p : Nat} {ep : zNt} (hp : N[p]? = some ep) (hpm : p ≠ m) {j : Nat} (hj : j ∈ zchn N (eM ep) (p + 1)) : zteN N te m e j = te j := by
  unfold zteN
  rw [if_neg (fun z => ?_)]
  obtain ⟨e1, h1, h2⟩ := hg.2.1 m e he j z
  obtain ⟨e2, h3, h4⟩ := hg.2.1 p ep hp j hj
  rw [h1] at h3
  cases h3
  omega
theorem zT1_step (hg : zGd N) (ht : zT1 N n T te m) (hnm : n ≤ m) (he : N[m]? = some e) (hf : zfit (te m).1 (te m).2 e = true) : zT1 N n T (zteN N te m e) (m + 1) := by
  obtain ⟨t0, t1, t2⟩ := ht
  refine ⟨by rw [zteN_le n hnm]; exact t0, fun p ep h1 h2 hp j hj => ?_, fun p h1 h2 => ?_⟩
  · rw [zteN_le p (by omega)]
    by_cases hpm : p = m
    · subst hpm
      cases he.symm.trans hp
      unfold zteN
      rw [if_pos hj]
    · rw [zteN_kid hg he hp hpm hj]
      exact t1 p ep h1 (by omega) hp j hj
  · rw [zteN_le p (by omega)]
    by_cases hpm : p = m
    · subst hpm; exact ⟨e, he, hf⟩
    · exact t2 p h1 (by omega)
theorem zT1_te {r : Nat} (ht : zT1 N n T te r) (hn : n < N.length) (hnr : n ≤ r) (hr : r ≤ znx N n) (hb : r < znx N n → ∃ e, N[r]? = some e ∧ zfit (te r).1 (te r).2 e = false) : zTe N n T te r := ⟨ht.1, hn, hnr, ht.2.1, ht.2.2, hr, hb⟩
/-- the key of an entry, read in full, is of its type -/
theorem zmi_key (hg : zGd N) {r q : Nat} (ht : zTe N n T te r) (h1 : zTok T) (h2 : zTs T) (q1 : n ≤ q) (q2 : q < r) (q3 : (te q).1 = true) (q4 : znx N (q + 1) ≤ r) : zMi N (q + 1) false (zt1 (te q).2) = none ∧ ztsim (zt1 (te q).2) = true ∧ te (q + 1) = (false, zt1 (te q).2) := by
  obtain ⟨eq, he, hfit⟩ := ht.2.2.2.2.1 q q1 q2
  have hw : zisw eq 28 2 = true := by unfold zfit at hfit; rw [if_pos q3] at hfit; exact hfit
  obtain ⟨c1, c2, c3, c4, c5⟩ := zkid_w hg he hw
  have hz := zful_lt (hg.2.2 (q + 1) c4)
  have ht1 : te (q + 1) = (false, zt1 (te q).2) := by
    rw [ht.2.2.2.1 q eq q1 q2 he (q + 1) (by rw [c1]; simp), beq_self_eq_true]
    unfold zpt
    rw [if_pos q3]; rfl
  have hs := zsim_in hg ht h1 h2 q1 q2 q3 0 (q + 1) (by omega) (Nat.le_refl _) hz.2.1 (by omega)
  rw [ht1] at hs
  have hrle := ht.2.2.2.2.2.1
  have sc := zmi_scan hg ht N.length (q + 1) (by omega) (by omega) c4 (by omega) (by omega)
  rw [ht1] at sc
  refine ⟨?_, hs.2, ht1⟩
  rw [sc, if_neg (by omega)]
  show zS2 N te r (q + 1 + 1) (min (znx N (q + 1)) (r + 1) - (q + 1 + 1)) = none
  refine zS2_none _ _ (fun m a b => ?_)
  unfold zev2
  rw [if_neg (by omega)]
  cases hd : zdv N te m with
  | none => rfl
  | some x =>
    exfalso
    obtain ⟨p, p1, p2, p3, p4, p5, p6⟩ := zdv_at hg ht (by omega) (by omega) (by omega) hd
    -- m is a part of p: p stands in the key
    obtain ⟨p', ep', e1, e2, e3, e4⟩ := zpar_in hg m (q + 1) m (by omega) (by omega) c4 (by omega)
    obtain ⟨em, f1, f2⟩ := hg.2.1 p' ep' e3 m e4
    obtain ⟨ep, g1, g2⟩ := ht.2.2.2.2.1 p p1 (by omega)
    have hwp : zisw ep 28 2 = true := by unfold zfit at g2; rw [if_pos p3] at g2; exact g2
    obtain ⟨c1', _⟩ := zkid_w hg g1 hwp
    obtain ⟨em', f1', f2'⟩ := hg.2.1 p ep g1 m (by rw [c1', p5]; simp)
    rw [f1] at f1'
    cases f1'
    have hpp : p = p' := by omega
    subst hpp
    have := zsim_in hg ht h1 h2 q1 q2 q3 p p (by omega) e1 (by omega) (by omega)
    rw [p3] at this
    exact absurd this.1 (by decide)
/-- simple values: the type adds nothing -/
theorem ztv_sim (hg : zGd N) : ∀ (K : Term) (i : Nat), zTok K → ztsim K = true → zMi N i false K = none → ztv N i false K = zrw N i ∧ zdep (zrw N i) + 1 ≤ ztdep K := by
  intro K
  have unf : ∀ (K : Term) (i : Nat), zMi N i false K = none → ∃ e, N[i]? = some e ∧ zfit false K e = true ∧ zfst ((zchn N (eM e) (i + 1)).map fun j => zMi N j (zpt false K e (j == i + 1)).1 (zpt false K e (j == i + 1)).2) = none := by
    intro K i hm
    rw [zMi_eq hg.1.1] at hm
    unfold zmiB at hm
    cases he : N[i]? with
    | none => rw [he] at hm; cases hm
    | some e =>
      rw [he] at hm
      dsimp only at hm
      split at hm
      · cases hm
      · rename_i hf
        rw [if_neg (by decide)] at hm
        exact ⟨e, rfl, by cases hq : zfit false K e; exact absurd hq hf; rfl, hm⟩
  fun_induction ztsim K with
  | case1 c =>
    intro i hk hs h1
    have hc : 1 ≤ c ∧ c ≤ 4 := of_decide_eq_true hs
    obtain ⟨e, he, hf, _⟩ := unf _ i h1
    have tv := ztv_eq hg.1.1 i false (.arg c)
    unfold ztvB at tv
    rw [he] at tv
    dsimp only at tv
    have hcc : ztc (.arg c) = c := rfl
    rw [hcc, if_neg (by decide), if_neg (by omega), if_neg (by omega), if_neg (by omega)] at tv
    have rw0 := zrw_eq hg.1.1 he
    unfold zfit at hf
    rw [hcc, if_neg (by decide), if_neg (by omega)] at hf
    by_cases h0 : eS e = 0
    · rw [if_pos h0] at tv rw0
      rw [tv, rw0]
      exact ⟨rfl, by show 0 + 1 ≤ 1; decide⟩
    · rw [if_neg h0] at tv rw0
      by_cases h1 : eS e = 1
      · rw [if_pos h1] at tv rw0
        rw [tv, rw0]
        exact ⟨rfl, by show 0 + 1 ≤ 1; decide⟩
      · rw [if_neg h1] at tv rw0
        have hc1 : c = 1 := by
          by_cases z1 : c = 1
          · exact z1
          · exfalso
            rw [if_neg z1] at hf
            split at hf
            · exact h0 (eq_of_beq hf)
            · split at hf
              · simp at hf; exact h0 hf.1
              · rw [if_pos (by omega)] at hf; exact h1 (eq_of_beq hf)
        rw [if_pos hc1] at hf
        have hw : ∃ x, zisw e x 0 = true := by
          rcases Bool.or_eq_true _ _ |>.mp hf with w | w
          · exact ⟨_, w⟩
          · exact ⟨_, w⟩
        obtain ⟨x, hw⟩ := hw
        obtain ⟨w1, w2, w3⟩ := zisw_ok hw
        rw [if_neg (by omega), w3] at rw0
        rw [w3] at tv
        rw [tv, rw0]
        exact ⟨rfl, by show 0 + 1 ≤ 1; decide⟩
  | case2 c a b ih1 ih2 =>
    intro i hk hs h1
    simp at hs
    obtain ⟨⟨hc5, hsa⟩, hsb⟩ := hs
    subst hc5
    obtain ⟨_, ka, kb⟩ := hk
    have fitp : ∀ e, zfit false (.add (.div (.arg 5) a) b) e = zisw e 23 2 := fun e => rfl
    have ptp : ∀ e fst, zpt false (.add (.div (.arg 5) a) b) e fst = (false, if fst = true then a else b) := fun e fst => by cases fst <;> rfl
    obtain ⟨e, he, hf, hkk⟩ := unf _ i h1
    rw [fitp] at hf
    obtain ⟨q1, q2, q3, _⟩ := zkid_w hg he hf
    obtain ⟨w1, w2, w3⟩ := zisw_ok hf
    rw [q1] at hkk
    simp only [List.map_cons, List.map_nil, zfst, ptp] at hkk
    rw [q2, beq_self_eq_true] at hkk
    simp only [if_true] at hkk
    have h2 : zMi N (i + 1) false a = none := by
      cases hp : zMi N (i + 1) false a with
      | none => rfl
      | some x => rw [hp] at hkk; cases hkk
    have h3 : zMi N (znx N (i + 1)) false b = none := by
      cases hp : zMi N (znx N (i + 1)) false b with
      | none => rfl
      | some x =>
        rw [h2] at hkk
        have : zor none (zor (some x) none) = none := by rw [← hp]; exact hkk
        cases this
    obtain ⟨i1, i2⟩ := ih1 (i + 1) ka hsa h2
    obtain ⟨i3, i4⟩ := ih2 (znx N (i + 1)) kb hsb h3
    have tv := ztv_eq hg.1.1 i false (.add (.div (.arg 5) a) b)
    unfold ztvB at tv
    rw [he] at tv
    dsimp only at tv
    have hcc : ztc (.add (.div (.arg 5) a) b) = 5 := rfl
    rw [hcc, if_neg (by decide), if_neg (by decide), if_neg (by decide), if_neg (by decide), if_neg (by omega), if_neg (by omega), q1] at tv
    simp only [List.map_cons, List.map_nil, ptp] at tv
    rw [q2, beq_self_eq_true] at tv
    simp only [if_true] at tv
    refine ⟨?_, ?_⟩
    · rw [tv, q3, w2]
      show Term.add (.div (.arg 23) (ztv N (i + 1) false a)) (ztv N (znx N (i + 1)) false b) = _
      rw [i1, i3]
    · rw [q3]
      show 1 + max _ _ + 1 ≤ 1 + max _ _
      omega
  | case3 => intro i hk hs; cases hs
theorem zgo_tv (hg : zGd N) (i : Nat) (kd : Bool) (T : Term) (e : zNt) (he : N[i]? = some e) (hf : zfit kd T e = true) (hT : zTok T) : zgo (ztv N i kd T) = 0 := by
  have tv := ztv_eq hg.1.1 i kd T
  unfold ztvB at tv
  rw [he] at tv
  dsimp only at tv
  rw [tv]
  split
  · rfl
  · rename_i hkd
    split
    · rfl
    · split
      · rfl
      · split
        · rfl
        · rename_i c8 c9 c10
          split
          · rfl
          · split
            · rfl
            · unfold zwd
              split
              · rfl
              · rfl
              · rename_i v u l hl
                show (if eC e = 29 then 1 else 0) = 0
                have hm : 2 ≤ eM e := by
                  have := congrArg List.length hl
                  rw [List.length_map, zchn_len] at this
                  simp at this
                  omega
                have hc : eC e = 23 := by
                  unfold zfit at hf
                  rw [if_neg hkd] at hf
                  have hc10 := zTok_c hT
                  split at hf
                  · have := (zisw_ok hf).2.2; omega
                  · split at hf
                    · rcases Bool.or_eq_true _ _ |>.mp hf with w | w
                      · have := (zisw_ok w).2.2; omega
                      · have := (zisw_ok w).2.2; omega
                    · split at hf
                      · exact absurd (eq_of_beq hf) ‹_›
                      · split at hf
                        · simp at hf; exact absurd hf.1 ‹_›
                        · split at hf
                          · exact absurd (eq_of_beq hf) ‹_›
                          · split at hf
                            · exact (zisw_ok hf).2.1
                            · split at hf
                              · rcases Bool.or_eq_true _ _ |>.mp hf with w | w
                                · have := (zisw_ok w).2.2; omega
                                · have := (zisw_ok w).2.2; omega
                              · split at hf
                                · rcases Bool.or_eq_true _ _ |>.mp hf with w | w
                                  · have := (zisw_ok w).2.2; omega
                                  · have := (zisw_ok w).2.2; omega
                                · omega
                rw [hc]; rfl
end VL
/-! the reference's reading of a value: helpers -/
section VH
variable {N : List zNt} {n : Nat} {T : Term} {te : Nat → Bool × Term} {m R : Nat} {e : zNt}
theorem zchn_nxt : ∀ (K j t c : Nat), (zchn N K j)[t]? = some c → t + 1 < K → (zchn N K j)[t + 1]? = some (znx N c)
  | 0, j, t, c, h, _ => by cases h
  | 1, j, t, c, h, h2 => by omega
  | K + 2, j, 0, c, h, h2 => by cases h; rfl
  | K + 2, j, t + 1, c, h, h2 => by
    rw [zchn, List.getElem?_cons_succ] at h
    rw [zchn, List.getElem?_cons_succ]
    exact zchn_nxt (K + 1) _ t c h (by omega)
theorem zchn_pre : ∀ (K j t : Nat), t < K → (zchn N (K + 1) j)[t]? = (zchn N K j)[t]?
  | 0, j, t, h => by omega
  | K + 1, j, 0, h => rfl
  | K + 1, j, t + 1, h => by
    show (zchn N (K + 1) (znx N j))[t]? = (zchn N K (znx N j))[t]?
    exact zchn_pre K _ t (by omega)
theorem zpt_dep {kd : Bool} {T : Term} {e : zNt} {fst : Bool} : ztdep (zpt kd T e fst).2 ≤ ztdep T := by
  have h1 : ztdep (zt1 T) ≤ ztdep T := by
    unfold zt1
    split
    · show _ ≤ 1 + _; omega
    · show _ ≤ 1 + max _ _; omega
    · exact Nat.le_refl _
  have h2 : ztdep (zt2 T) ≤ ztdep T := by
    unfold zt2
    split
    · show _ ≤ 1 + max _ _; omega
    · exact Nat.le_refl _
  unfold zpt
  split
  · dsimp only; split
    · exact h1
    · exact h2
  · split
    · exact Nat.le_refl _
    · dsimp only; split
      · exact h2
      · exact h1
theorem zT1_ok (hg : zGd N) (hn : n < N.length) (ht : zT1 N n T te m) (h1 : zTok T) (h2 : zTs T) : ∀ (f p : Nat), p ≤ n + f → n ≤ p → p ≤ m → p < znx N n → zTok (te p).2 ∧ zTs (te p).2 ∧ ((te p).1 = true → ztc (te p).2 = 9 ∨ ztc (te p).2 = 10) ∧ ztdep (te p).2 ≤ ztdep T
  | 0, m, hf, a1, a2, a3 => by
    have : m = n := by omega
    subst this
    rw [ht.1]
    exact ⟨h1, h2, fun z => (by cases z), Nat.le_refl _⟩
  | f + 1, m, hf, a1, a2, a3 => by
    by_cases hmn : m = n
    · subst hmn
      rw [ht.1]
      exact ⟨h1, h2, fun z => (by cases z), Nat.le_refl _⟩
    · obtain ⟨p, ep, p1, p2, p3, p4⟩ := zpar_in hg m n m (by omega) (by omega) hn a3
      obtain ⟨b1, b2, b3, b4⟩ := zT1_ok hg hn ht h1 h2 f p (by omega) p1 (by omega) (by omega)
      rw [ht.2.1 p ep p1 (by omega) p3 m p4]
      exact ⟨(zpt_ok b1 b2).1, (zpt_ok b1 b2).2.1, (zpt_ok b1 b2).2.2, Nat.le_trans zpt_dep b4⟩
/-- the parts of p that are built when all from m on are -/
def zfl (N : List zNt) (R m p : Nat) : List Nat := match N[p]? with
  | some e => (zchn N (eM e) (p + 1)).filter fun j => decide (m ≤ j ∧ znx N j ≤ R)
  | none => []
theorem zfl_oth {p : Nat} (h : ∀ ep, N[p]? = some ep → m ∈ zchn N (eM ep) (p + 1) → ¬ znx N m ≤ R) : zfl N R m p = zfl N R (m + 1) p := by
  unfold zfl
  cases hp : N[p]? with
  | none => rfl
  | some ep =>
    refine List.filter_congr (fun j hj => ?_)
    by_cases hjm : j = m
    · subst hjm
      have := h ep hp hj
      rw [decide_eq_decide]
      constructor
      · intro z; exact absurd z.2 this
      · intro z; exact absurd z.2 this
    · rw [decide_eq_decide]
      constructor
      · intro z; exact ⟨by omega, z.2⟩
      · intro z; exact ⟨by omega, z.2⟩
theorem zfilt_inc {R : Nat} : ∀ (l : List Nat) (m : Nat), List.Pairwise (· < ·) l → m ∈ l → znx N m ≤ R → (l.filter fun j => decide (m ≤ j ∧ znx N j ≤ R)) = m :: (l.filter fun j => decide (m + 1 ≤ j ∧ znx N j ≤ R))
  | [], m, _, h, _ => by cases h
  | a :: l, m, hp, h, hR => by
    obtain ⟨h1, h2⟩ := List.pairwise_cons.mp hp
    by_cases ham : a = m
    · subst ham
      rw [List.filter_cons_of_pos (by rw [decide_eq_true_iff]; exact ⟨Nat.le_refl _, hR⟩), List.filter_cons_of_neg (by rw [decide_eq_true_iff]; omega)]
      congr 1
      refine List.filter_congr (fun j hj => ?_)
      have := h1 j hj
      rw [decide_eq_decide]
      constructor
      · intro z; exact ⟨by omega, z.2⟩
      · intro z; exact ⟨by omega, z.2⟩
    · have hm : m ∈ l := by
        rcases List.mem_cons.mp h with z | z
        · exact absurd z.symm ham
        · exact z
      have := h1 m hm
      rw [List.filter_cons_of_neg (by rw [decide_eq_true_iff]; omega), List.filter_cons_of_neg (by rw [decide_eq_true_iff]; omega)]
      exact zfilt_inc l m h2 hm hR
theorem zfl_par (hg : zGd N) {p : Nat} {ep : zNt} (hp : N[p]? = some ep) (hm : m ∈ zchn N (eM ep) (p + 1)) (hR : znx N m ≤ R) : zfl N R m p = m :: zfl N R (m + 1) p := by
  unfold zfl
  rw [hp]
  exact zfilt_inc _ _ (zchn_inc _ _ _ (zGd_k hg hp)) hm hR
theorem zfl_all (hg : zGd N) {p : Nat} {ep : zNt} (hp : N[p]? = some ep) (hR : znx N p ≤ R) : zfl N R (p + 1) p = zchn N (eM ep) (p + 1) := by
  unfold zfl
  rw [hp]
  refine List.filter_eq_self.mpr (fun j hj => ?_)
  have h1 := zchn_ge _ _ _ hj
  have h2 := zchn_lt _ _ _ j (zGd_k hg hp) hj
  rw [decide_eq_true_iff]
  omega
theorem zfl_top (hg : zGd N) {p : Nat} : zfl N R R p = [] := by
  unfold zfl
  cases hp : N[p]? with
  | none => rfl
  | some ep =>
    refine List.filter_eq_nil_iff.mpr (fun j hj => ?_)
    have h2 := zchn_lt _ _ _ j (zGd_k hg hp) hj
    have := zful_lt h2.2.2.1
    rw [decide_eq_true_iff]
    omega
def zopc (f : Nat → Bool) : Nat → Nat
  | 0 => 0
  | m + 1 => zopc f m + if f m = true then 1 else 0
theorem zopc_congr {f g : Nat → Bool} : ∀ (m : Nat), (∀ p, p < m → f p = g p) → zopc f m = zopc g m
  | 0, _ => rfl
  | m + 1, h => by rw [zopc, zopc, zopc_congr m (fun p hp => h p (by omega)), h m (by omega)]
theorem zopc_one {f g : Nat → Bool} {a : Nat} : ∀ (m : Nat), a < m → (∀ p, p < m → p ≠ a → f p = g p) → f a = false → g a = true → zopc g m = zopc f m + 1
  | 0, h, _, _, _ => by omega
  | m + 1, h, hp, h1, h2 => by
    rw [zopc, zopc]
    by_cases ha : a = m
    · subst ha
      rw [h1, h2, zopc_congr a (fun p hp' => hp p (by omega) (by omega))]
      simp
    · rw [zopc_one m (by omega) (fun p hp' => hp p (by omega)) h1 h2, hp m (by omega) (fun z => ha z.symm)]
      omega
theorem zopc_0 {f : Nat → Bool} : ∀ (m : Nat), (∀ p, p < m → f p = false) → zopc f m = 0
  | 0, _ => rfl
  | m + 1, h => by rw [zopc, zopc_0 m (fun p hp => h p (by omega)), h m (by omega)]; rfl
theorem zopc_mono {f : Nat → Bool} {m : Nat} : zopc f (m + 1) ≤ zopc f m + 1 := by
  rw [zopc]; split <;> omega
def zopf (N : List zNt) (n R m : Nat) (p : Nat) : Bool := decide (n ≤ p ∧ (∃ e, N[p]? = some e ∧ eS e = 2) ∧ zfl N R m p ≠ [])
theorem zfit_row {kd : Bool} (hf : zfit kd T e = true) (hs : eS e = 2) (hk : zTok T) : kd = false ∧ 8 ≤ ztc T := by
  unfold zfit at hf
  cases kd with
  | true => rw [if_pos rfl] at hf; have := (zisw_ok hf).1; omega
  | false =>
    refine ⟨rfl, ?_⟩
    rw [if_neg (by decide)] at hf
    have w2 : ∀ {c k c' k'}, (zisw e c k || zisw e c' k') = true → False := fun h => by
      rcases Bool.or_eq_true _ _ |>.mp h with w | w
      · have := (zisw_ok w).1; omega
      · have := (zisw_ok w).1; omega
    rcases Nat.lt_or_ge (ztc T) 8 with h | h
    · exfalso
      split at hf
      · have := (zisw_ok hf).1; omega
      · split at hf
        · exact w2 hf
        · split at hf
          · have := eq_of_beq hf; omega
          · split at hf
            · simp at hf; omega
            · split at hf
              · have := eq_of_beq hf; omega
              · split at hf
                · have := (zisw_ok hf).1; omega
                · split at hf
                  · exact w2 hf
                  · split at hf
                    · exact w2 hf
                    · omega
    · exact h
theorem zfit_row' (hf : zfit false T e = true) (h8 : 8 ≤ ztc T) : eS e = 2 := by
  unfold zfit at hf
  rw [if_neg (by decide), if_neg (by omega), if_neg (by omega), if_neg (by omega), if_neg (by omega), if_neg (by omega), if_neg (by omega), if_neg (by omega), if_neg (by omega)] at hf
  exact eq_of_beq hf
/-- the cells that are built, from node m on -/
def zCls (N : List zNt) (n : Nat) (te : Nat → Bool × Term) (R m : Nat) (ce : List (Nat × Nat × Nat)) (lo : List (Nat × Nat)) (Cl : List Int32) : Prop :=
  (∀ p, m ≤ p → p < R → znx N p ≤ R → ∃ c, Cl[p]? = some (nI c) ∧ zRc ce lo (ztv N p (te p).1 (te p).2) (.inl c)) ∧
  (∀ p e, n ≤ p → p < m → N[p]? = some e → eS e = 2 → (zfl N R m p = [] ∧ Cl[p]? = some (-1)) ∨ (zfl N R m p ≠ [] ∧ ∃ c, Cl[p]? = some (nI c) ∧ zRc ce lo (zenc ((zfl N R m p).map fun j => ztv N j (te j).1 (te j).2)) (.inr (c, 10 + 2 * (ztc (te p).2 - 8)))))
variable {ce ce' : List (Nat × Nat × Nat)} {lo lo' : List (Nat × Nat)} {Cl : List Int32}
theorem zCls_app (h : zCls N n te R m ce lo Cl) : zCls N n te R m (ce ++ ce') (lo ++ lo') Cl := by
  refine ⟨fun p a b c => ?_, fun p e a b c d => ?_⟩
  · obtain ⟨x, h1, h2⟩ := h.1 p a b c
    exact ⟨x, h1, zRc_app _ _ h2⟩
  · rcases h.2 p e a b c d with z | ⟨z, x, h1, h2⟩
    · exact Or.inl z
    · exact Or.inr ⟨z, x, h1, zRc_app _ _ h2⟩
theorem zCls_inc (h : zCls N n te R (m + 1) ce lo Cl) (hR : ¬ znx N m ≤ R) : zCls N n te R m ce lo Cl := by
  refine ⟨fun p a b c => ?_, fun p e a b c d => ?_⟩
  · by_cases hp : p = m
    · subst hp; exact absurd c hR
    · exact h.1 p (by omega) b c
  · rw [zfl_oth (fun _ _ _ => hR)]
    exact h.2 p e a (by omega) c d
theorem zset_ne {α : Type} {l : List α} {i j : Nat} {x : α} (h : i ≠ j) : (l.set i x)[j]? = l[j]? := List.getElem?_set_ne h
theorem zset_eq {α : Type} {l : List α} {i : Nat} {x : α} (h : i < l.length) : (l.set i x)[i]? = some x := List.getElem?_set_self h
theorem zCls_non {c : Nat} (h : zCls N n te R (m + 1) ce lo Cl) (hl : m < Cl.length) (hc : zRc ce lo (ztv N m (te m).1 (te m).2) (.inl c)) (hno : ∀ p ep, n ≤ p → p < m → N[p]? = some ep → eS ep = 2 → ¬ m ∈ zchn N (eM ep) (p + 1)) : zCls N n te R m ce lo (Cl.set m (nI c)) := by
  refine ⟨fun p a b q => ?_, fun p e a b q d => ?_⟩
  · by_cases hp : p = m
    · subst hp; exact ⟨c, zset_eq hl, hc⟩
    · rw [zset_ne (fun z => hp z.symm)]
      exact h.1 p (by omega) b q
  · rw [zset_ne (by omega), zfl_oth (fun ep h1 h2 => absurd h2 (hno p ep a b h1 (by cases q.symm.trans h1; exact d)))]
    exact h.2 p e a (by omega) q d
theorem zCls_row (hg : zGd N) {c a c2 : Nat} {ea : zNt} (h : zCls N n te R (m + 1) ce lo Cl) (hl : m < Cl.length) (hR : znx N m ≤ R) (hc : zRc ce lo (ztv N m (te m).1 (te m).2) (.inl c)) (ha : N[a]? = some ea) (ha2 : eS ea = 2) (ham : m ∈ zchn N (eM ea) (a + 1)) (hna : n ≤ a) (hc2 : zRc ce lo (zenc ((m :: zfl N R (m + 1) a).map fun j => ztv N j (te j).1 (te j).2)) (.inr (c2, 10 + 2 * (ztc (te a).2 - 8)))) : zCls N n te R m ce lo ((Cl.set m (nI c)).set a (nI c2)) := by
  have ham' := zchn_ge _ _ _ ham
  refine ⟨fun p z b q => ?_, fun p e z b q d => ?_⟩
  · rw [zset_ne (by omega)]
    by_cases hp : p = m
    · subst hp; exact ⟨c, zset_eq hl, hc⟩
    · rw [zset_ne (fun z => hp z.symm)]
      exact h.1 p (by omega) b q
  · by_cases hpa : p = a
    · subst hpa
      refine Or.inr ?_
      rw [zfl_par hg ha ham hR]
      exact ⟨fun z => (by cases z), c2, zset_eq (by rw [List.length_set]; omega), hc2⟩
    · rw [zset_ne (fun z => hpa z.symm), zset_ne (by omega), zfl_oth (fun ep h1 h2 => ?_)]
      · exact h.2 p e z (by omega) q d
      · obtain ⟨e1, f1, f2⟩ := hg.2.1 p ep h1 m h2
        obtain ⟨e2, f3, f4⟩ := hg.2.1 a ea ha m ham
        cases f1.symm.trans f3
        omega
end VH
/-! the reference reads a value: value(), method 182 -/
/-- the arrays that are written on while a value is read -/
def zVS (M0 M : Nat → zE) (F0 F : Nat → Value) (ce : List (Nat × Nat × Nat)) (lo : List (Nat × Nat)) (To Cl : List Int32) : Prop := zPo M F ce lo ∧ zSm [10, 19, 20, 30, 31, 32, 33, 34, 35, 36] M0 M ∧ zSm [27, 28] F0 F ∧ M 19 = zAi To ∧ To.length = 100 ∧ M 20 = zAi Cl ∧ Cl.length = 100 ∧ ∃ A B, M 35 = zAi A ∧ M 36 = zAi B ∧ A.length = 60 ∧ B.length = 60
/-- node j's type is known when the nodes ahead of m are typed -/
def zTyd (N : List zNt) (n m j : Nat) : Prop := j = n ∨ ∃ p ep, n ≤ p ∧ p < m ∧ N[p]? = some ep ∧ j ∈ zchn N (eM ep) (p + 1)
theorem zTyd_in {N : List zNt} {n m j : Nat} (hg : zGd N) (hn : n < N.length) (h1 : n ≤ j) (h2 : j ≤ m) (h3 : j < znx N n) : zTyd N n m j := by
  by_cases hj : j = n
  · exact Or.inl hj
  · obtain ⟨p, ep, p1, p2, p3, p4⟩ := zpar_in hg j n j (by omega) (by omega) hn h3
    exact Or.inr ⟨p, ep, p1, by omega, p3, p4⟩
def zTyt (Ts : List Term) (To : List Int32) (te : Nat → Bool × Term) (j : Nat) : Prop := ∃ x, To[j]? = some x ∧ zTx Ts x (te j)
theorem zchn_fst {N : List zNt} {K j k' q c : Nat} (h : zfuls N K j k') (hq : (zchn N K j)[q]? = some c) : (q == 0) = (c == j) := by
  cases K with
  | zero => cases hq
  | succ K =>
    cases q with
    | zero => cases hq; rw [beq_self_eq_true, beq_self_eq_true]
    | succ q =>
      have hp := zchn_inc _ _ _ h
      rw [zchn, List.getElem?_cons_succ] at hq
      rw [zchn] at hp
      have := (List.pairwise_cons.mp hp).1 c (List.mem_of_getElem? hq)
      rw [beq_false_of_ne (by omega), beq_false_of_ne (by omega)]
theorem zopc_le {f : Nat → Bool} {n : Nat} (h : ∀ p, p < n → f p = false) : ∀ (m : Nat), zopc f m ≤ m - n
  | 0 => Nat.zero_le _
  | m + 1 => by
    have := zopc_le h m
    rw [zopc]
    by_cases hm : m < n
    · rw [h m hm]; simp; omega
    · split <;> omega
theorem zlt1 {n : Nat} (h : n < 2 ^ 31) : nI n - 1 < nI n := by
  cases n with
  | zero => decide
  | succ n' =>
    rw [show nI (n' + 1) - 1 = nI n' from pk_sub (a := n' + 1) (b := 1) (by omega)]
    exact nI_lt (by omega) (by omega)
theorem zopf_lo {N : List zNt} {n R m p : Nat} (h : p < n) : zopf N n R m p = false := decide_eq_false (fun z => absurd z.1 (by omega))
theorem zpt_keyed {kd : Bool} {T : Term} {e : zNt} {f : Bool} (h : (zpt kd T e f).1 = true) (g : Bool) : zpt kd T e g = zpt kd T e f := by
  unfold zpt at *
  split at h
  · cases h
  · split at h
    · rename_i a b; rw [if_neg a, if_pos b, if_neg a, if_pos b]
    · cases h
section V182
variable {xs : List Value} {d : Nat} {h : zH} {M0 : Nat → zE} {F0 : Nat → Value} {Q : zO → zH → Prop} {Ts : List Term} {T : Term} {N : List zNt} {fr n t : Nat} {ce : List (Nat × Nat × Nat)} {lo : List (Nat × Nat)} {To0 Cl0 : List Int32}
theorem zc182 (hl : 50 ≤ h.1.length) (hv0 : zVS M0 M0 F0 F0 ce lo To0 Cl0) (hc : ce.length + 2 * (znx N n - n) ≤ 1400) (hlo : lo.length + (znx N n - n) ≤ 600) (h6 : F0 6 = .int (nI fr)) (hr0 : zNr M0 F0 N fr) (hx0 : zNx M0 N) (hg : zGd N) (ht0 : zTbl M0 F0 Ts) (hn : n < N.length) (ht : t < 220) (hT : Ts[t]? = some T) (hTs : zTs T) (hTd : ztdep T ≤ 8)
    (k0 : ∀ x M F To Cl ce1 lo1, zMi N n false T = some x → zVS M0 M F0 F (ce ++ ce1) (lo ++ lo1) To Cl → Q (.inl (some (.int (-1)))) (zov h (zub M 10 (zMo (zub F 5 (.int (nI x)))))))
    (k1 : ∀ c M F To Cl ce1 lo1, zMi N n false T = none → zVS M0 M F0 F (ce ++ ce1) (lo ++ lo1) To Cl → ce1.length ≤ 2 * (znx N n - n) → lo1.length ≤ znx N n - n → zRc (ce ++ ce1) (lo ++ lo1) (ztv N n false T) (.inl c) → Q (.inl (some (.int (nI c)))) (zov h M)) :
    zG xs (d + 4) (182, 0, lv_args 0 [zo (some 10), .int (nI n), .int (nI t)], []) (zov h M0) Q := by
  have hTk := (ht0.2.2.2.1 t T hT).1
  have hfn := zful_lt (hg.2.2 n hn)
  have hN100 := hg.1.1
  have ctx : ∀ {M F ce1 lo1 To Cl}, zVS M0 M F0 F ce1 lo1 To Cl → M 10 = zMo F ∧ zRf F ∧ zNr M F N fr ∧ zNx M N ∧ zTbl M F Ts ∧ F 6 = .int (nI fr) := fun hv => ⟨hv.1.1, hv.1.2.1, zNr_sm hr0 hv.2.1 (hv.2.2.1 8 (by decide)) (by decide), zNx_sm hx0 hv.2.1 (by decide), zTbl_sm ht0 hv.2.1 (hv.2.2.1 21 (by decide)) (by decide), (hv.2.2.1 6 (by decide)).trans h6⟩
  have bad : ∀ {M F ce1 lo1 To Cl} {i x : Nat} {e : zNt}, zVS M0 M F0 F (ce ++ ce1) (lo ++ lo1) To Cl → N[i]? = some e → zMi N n false T = some x → x = eF e → zGR (some 10) 12 10 (zov h M) fun x1 => zIA xs x1 (nI i) (zov h M) fun x9 => zCV xs (d + 4) 158 12 (some 10) [Value.int x9] (zov h M) (zKI (fun x10 h11 => Q (.inl (some (Value.int x10))) h11) (fun e h => Q (.inr e) h)) := by
    intro M F ce1 lo1 To Cl i x e hv he hm hx
    obtain ⟨h10, hR, hr, _, _, hf6⟩ := ctx hv
    have hil := (List.getElem?_eq_some_iff.mp he).1
    refine zM_nF hl h10 hR hr he (zM_cv hl h10 (zc158 hl h10 hf6 (zKI_v ?_)))
    have : nI (fr + eF e) - nI fr = nI x := by rw [pk_sub (by omega), hx]; congr 1; omega
    rw [this]
    exact k0 x M F To Cl ce1 lo1 hm hv
  refine zm_182
    (fun k l0 l1 l3 l4 h1 => ∃ M F To Cl te R m, h1 = zov h M ∧ zVS M0 M F0 F ce lo To Cl ∧ l0 = some 10 ∧ l1 = nI n ∧ l3 = nI R ∧ l4 = nI m ∧ k = 500000 + 1000 * (200 - m) ∧ n ≤ m ∧ R ≤ znx N n ∧ (∀ p, n ≤ p → p < m → Cl[p]? = some (-1)) ∧ (∀ j, zTyd N n (min m R) j → zTyt Ts To te j) ∧ ((m ≤ R ∧ R = znx N n ∧ zT1 N n T te m) ∨ (m = R + 1 ∧ n ≤ R ∧ R < znx N n ∧ zT1 N n T te R ∧ ∃ e, N[R]? = some e ∧ zfit (te R).1 (te R).2 e = false)))
    (fun k l0 l1 l3 l4 l5 l6 h1 => ∃ M F To Cl te R m e c q, h1 = zov h M ∧ zVS M0 M F0 F ce lo To Cl ∧ l0 = some 10 ∧ l1 = nI n ∧ l3 = nI R ∧ l4 = nI m ∧ l5 = nI c ∧ l6 = nI q ∧ k = 500000 + 1000 * (199 - m) + 500 - q ∧ n ≤ m ∧ N[m]? = some e ∧ (∀ p, n ≤ p → p < m + 1 → Cl[p]? = some (-1)) ∧ zT1 N n T te m ∧ m < znx N n ∧ q ≤ eM e ∧ ((R = m ∧ zfit (te m).1 (te m).2 e = false ∧ (∀ j, zTyd N n m j → zTyt Ts To te j)) ∨ (R = znx N n ∧ zfit (te m).1 (te m).2 e = true ∧ (zchn N (eM e + 1) (m + 1))[q]? = some c ∧ (∀ j, (zTyd N n m j ∨ ∃ t, t < q ∧ (zchn N (eM e) (m + 1))[t]? = some j) → zTyt Ts To (zteN N te m e) j))))
    (fun k l0 l1 l3 l4 h1 => ∃ M F To Cl te R m ce1 lo1, h1 = zov h M ∧ zVS M0 M F0 F (ce ++ ce1) (lo ++ lo1) To Cl ∧ l0 = some 10 ∧ l1 = nI n ∧ l3 = nI R ∧ l4 = nI m - 1 ∧ k = 310000 + m ∧ n ≤ m ∧ m ≤ R ∧ zTe N n T te R ∧ (∀ p, n ≤ p → p < R → zTyt Ts To te p) ∧ zCls N n te R m (ce ++ ce1) (lo ++ lo1) Cl ∧ ce1.length ≤ 2 * (R - m) + zopc (zopf N n R m) m ∧ lo1.length ≤ R - m)
    (fun k l0 l1 l3 l5 h1 => ∃ M F To Cl te R m ce1 lo1, h1 = zov h M ∧ zVS M0 M F0 F (ce ++ ce1) (lo ++ lo1) To Cl ∧ l0 = some 10 ∧ l1 = nI n ∧ l3 = nI R ∧ l5 = nI m ∧ k = 100000 + 1000 * (200 - m) ∧ n ≤ m ∧ m ≤ R ∧ zTe N n T te R ∧ (∀ p, n ≤ p → p < R → zTyt Ts To te p) ∧ zCls N n te R n (ce ++ ce1) (lo ++ lo1) Cl ∧ ce1.length ≤ 2 * (R - n) ∧ lo1.length ≤ R - n ∧ (∀ q, n ≤ q → q < m → (te q).1 = true → zdis N q = true → ¬ znx N (q + 1) ≤ R))
    (fun k l0 l1 l3 l5 l6 l7 l8 h1 => ∃ M F To Cl te R m ce1 lo1 q, h1 = zov h M ∧ zVS M0 M F0 F (ce ++ ce1) (lo ++ lo1) To Cl ∧ l0 = some 10 ∧ l1 = nI n ∧ l3 = nI R ∧ l5 = nI m ∧ l8 = nI q ∧ k = 100000 + 1000 * (199 - m) + 500 - q ∧ q ≤ 40 ∧ n ≤ m ∧ m < R ∧ zTe N n T te R ∧ (∀ p, n ≤ p → p < R → zTyt Ts To te p) ∧ zCls N n te R n (ce ++ ce1) (lo ++ lo1) Cl ∧ ce1.length ≤ 2 * (R - n) ∧ lo1.length ≤ R - n ∧ (∀ q, n ≤ q → q < m → (te q).1 = true → zdis N q = true → ¬ znx N (q + 1) ≤ R) ∧ (((te m).1 = false ∧ l7 = nI m ∧ l6 = -1) ∨ ((te m).1 = true ∧ ∃ p ep t0 c, n ≤ p ∧ p < m ∧ N[p]? = some ep ∧ (zchn N (eM ep) (p + 1))[t0]? = some m ∧ q ≤ t0 ∧ (zchn N (eM ep) (p + 1))[q]? = some c ∧ l7 = nI c ∧ ((q = 0 ∧ l6 = -1) ∨ ∃ b, 0 < q ∧ (zchn N (eM ep) (p + 1))[q - 1]? = some b ∧ l6 = nI b))))
    ?_ ?_ ?_ ?_ ?_ ?_
  · -- typing, node by node
    rintro k l0 l1 l3 l4 h1 ⟨M, F, To, Cl, te, R, m, rfl, hv, rfl, rfl, rfl, rfl, rfl, hnm, hRn, hCl, hty, hcase⟩
    obtain ⟨h10, hR, hr, hx, htb, hf6⟩ := ctx hv
    obtain ⟨v1, v2, v3, v4, v5, v6, v7, v8⟩ := hv
    have hR100 : R ≤ 100 := by omega
    have hm101 : m ≤ 101 := by rcases hcase with ⟨a, _⟩ | ⟨a, _⟩ <;> omega
    refine pk_lt m R (fun hmR => ?_) (fun hmR => ?_)
    · have hA : R = znx N n ∧ zT1 N n T te m := by
        rcases hcase with ⟨_, a, b⟩ | ⟨z, _⟩
        · exact ⟨a, b⟩
        · omega
      obtain ⟨hRe, ht1⟩ := hA
      have hml : m < N.length := by omega
      obtain ⟨e, he⟩ : ∃ e, N[m]? = some e := ⟨_, List.getElem?_eq_getElem hml⟩
      refine zM_gr hl h10 (hR (16, 20) (by decide)) (zM_st' hl v6 (by omega) (by omega) ?_)
      intro x9 hx9
      subst hx9
      rw [nI_1]
      have hv' : zVS M0 (zub M 20 (zAi (Cl.set m (-1)))) F0 F ce lo To (Cl.set m (-1)) := by
        refine ⟨zPo_sm (S := [20]) (T := []) v1 (by rw [zub_n (by decide)]; exact h10) (zSm_ub zSm_refl (by decide)) zSm_refl (by decide) (by decide), zSm_ub v2 (by decide), v3, by rw [zub_n (by decide)]; exact v4, v5, by rw [zub_s], by rw [List.length_set]; exact v7, ?_⟩
        obtain ⟨A, B, w1, w2, w3, w4⟩ := v8
        exact ⟨A, B, by rw [zub_n (by decide)]; exact w1, by rw [zub_n (by decide)]; exact w2, w3, w4⟩
      obtain ⟨h10', hR', hr', hx', htb', hf6'⟩ := ctx hv'
      obtain ⟨x, x1, x2⟩ := hty m (zTyd_in hg hn hnm (by omega) (by omega))
      have hCl' : ∀ p, n ≤ p → p < m + 1 → (Cl.set m (-1))[p]? = some (-1) := by
        intro p p1 p2
        by_cases hp : p = m
        · subst hp; exact zset_eq (by omega)
        · rw [zset_ne (fun z => hp z.symm)]; exact hCl p p1 (by omega)
      refine zM_cv hl h10' (zc183 (d := d + 2) hl h10' hR' hr' hg.1 htb' he hv'.2.2.2.1 x1 x2 (zKI_v ⟨fun z => ?_, fun z => ?_⟩))
      · have hf := zB_0.mp z
        exact ⟨_, by omega, _, F, To, _, te, m, m, e, m + 1, 0, rfl, hv', rfl, rfl, rfl, rfl, rfl, rfl, rfl, hnm, he, hCl', ht1, by omega, Nat.zero_le _, Or.inl ⟨rfl, hf, fun j hj => hty j (by rw [show min m R = m by omega]; exact hj)⟩⟩
      · have hf : zfit (te m).1 (te m).2 e = true := by cases hq : zfit (te m).1 (te m).2 e; exact absurd (by rw [hq]; rfl) z; rfl
        refine ⟨_, by omega, _, F, To, _, te, R, m, e, m + 1, 0, rfl, hv', rfl, rfl, rfl, rfl, rfl, rfl, rfl, hnm, he, hCl', ht1, by omega, Nat.zero_le _, Or.inr ⟨hRe, hf, rfl, fun j hj => ?_⟩⟩
        rcases hj with hj | ⟨t, ht, _⟩
        · have hte : zteN N te m e j = te j := by
            rcases hj with hj | ⟨p, ep, p1, p2, p3, p4⟩
            · subst hj; exact zteN_le _ hnm
            · exact zteN_kid hg he p3 (by omega) p4
          unfold zTyt
          rw [hte]
          exact hty j (by rw [show min m R = m by omega]; exact hj)
        · omega
    · intro x3 hx3
      subst hx3
      have hte : zTe N n T te R := by
        rcases hcase with ⟨z, hRe, ht1⟩ | ⟨z, hnR, hRl, ht1, hbad⟩
        · have : m = R := by omega
          subst this
          exact zT1_te ht1 hn hnm hRn (fun q => by omega)
        · exact zT1_te ht1 hn hnR hRn (fun q => hbad)
      have hmin : min m R = R := by omega
      rw [hmin] at hty
      refine ⟨_, by omega, M, F, To, Cl, te, R, R, [], [], rfl, by rw [List.append_nil, List.append_nil]; exact ⟨v1, v2, v3, v4, v5, v6, v7, v8⟩, rfl, rfl, rfl, rfl, rfl, hte.2.2.1, Nat.le_refl _, hte, fun p p1 p2 => hty p (zTyd_in hg hn p1 (by omega) (by omega)), ⟨fun p p1 p2 => by omega, fun p e p1 p2 p3 p4 => Or.inl ⟨zfl_top hg, hCl p p1 (by omega)⟩⟩, Nat.zero_le _, Nat.zero_le _⟩
  · -- the parts' types
    rintro k l0 l1 l3 l4 l5 l6 h1 ⟨M, F, To, Cl, te, R, m, e, c, q, rfl, hv, rfl, rfl, rfl, rfl, rfl, rfl, rfl, hnm, he, hCl, ht1, hmz, hq, hcase⟩
    obtain ⟨h10, hR, hr, hx, htb, hf6⟩ := ctx hv
    have hml := (List.getElem?_eq_some_iff.mp he).1
    have hM40 := (hg.1.2 m e he).2.2.1
    have hRz : R ≤ znx N n := by rcases hcase with ⟨a, _⟩ | ⟨a, _⟩ <;> omega
    refine zM_nM hl h10 hR hr he ?_
    by_cases hgo : q < eM e ∧ m < R
    · refine pk_lt q (eM e) (fun a => pk_lt m R (fun b => ?_) (fun b => absurd hgo.2 (by omega))) (fun b => absurd hgo.1 (by omega))
      have hA : R = znx N n ∧ zfit (te m).1 (te m).2 e = true ∧ (zchn N (eM e + 1) (m + 1))[q]? = some c ∧ (∀ j, (zTyd N n m j ∨ ∃ t, t < q ∧ (zchn N (eM e) (m + 1))[t]? = some j) → zTyt Ts To (zteN N te m e) j) := by
        rcases hcase with ⟨z, _⟩ | z
        · omega
        · exact z
      obtain ⟨hRe, hf, hcq, hty⟩ := hA
      obtain ⟨v1, v2, v3, v4, v5, v6, v7, v8⟩ := hv
      obtain ⟨x, x1, x2⟩ := hty m (Or.inl (zTyd_in hg hn hnm (Nat.le_refl _) hmz))
      rw [zteN_le m (Nat.le_refl _)] at x2
      have hok := zT1_ok hg hn ht1 hTk hTs m m (by omega) hnm (Nat.le_refl _) hmz
      have hcq' : (zchn N (eM e) (m + 1))[q]? = some c := by rw [← zchn_pre _ _ _ a]; exact hcq
      have hcm := List.mem_of_getElem? hcq'
      have hcl := zchn_lt _ _ _ c (zGd_k hg he) hcm
      have hcl' := zful_lt hcl.2.2.1
      refine zM_gr hl h10 (hR (15, 19) (by decide)) (zM_cv hl h10 (zc185 hl h10 hR hr hg.1 htb he v4 x1 x2 hf a hok.2.2.1 (fun y hy => zKI_v (zM_st' hl v4 (by omega) (by omega) ?_))))
      have hv' : zVS M0 (zub M 19 (zAi (To.set c y))) F0 F ce lo (To.set c y) Cl := by
        refine ⟨zPo_sm (S := [19]) (T := []) v1 (by rw [zub_n (by decide)]; exact h10) (zSm_ub zSm_refl (by decide)) zSm_refl (by decide) (by decide), zSm_ub v2 (by decide), v3, by rw [zub_s], by rw [List.length_set]; exact v5, by rw [zub_n (by decide)]; exact v6, v7, ?_⟩
        obtain ⟨A, B, w1, w2, w3, w4⟩ := v8
        exact ⟨A, B, by rw [zub_n (by decide)]; exact w1, by rw [zub_n (by decide)]; exact w2, w3, w4⟩
      obtain ⟨h10', hR', hr', hx', htb', hf6'⟩ := ctx hv'
      refine zM_nX hl h10' hR' hx' hcl'.1 hN100 ?_
      intro x16 hx16
      subst hx16
      refine ⟨_, by omega, _, F, _, Cl, te, R, m, e, znx N c, q + 1, rfl, hv', rfl, rfl, rfl, rfl, rfl, nI_1 q, rfl, hnm, he, hCl, ht1, hmz, by omega, Or.inr ⟨hRe, hf, zchn_nxt _ _ _ _ hcq (by omega), fun j hj => ?_⟩⟩
      by_cases hjc : j = c
      · subst hjc
        refine ⟨y, zset_eq (by omega), ?_⟩
        unfold zteN
        rw [if_pos hcm, ← zchn_fst (zGd_k hg he) hcq']
        exact hy
      · have : zTyt Ts To (zteN N te m e) j := by
          rcases hj with hj | ⟨t, ht, hj⟩
          · exact hty j (Or.inl hj)
          · by_cases htq : t = q
            · subst htq
              rw [hcq'] at hj
              exact absurd (Option.some.inj hj).symm hjc
            · exact hty j (Or.inr ⟨t, by omega, hj⟩)
        unfold zTyt
        rw [zset_ne (fun z => hjc z.symm)]
        exact this
    · refine pk_lt q (eM e) (fun a => pk_lt m R (fun b => absurd ⟨a, b⟩ hgo) (fun b => ?_)) (fun b => ?_)
      all_goals
        intro x3 hx3
        subst hx3
        rcases hcase with ⟨hRm, hf, hty⟩ | ⟨hRe, hf, hcq, hty⟩
        · refine ⟨_, by omega, M, F, To, Cl, te, R, m + 1, rfl, hv, rfl, rfl, rfl, nI_1 m, rfl, by omega, hRz, hCl, fun j hj => hty j ?_, Or.inr ⟨by omega, by omega, by omega, by rw [hRm]; exact ht1, e, by rw [hRm]; exact he, by rw [hRm]; exact hf⟩⟩
          rw [show min (m + 1) R = m by omega] at hj
          exact hj
        · refine ⟨_, by omega, M, F, To, Cl, zteN N te m e, R, m + 1, rfl, hv, rfl, rfl, rfl, nI_1 m, rfl, by omega, hRz, hCl, fun j hj => hty j ?_, Or.inl ⟨by omega, hRe, zT1_step hg ht1 hnm he hf⟩⟩
          rw [show min (m + 1) R = m + 1 by omega] at hj
          rcases hj with hj | ⟨p, ep, p1, p2, p3, p4⟩
          · exact Or.inl (Or.inl hj)
          · by_cases hpm : p = m
            · subst hpm
              cases he.symm.trans p3
              obtain ⟨t, ht⟩ := List.getElem?_of_mem p4
              have := (List.getElem?_eq_some_iff.mp ht).1
              rw [zchn_len] at this
              exact Or.inr ⟨t, by omega, ht⟩
            · exact Or.inl (Or.inr ⟨p, ep, p1, by omega, p3, p4⟩)
  · -- the cells, from behind
    rintro k l0 l1 l3 l4 h1 ⟨M, F, To, Cl, te, R, m, ce1, lo1, rfl, hv, rfl, rfl, rfl, rfl, rfl, hnm, hmR, hte, hty, hcls, hce, hlo1⟩
    obtain ⟨h10, hR, hr, hx, htb, hf6⟩ := ctx hv
    have hRz := hte.2.2.2.2.2.1
    by_cases hmn : m = n
    · refine ⟨fun _ => ⟨_, by omega, M, F, To, Cl, te, R, n, ce1, lo1, rfl, hv, rfl, rfl, rfl, rfl, rfl, Nat.le_refl _, by omega, hte, hty, by rw [hmn] at hcls; exact hcls, ?_, by omega, fun q a b => by omega⟩, fun z => absurd ?_ z⟩
      · have := zopc_le (f := zopf N n R m) (n := n) (fun p hp => zopf_lo hp) m
        omega
      · rw [hmn]
        exact zlt1 (show n < 2 ^ 31 by omega)
    · obtain ⟨m', rfl⟩ : ∃ m', m = m' + 1 := ⟨m - 1, by omega⟩
      rw [show nI (m' + 1) - 1 = nI m' from pk_sub (a := m' + 1) (b := 1) (by omega)]
      have hm1 : ∀ x : Nat, nI x + (-1 : Int32) = nI x - 1 := fun x => (Int32.sub_eq_add_neg ..).symm
      refine ⟨fun z => absurd ((nI_ltI (by omega) (by omega)).mp z) (by omega), fun _ => ?_⟩
      obtain ⟨e, he, hfit⟩ := hte.2.2.2.2.1 m' (by omega) (by omega)
      have hml := (List.getElem?_eq_some_iff.mp he).1
      refine zM_nX hl h10 hR hx hml hN100 (pk_lt R (znx N m') (fun hz => ?_) (fun hz => ?_) (hb := by have := zful_lt (hg.2.2 m' hml); omega))
      · intro x3 hx3
        subst hx3
        refine ⟨_, by omega, M, F, To, Cl, te, R, m', ce1, lo1, rfl, hv, rfl, rfl, rfl, hm1 m', rfl, by omega, by omega, hte, hty, zCls_inc hcls (by omega), ?_, by omega⟩
        have a1 := zopc_mono (f := zopf N n R (m' + 1)) (m := m')
        have a2 : zopc (zopf N n R (m' + 1)) m' = zopc (zopf N n R m') m' := zopc_congr m' (fun p hp => by unfold zopf; rw [zfl_oth (m := m') (fun _ _ _ => by omega)])
        omega
      · obtain ⟨x, x1, x2⟩ := hty m' (by omega) (by omega)
        obtain ⟨o1, o2, o3⟩ := zte_ok hg hte hTk hTs m' m' (by omega) (by omega) (by omega) (by omega)
        have hkk := zGd_k hg he
        have hz0 := zopc_le (f := zopf N n R (m' + 1)) (n := n) (fun p hp => zopf_lo hp) (m' + 1)
        have hz1 := zopc_le (f := zopf N n R m') (n := n) (fun p hp => zopf_lo hp) m'
        have tej : ∀ j, j ∈ zchn N (eM e) (m' + 1) → te j = zpt (te m').1 (te m').2 e (j == m' + 1) := fun j hj => hte.2.2.2.1 m' e (by omega) (by omega) he j hj
        have hrow : (te m').1 = false → 8 ≤ ztc (te m').2 → 0 < eM e → zfl N R (m' + 1) m' ≠ [] ∧ ∃ c, Cl[m']? = some (nI c) ∧ zRc (ce ++ ce1) (lo ++ lo1) (ztv N m' false (te m').2) (.inl c) := by
          intro q1 q2 q3
          rw [q1] at hfit
          have hS := zfit_row' hfit q2
          have hall := zfl_all hg he hz
          have hne : zfl N R (m' + 1) m' ≠ [] := by
            rw [hall]
            intro z
            have := congrArg List.length z
            rw [zchn_len] at this
            simp at this
            omega
          rcases hcls.2 m' e (by omega) (by omega) he hS with ⟨z, _⟩ | ⟨_, c, c1, c2⟩
          · exact absurd z hne
          · refine ⟨hne, c, c1, ?_⟩
            rw [hall] at c2
            have tv := ztv_eq hg.1.1 m' false (te m').2
            unfold ztvB at tv
            rw [he] at tv
            dsimp only at tv
            rw [if_neg (by decide)] at tv
            have c10 := zTok_c o1
            by_cases h8 : ztc (te m').2 = 8
            · rw [if_pos h8] at tv
              rw [tv]
              have : ((zchn N (eM e) (m' + 1)).map fun j => ztv N j (te j).1 (te j).2) = (zchn N (eM e) (m' + 1)).map fun j => ztv N j false (zt1 (te m').2) := List.map_congr_left (fun j hj => by
                rw [tej j hj]
                unfold zpt
                rw [q1, if_neg (by decide), if_neg (by omega), if_neg (by omega)])
              rw [this, h8] at c2
              exact c2
            · rw [if_neg h8] at tv
              have hmap : ((zchn N (eM e) (m' + 1)).map fun j => ztv N j (te j).1 (te j).2) = (zchn N (eM e) (m' + 1)).map fun j => ztv N j true (te m').2 := List.map_congr_left (fun j hj => by
                rw [tej j hj]
                unfold zpt
                rw [q1, if_neg (by decide), if_pos (by omega)])
              rw [hmap] at c2
              by_cases h9 : ztc (te m').2 = 9
              · rw [if_pos h9] at tv
                rw [tv]
                rw [h9] at c2
                exact c2
              · rw [if_neg h9, if_pos (by omega)] at tv
                rw [tv]
                rw [show ztc (te m').2 = 10 by omega] at c2
                exact c2
        obtain ⟨v1, v2, v3, v4, v5, v6, v7, v8⟩ := hv
        have hnz := zfuls_skip _ _ _ hkk
        refine zM_gr hl h10 (hR (16, 20) (by decide)) (zM_cv hl h10 (zc186 (d := d) (kd := (te m').1) (T := (te m').2) hl v1 (by rw [List.length_append]; omega) (by rw [List.length_append]; omega) hr hx hg htb he v4 x1 x2 v6 v7 hfit o3 (fun _ j hj => ?_) (fun q1 q2 q3 => (hrow q1 q2 q3).2) (fun M1 F1 ce' lo' c a1 a2 a3 a4 a5 a6 a7 => zKI_v ?_)))
        · have g1 := zchn_ge _ _ _ hj
          have g2 := zchn_lt _ _ _ j hkk hj
          obtain ⟨c, c1, c2⟩ := hcls.1 j g1 (by omega) (by omega)
          rw [tej j hj] at c2
          exact ⟨c, c1, c2⟩
        · have b6 : M1 20 = zAi Cl := (a6 20 (by decide)).trans v6
          refine zM_st' hl b6 (by omega) (by omega) ?_
          rw [List.append_assoc, List.append_assoc] at a1 a5
          have hcls' : zCls N n te R (m' + 1) (ce ++ (ce1 ++ ce')) (lo ++ (lo1 ++ lo')) Cl := by
            rw [← List.append_assoc, ← List.append_assoc]
            exact zCls_app hcls
          have hv' : zVS M0 (zub M1 20 (zAi (Cl.set m' (nI c)))) F0 F1 (ce ++ (ce1 ++ ce')) (lo ++ (lo1 ++ lo')) To (Cl.set m' (nI c)) := by
            refine ⟨zPo_sm (S := [20]) (T := []) a1 (by rw [zub_n (by decide)]; exact a1.1) (zSm_ub zSm_refl (by decide)) zSm_refl (by decide) (by decide), zSm_ub (zSm_trans v2 a6 (by decide) (by decide)) (by decide), zSm_t v3 a7, by rw [zub_n (by decide), a6 19 (by decide)]; exact v4, v5, by rw [zub_s], by rw [List.length_set]; exact v7, ?_⟩
            obtain ⟨A, B, w1, w2, w3, w4⟩ := v8
            exact ⟨A, B, by rw [zub_n (by decide), a6 35 (by decide)]; exact w1, by rw [zub_n (by decide), a6 36 (by decide)]; exact w2, w3, w4⟩
          obtain ⟨h10', hR', hr', hx', htb', hf6'⟩ := ctx hv'
          obtain ⟨_, _, So, Fi, Co, Ma, Ab, Hi, Lo, c1, c2, c3, c4, c5, c6, c7, c8, c9, c10, c11, c12, c13, c14, rows⟩ := hr'
          have hopm : (if zopf N n R (m' + 1) m' = true then 1 else 0) + ce'.length ≤ 1 := by
            by_cases hq : zopf N n R (m' + 1) m' = true
            · rw [if_pos hq]
              obtain ⟨_, ⟨e2, f1, f2⟩, f3⟩ := of_decide_eq_true hq
              cases he.symm.trans f1
              obtain ⟨g1, g2⟩ := zfit_row hfit f2 o1
              have : 0 < eM e := by
                rcases Nat.eq_zero_or_pos (eM e) with z | z
                · exact absurd (by rw [zfl_all hg he hz, z]; rfl) f3
                · exact z
              rw [a3 g1 g2 this]
              simp
            · rw [if_neg hq]; omega
          rw [zopc] at hce
          by_cases hex : ∃ a ea, N[a]? = some ea ∧ n ≤ a ∧ m' ∈ zchn N (eM ea) (a + 1) ∧ eS ea = 2
          · obtain ⟨a, ea, ha, hna, ham, hS2⟩ := hex
            have haM := zchn_ge _ _ _ ham
            obtain ⟨em, em1, em2⟩ := hg.2.1 a ea ha m' ham
            cases he.symm.trans em1
            have hal := (List.getElem?_eq_some_iff.mp ha).1
            obtain ⟨ea', fa1, fita⟩ := hte.2.2.2.2.1 a hna (by omega)
            cases ha.symm.trans fa1
            obtain ⟨u1, u2, u3⟩ := zte_ok hg hte hTk hTs a a (by omega) hna (by omega) (by omega)
            obtain ⟨ka, k8⟩ := zfit_row fita hS2 u1
            have kc10 := zTok_c u1
            obtain ⟨xa, xa1, xa2⟩ := hty a hna (by omega)
            obtain ⟨ja, ja1, ja2, ja3⟩ : ∃ j : Nat, j < 220 ∧ Ts[j]? = some (te a).2 ∧ xa = nI ((if (te a).1 = true then 1000 else 0) + j) := xa2
            rw [ka, if_neg (by decide), Nat.zero_add] at ja3
            subst ja3
            refine pk_lt n m' (fun hnlt => ?_) (fun hq => absurd hq (by omega))
            refine zM_gr hl h10' (hR' (9, 13) (by decide)) (zM_gr hl h10' (hR' (14, 18) (by decide)) (zM_ia' hl c5 (rows m' e he).2.2.2.2.1 ?_))
            rw [em2]
            refine zM_ia' hl c1 (rows a ea ha).1 ⟨fun _ => ?_, fun z => absurd (by rw [hS2]; rfl) z⟩
            refine zM_gr hl h10' (hR' (14, 18) (by decide)) (zM_ia' hl c5 (rows m' e he).2.2.2.2.1 ?_)
            rw [em2]
            refine ⟨fun z => absurd z (nI_pos (by omega)), fun _ => ?_⟩
            obtain ⟨_, _, _, ta4, Ki, On, Tw, De, Si, tb1, tb2, tb3, tb4, tb5, tc1, tc2, tc3, tc4, tc5, trows⟩ := htb'
            refine zM_gr hl h10' (hR' (22, 25) (by decide)) (zM_gr hl h10' (hR' (15, 19) (by decide)) (zM_ia' hl hv'.2.2.2.1 xa1 (zM_ia' hl tb1 (trows ja _ ja2).1 ?_)))
            rw [show (10 : Int32) + 2 * (nI (ztc (te a).2) - 8) = nI (10 + 2 * (ztc (te a).2 - 8)) by
              rw [show nI (ztc (te a).2) - (8 : Int32) = nI (ztc (te a).2 - 8) from pk_sub (b := 8) (by omega), show (2 : Int32) * nI (ztc (te a).2 - 8) = nI (2 * (ztc (te a).2 - 8)) from pk_mul 2 _]
              exact nI_add 10 _]
            obtain ⟨kk, hkk'⟩ : ∃ kk, 10 + 2 * (ztc (te a).2 - 8) = kk := ⟨_, rfl⟩
            have hc32 := zRc_lt _ _ a5 c (Or.inl rfl)
            have hgo := zgo_tv hg m' (te m').1 (te m').2 e he hfit o1
            have hclb : (ce ++ (ce1 ++ ce')).length = ce.length + ce1.length + ce'.length := by rw [List.length_append, List.length_append]; omega
            have hlo' : (lo1 ++ lo').length ≤ R - m' := by rw [List.length_append]; omega
            refine ⟨fun z => absurd z (nI_pos (by omega)), fun _ => zM_gr hl h10' (hR' (16, 20) (by decide)) (zM_gr hl h10' (hR' (16, 20) (by decide)) (zM_ia' hl hv'.2.2.2.2.2.1 (zset_eq (by omega)) (zM_gr hl h10' (hR' (16, 20) (by decide)) ?_)))⟩
            have oth : ∀ p, p < m' → p ≠ a → zopf N n R (m' + 1) p = zopf N n R m' p := fun p hp hpa => by
              unfold zopf
              rw [zfl_oth (m := m') (fun ep h1 h2 => ?_)]
              obtain ⟨e1, f1, f2⟩ := hg.2.1 p ep h1 m' h2
              cases f1.symm.trans em1
              omega
            have newa : zopf N n R m' a = true := decide_eq_true ⟨hna, ⟨ea, ha, hS2⟩, by rw [zfl_par hg ha ham hz]; exact fun z => by cases z⟩
            rcases hcls'.2 a ea hna (by omega) ha hS2 with ⟨y1, y2⟩ | ⟨y1, c0, y2, y3⟩
            · refine zM_ia' hl hv'.2.2.2.2.2.1 (by rw [zset_ne (by omega)]; exact y2) ⟨fun _ => ?_, fun z => absurd (by decide) z⟩
              have olda : zopf N n R (m' + 1) a = false := decide_eq_false (fun z => z.2.2 y1)
              have hop := zopc_one (f := zopf N n R (m' + 1)) (g := zopf N n R m') m' (by omega) oth olda newa
              rw [hkk']
              refine zM_cv hl h10' (zc187 (k := kk) (a := 0) (b := 0) hl hv'.1 (by omega) (by omega) (by decide) (by decide) (fun M2 F2 s1 s2 s3 => zKI_v ?_))
              rw [List.append_assoc, List.append_assoc] at s1
              have hv2 : zVS M0 M2 F0 F2 (ce ++ (ce1 ++ (ce' ++ [(kk, 0, 0)]))) (lo ++ (lo1 ++ lo')) To (Cl.set m' (nI c)) := by
                obtain ⟨w1, w2, w3, w4, w5, w6, w7, A, B, w8, w9, w10, w11⟩ := hv'
                exact ⟨s1, zSm_trans w2 s2 (by decide) (by decide), zSm_trans w3 s3 (by decide) (by decide), (s2 19 (by decide)).trans w4, w5, (s2 20 (by decide)).trans w6, w7, A, B, (s2 35 (by decide)).trans w8, (s2 36 (by decide)).trans w9, w10, w11⟩
              have hrowx : zRc (ce ++ (ce1 ++ (ce' ++ [(kk, 0, 0)]))) (lo ++ (lo1 ++ lo')) (zenc ((zfl N R (m' + 1) a).map fun j => ztv N j (te j).1 (te j).2)) (.inr ((ce ++ (ce1 ++ ce')).length, kk)) := by
                rw [y1]
                refine ⟨0, 0, ?_⟩
                rw [← List.append_assoc ce1, ← List.append_assoc ce]
                exact zlast
              have hcl2 : zCls N n te R (m' + 1) (ce ++ (ce1 ++ (ce' ++ [(kk, 0, 0)]))) (lo ++ (lo1 ++ lo')) Cl := by
                have := zCls_app (ce' := [(kk, 0, 0)]) (lo' := []) hcls'
                rw [List.append_nil, List.append_assoc, List.append_assoc] at this
                exact this
              have hcc2 : zRc (ce ++ (ce1 ++ (ce' ++ [(kk, 0, 0)]))) (lo ++ (lo1 ++ lo')) (ztv N m' (te m').1 (te m').2) (.inl c) := by
                have := zRc_app (ce' := [(kk, 0, 0)]) (lo' := []) _ _ a5
                rw [List.append_nil, List.append_assoc, List.append_assoc] at this
                exact this
              obtain ⟨cx, hcx⟩ : ∃ cx, ce1 ++ (ce' ++ [(kk, 0, 0)]) = cx := ⟨_, rfl⟩
              have hcxl : cx.length = ce1.length + ce'.length + 1 := by rw [← hcx]; simp; omega
              rw [hcx] at hv2 hrowx hcl2 hcc2
              obtain ⟨i0, hi0⟩ : ∃ i0, (ce ++ (ce1 ++ ce')).length = i0 := ⟨_, rfl⟩
              rw [hi0] at hrowx ⊢
              have hi0l := zRc_lt _ _ hrowx i0 (Or.inr ⟨_, rfl⟩)
              have hcxc : (ce ++ cx).length = ce.length + cx.length := by rw [List.length_append]
              unfold zw_182_261
              rw [nI_1]
              refine zM_cv hl hv2.1.1 (zc187 (k := kk + 1) (a := c) (b := i0) hl hv2.1 (by omega) (by omega) (by omega) (by omega) (fun M3 F3 s4 s5 s6 => zKI_v ?_))
              rw [List.append_assoc] at s4
              refine zM_st' hl ((s5 20 (by decide)).trans hv2.2.2.2.2.2.1) (by rw [List.length_set]; omega) (by rw [List.length_set]; omega) ?_
              intro x3 hx3
              subst hx3
              refine ⟨_, by omega, _, F3, To, (Cl.set m' (nI c)).set a (nI (ce ++ cx).length), te, R, m', cx ++ [(kk + 1, c, i0)], lo1 ++ lo', rfl, ?_, rfl, rfl, rfl, hm1 m', rfl, by omega, by omega, hte, hty, ?_, by rw [List.length_append, List.length_singleton]; omega, hlo'⟩
              · obtain ⟨w1, w2, w3, w4, w5, w6, w7, A, B, w8, w9, w10, w11⟩ := hv2
                exact ⟨zPo_sm (S := [20]) (T := []) s4 (by rw [zub_n (by decide)]; exact s4.1) (zSm_ub zSm_refl (by decide)) zSm_refl (by decide) (by decide), zSm_ub (zSm_trans w2 s5 (by decide) (by decide)) (by decide), zSm_trans w3 s6 (by decide) (by decide), by rw [zub_n (by decide), s5 19 (by decide)]; exact w4, w5, by rw [zub_s], by rw [List.length_set]; exact w7, A, B, by rw [zub_n (by decide), s5 35 (by decide)]; exact w8, by rw [zub_n (by decide), s5 36 (by decide)]; exact w9, w10, w11⟩
              · have z1 := zCls_app (ce' := [(kk + 1, c, i0)]) (lo' := []) hcl2
                have z2 := zRc_app (ce' := [(kk + 1, c, i0)]) (lo' := []) _ _ hcc2
                have z3 := zRc_app (ce' := [(kk + 1, c, i0)]) (lo' := []) _ _ hrowx
                rw [List.append_nil, List.append_assoc] at z1 z2 z3
                refine zCls_row hg z1 (by omega) hz z2 ha hS2 ham hna ?_
                rw [hkk']
                refine ⟨c, i0, ?_, z2, z3⟩
                rw [hgo, ← List.append_assoc]
                exact zlast
            · have hc0 := zRc_lt _ _ y3 c0 (Or.inr ⟨_, rfl⟩)
              have hcap := hv'.1.2.2.2.2.1
              refine zM_ia' hl hv'.2.2.2.2.2.1 (by rw [zset_ne (by omega)]; exact y2) ⟨fun z => absurd z (nI_pos (by omega)), fun _ => ?_⟩
              refine zM_gr hl h10' (hR' (16, 20) (by decide)) (zM_ia' hl hv'.2.2.2.2.2.1 (by rw [zset_ne (by omega)]; exact y2) ?_)
              have olda : zopf N n R (m' + 1) a = true := decide_eq_true ⟨hna, ⟨ea, ha, hS2⟩, y1⟩
              have hop : zopc (zopf N n R (m' + 1)) m' = zopc (zopf N n R m') m' := zopc_congr m' (fun p hp => by
                by_cases hpa : p = a
                · rw [hpa, olda, newa]
                · exact oth p hp hpa)
              rw [hkk'] at y3 ⊢
              have hv2 := hv'
              have hrowx := y3
              have hcl2 := hcls'
              have hcc2 := a5
              obtain ⟨cx, hcx⟩ : ∃ cx, ce1 ++ ce' = cx := ⟨_, rfl⟩
              have hcxl : cx.length = ce1.length + ce'.length := by rw [← hcx]; simp
              rw [hcx] at hv2 hrowx hcl2 hcc2
              obtain ⟨i0, hi0⟩ : ∃ i0, c0 = i0 := ⟨_, rfl⟩
              rw [hi0] at hrowx ⊢
              have hi0l := zRc_lt _ _ hrowx i0 (Or.inr ⟨_, rfl⟩)
              have hcxc : (ce ++ cx).length = ce.length + cx.length := by rw [List.length_append]
              unfold zw_182_261
              rw [nI_1]
              refine zM_cv hl hv2.1.1 (zc187 (k := kk + 1) (a := c) (b := i0) hl hv2.1 (by omega) (by omega) (by omega) (by omega) (fun M3 F3 s4 s5 s6 => zKI_v ?_))
              rw [List.append_assoc] at s4
              refine zM_st' hl ((s5 20 (by decide)).trans hv2.2.2.2.2.2.1) (by rw [List.length_set]; omega) (by rw [List.length_set]; omega) ?_
              intro x3 hx3
              subst hx3
              refine ⟨_, by omega, _, F3, To, (Cl.set m' (nI c)).set a (nI (ce ++ cx).length), te, R, m', cx ++ [(kk + 1, c, i0)], lo1 ++ lo', rfl, ?_, rfl, rfl, rfl, hm1 m', rfl, by omega, by omega, hte, hty, ?_, by rw [List.length_append, List.length_singleton]; omega, hlo'⟩
              · obtain ⟨w1, w2, w3, w4, w5, w6, w7, A, B, w8, w9, w10, w11⟩ := hv2
                exact ⟨zPo_sm (S := [20]) (T := []) s4 (by rw [zub_n (by decide)]; exact s4.1) (zSm_ub zSm_refl (by decide)) zSm_refl (by decide) (by decide), zSm_ub (zSm_trans w2 s5 (by decide) (by decide)) (by decide), zSm_trans w3 s6 (by decide) (by decide), by rw [zub_n (by decide), s5 19 (by decide)]; exact w4, w5, by rw [zub_s], by rw [List.length_set]; exact w7, A, B, by rw [zub_n (by decide), s5 35 (by decide)]; exact w8, by rw [zub_n (by decide), s5 36 (by decide)]; exact w9, w10, w11⟩
              · have z1 := zCls_app (ce' := [(kk + 1, c, i0)]) (lo' := []) hcl2
                have z2 := zRc_app (ce' := [(kk + 1, c, i0)]) (lo' := []) _ _ hcc2
                have z3 := zRc_app (ce' := [(kk + 1, c, i0)]) (lo' := []) _ _ hrowx
                rw [List.append_nil, List.append_assoc] at z1 z2 z3
                refine zCls_row hg z1 (by omega) hz z2 ha hS2 ham hna ?_
                rw [hkk']
                refine ⟨c, i0, ?_, z2, z3⟩
                rw [hgo, ← List.append_assoc]
                exact zlast
          · have hno : ∀ p ep, n ≤ p → p < m' → N[p]? = some ep → eS ep = 2 → ¬ m' ∈ zchn N (eM ep) (p + 1) := fun p ep p1 p2 p3 p4 p5 => hex ⟨p, ep, p3, p1, p5, p4⟩
            have hop : zopc (zopf N n R (m' + 1)) m' = zopc (zopf N n R m') m' := zopc_congr m' (fun p hp => by
              unfold zopf
              by_cases hq : n ≤ p ∧ ∃ e, N[p]? = some e ∧ eS e = 2
              · obtain ⟨q1, e2, q2, q3⟩ := hq
                rw [zfl_oth (m := m') (fun ep h1 h2 => absurd h2 (hno p ep q1 hp h1 (by cases q2.symm.trans h1; exact q3)))]
              · rw [decide_eq_false (fun z => hq ⟨z.1, z.2.1⟩), decide_eq_false (fun z => hq ⟨z.1, z.2.1⟩)])
            have fin : zCls N n te R m' (ce ++ (ce1 ++ ce')) (lo ++ (lo1 ++ lo')) (Cl.set m' (nI c)) ∧ (ce1 ++ ce').length ≤ 2 * (R - m') + zopc (zopf N n R m') m' ∧ (lo1 ++ lo').length ≤ R - m' := ⟨zCls_non hcls' (by omega) a5 hno, by rw [List.length_append]; omega, by rw [List.length_append]; omega⟩
            refine pk_lt n m' (fun hnlt => ?_) (fun hq => ?_)
            · obtain ⟨p, ep, p1, p2, p3, p4⟩ := zpar_in hg m' n m' (by omega) hnlt hn (by omega)
              obtain ⟨em, em1, em2⟩ := hg.2.1 p ep p3 m' p4
              cases he.symm.trans em1
              have hpl := (List.getElem?_eq_some_iff.mp p3).1
              refine zM_gr hl h10' (hR' (9, 13) (by decide)) (zM_gr hl h10' (hR' (14, 18) (by decide)) (zM_ia' hl c5 (rows m' e he).2.2.2.2.1 ?_))
              rw [em2]
              have hS3 := (hg.1.2 p ep p3).1
              refine zM_ia' hl c1 (rows p ep p3).1 (pk_eq (eS ep) 2 (fun z => absurd p4 (hno p ep p1 p2 p3 z)) (fun _ => ?_))
              refine ⟨fun _ => ⟨fun _ => ?_, fun z => absurd (by decide) z⟩, fun z => absurd (by decide) z⟩
              intro x3 hx3
              subst hx3
              exact ⟨_, by omega, _, F1, To, _, te, R, m', ce1 ++ ce', lo1 ++ lo', rfl, hv', rfl, rfl, rfl, hm1 m', rfl, by omega, by omega, hte, hty, fin.1, fin.2.1, fin.2.2⟩
            · refine ⟨fun _ => ⟨fun _ => ?_, fun z => absurd (by decide) z⟩, fun z => absurd (by decide) z⟩
              intro x3 hx3
              subst hx3
              exact ⟨_, by omega, _, F1, To, _, te, R, m', ce1 ++ ce', lo1 ++ lo', rfl, hv', rfl, rfl, rfl, hm1 m', rfl, by omega, by omega, hte, hty, fin.1, fin.2.1, fin.2.2⟩
  · -- the order of the keys
    rintro k l0 l1 l3 l5 h1 ⟨M, F, To, Cl, te, R, m, ce1, lo1, rfl, hv, rfl, rfl, rfl, rfl, rfl, hnm, hmR, hte, hty, hcls, hce, hlo1, hord⟩
    obtain ⟨h10, hR, hr, hx, htb, hf6⟩ := ctx hv
    have hRz := hte.2.2.2.2.2.1
    refine pk_lt m R (fun hlt => ?_) (fun hge => ?_)
    · obtain ⟨x, x1, x2⟩ := hty m hnm hlt
      obtain ⟨jx, j1, j2, j3⟩ : ∃ j : Nat, j < 220 ∧ Ts[j]? = some (te m).2 ∧ x = nI ((if (te m).1 = true then 1000 else 0) + j) := x2
      subst j3
      refine zM_gr hl h10 (hR (15, 19) (by decide)) (zM_ia' hl hv.2.2.2.1 x1 ?_)
      by_cases hk : (te m).1 = true
      · rw [if_pos hk]
        refine ⟨fun z => absurd ((nI_ltI (a := 1000 + jx) (b := 1000) (by omega) (by decide)).mp z) (by omega), fun _ => ?_⟩
        have hne : n ≠ m := fun z => by
          subst z
          rw [hte.1] at hk
          cases hk
        obtain ⟨p, ep, p1, p2, p3, p4⟩ := zpar_in hg m n m (by omega) (by omega) hn (by omega)
        obtain ⟨em, em1, em2⟩ := hg.2.1 p ep p3 m p4
        obtain ⟨_, _, So, Fi, Co, Ma, Ab, Hi, Lo, c1, c2, c3, c4, c5, c6, c7, c8, c9, c10, c11, c12, c13, c14, rows⟩ := hr
        refine zM_gr hl h10 (hR (14, 18) (by decide)) (zM_ia' hl c5 (rows m em em1).2.2.2.2.1 ?_)
        rw [em2]
        obtain ⟨t0, ht0⟩ := List.getElem?_of_mem p4
        have h0 : (zchn N (eM ep) (p + 1))[0]? = some (p + 1) := by
          have := (List.getElem?_eq_some_iff.mp ht0).1
          rw [zchn_len] at this
          obtain ⟨q, hq⟩ : ∃ q, eM ep = q + 1 := ⟨eM ep - 1, by omega⟩
          rw [hq]; rfl
        exact ⟨_, by omega, M, F, To, Cl, te, R, m, ce1, lo1, 0, rfl, hv, rfl, rfl, rfl, rfl, rfl, rfl, by omega, hnm, hlt, hte, hty, hcls, hce, hlo1, hord, Or.inr ⟨hk, p, ep, t0, p + 1, p1, p2, p3, ht0, Nat.zero_le _, h0, nI_1 p, Or.inl ⟨rfl, rfl⟩⟩⟩
      · rw [if_neg hk, Nat.zero_add]
        have hk' : (te m).1 = false := by cases hq : (te m).1; rfl; exact absurd hq hk
        exact ⟨fun _ => ⟨_, by omega, M, F, To, Cl, te, R, m, ce1, lo1, 0, rfl, hv, rfl, rfl, rfl, rfl, rfl, rfl, by omega, hnm, hlt, hte, hty, hcls, hce, hlo1, hord, Or.inl ⟨hk', rfl, rfl⟩⟩, fun z => absurd (nI_lt (a := jx) (b := 1000) (by omega) (by decide)) z⟩
    · have hmr : m = R := by omega
      rw [hmr] at hord
      have hmi := zmi_nod hg hte hord
      refine zM_nX hl h10 hR hx hn hN100 (pk_lt R (znx N n) (fun hlt => ?_) (fun hge' => ?_))
      · rw [if_pos hlt] at hmi
        obtain ⟨e, he, _⟩ := hte.2.2.2.2.2.2 hlt
        exact bad hv he hmi (by unfold zFp; rw [he])
      · rw [if_neg (by omega)] at hmi
        obtain ⟨c, c1, c2⟩ := hcls.1 n (Nat.le_refl _) (by omega) (by omega)
        rw [hte.1] at c2
        refine zM_gr hl h10 (hR (16, 20) (by decide)) (zM_ia' hl hv.2.2.2.2.2.1 c1 ?_)
        exact k1 c M F To Cl ce1 lo1 hmi hv (by omega) (by omega) c2
  · -- the entry ahead
    rintro k l0 l1 l3 l5 l6 l7 l8 h1 ⟨M, F, To, Cl, te, R, m, ce1, lo1, q, rfl, hv, rfl, rfl, rfl, rfl, rfl, rfl, hq40, hnm, hmR, hte, hty, hcls, hce, hlo1, hord, hcase⟩
    obtain ⟨h10, hR, hr, hx, htb, hf6⟩ := ctx hv
    have hRz := hte.2.2.2.2.2.1
    have ext : ((te m).1 = true → zdis N m = true → ¬ znx N (m + 1) ≤ R) → ∀ q, n ≤ q → q < m + 1 → (te q).1 = true → zdis N q = true → ¬ znx N (q + 1) ≤ R := by
      intro hm q q1 q2
      by_cases hq : q = m
      · rw [hq]; exact hm
      · exact hord q q1 (by omega)
    rcases hcase with ⟨hk, rfl, rfl⟩ | ⟨hk, p, ep, t0, c, p1, p2, p3, ht0, hqt, hqc, rfl, hb⟩
    · refine pk_lt q 40 (fun _ => pk_lt m m (fun z => absurd z (by omega)) (fun _ => ⟨fun _ => ?_, fun z => absurd (by decide) z⟩)) (fun _ => ⟨fun _ => ?_, fun z => absurd (by decide) z⟩)
      all_goals
        intro x3 hx3
        subst hx3
        exact ⟨_, by omega, M, F, To, Cl, te, R, m + 1, ce1, lo1, rfl, hv, rfl, rfl, rfl, nI_1 m, rfl, by omega, by omega, hte, hty, hcls, hce, hlo1, ext (fun z => absurd (hk.symm.trans z) (by decide))⟩
    · have hinc := zchn_inc _ _ _ (zGd_k hg p3)
      have hM40 := (hg.1.2 p ep p3).2.2.1
      have ht0l := (List.getElem?_eq_some_iff.mp ht0).1
      rw [zchn_len] at ht0l
      have hcl := zchn_lt _ _ _ c (zGd_k hg p3) (List.mem_of_getElem? hqc)
      have hcl' := zful_lt hcl.2.2.1
      by_cases hqt' : q = t0
      · subst hqt'
        have hcm : c = m := by rw [hqc] at ht0; exact Option.some.inj ht0
        subst hcm
        refine pk_lt q 40 (fun _ => pk_lt c c (fun z => absurd z (by omega)) (fun _ => ?_)) (fun z => absurd z (by omega))
        rcases hb with ⟨hq0, rfl⟩ | ⟨b, hq0, hb, rfl⟩
        · refine ⟨fun _ => ?_, fun z => absurd (by decide) z⟩
          intro x3 hx3
          subst hx3
          subst hq0
          exact ⟨_, by omega, M, F, To, Cl, te, R, c + 1, ce1, lo1, rfl, hv, rfl, rfl, rfl, nI_1 c, rfl, by omega, by omega, hte, hty, hcls, hce, hlo1, ext (fun _ z => absurd ((zdis_0 (k := 0) hg p3 hqc rfl).symm.trans z) (by decide))⟩
        · have hqe : q - 1 + 1 = q := by omega
          have hzb : znx N b = c := by
            have := zchn_nxt _ _ _ _ hb (by omega)
            rw [hqe, hqc] at this
            exact (Option.some.inj this).symm
          have hdis := zdis_s hg p3 hb (by rw [hqe]; exact hqc)
          have hbm := List.mem_of_getElem? hb
          have hcm := List.mem_of_getElem? hqc
          have hbg := zchn_ge _ _ _ hbm
          have hbl := zchn_lt _ _ _ b (zGd_k hg p3) hbm
          have hbl' := zful_lt hbl.2.2.1
          have tec := hte.2.2.2.1 p ep p1 (by omega) p3 c hcm
          have teb := hte.2.2.2.1 p ep p1 (by omega) p3 b hbm
          have tebc : te b = te c := by
            rw [teb, tec]
            exact zpt_keyed (by rw [← tec]; exact hk) _
          obtain ⟨ec, ec1, ec2⟩ := hte.2.2.2.2.1 c hnm hmR
          obtain ⟨eb, eb1, eb2⟩ := hte.2.2.2.2.1 b (by omega) (by omega)
          have hkb : (te b).1 = true := by rw [tebc]; exact hk
          have wc : zisw ec 28 2 = true := by unfold zfit at ec2; rw [if_pos hk] at ec2; exact ec2
          have wb : zisw eb 28 2 = true := by unfold zfit at eb2; rw [if_pos hkb] at eb2; exact eb2
          obtain ⟨kc1, kc2, kc3, kc4, kc5⟩ := zkid_w hg ec1 wc
          obtain ⟨kb1, kb2, kb3, kb4, kb5⟩ := zkid_w hg eb1 wb
          have hb1 := zchn_lt _ _ _ (b + 1) (zGd_k hg eb1) (by rw [kb1]; simp)
          refine ⟨fun z => absurd z (nI_pos (by omega)), fun _ => ?_⟩
          rw [nI_1, nI_1]
          refine zM_nX hl h10 hR hx kc4 hN100 (pk_lt R (znx N (c + 1)) (fun hz => ?_) (fun hz => ?_) (hb := by have := zful_lt (hg.2.2 (c + 1) kc4); omega))
          · intro x3 hx3
            subst hx3
            exact ⟨_, by omega, M, F, To, Cl, te, R, c + 1, ce1, lo1, rfl, hv, rfl, rfl, rfl, nI_1 c, rfl, by omega, by omega, hte, hty, hcls, hce, hlo1, ext (fun _ _ => by omega)⟩
          · have hc1 := zful_lt (hg.2.2 (c + 1) kc4)
            obtain ⟨mc1, mc2, mc3⟩ := zmi_key hg hte hTk hTs hnm hmR hk (by omega)
            obtain ⟨mb1, mb2, mb3⟩ := zmi_key hg hte hTk hTs (by omega) (by omega) hkb (by omega)
            obtain ⟨g1, g2, g3⟩ := hcls.1 (c + 1) (by omega) (by omega) (by omega)
            obtain ⟨f1, f2, f3⟩ := hcls.1 (b + 1) (by omega) (by omega) (by omega)
            obtain ⟨o1, o2, o3, o4⟩ := zT1_ok (m := R) hg hn ⟨hte.1, hte.2.2.2.1, hte.2.2.2.2.1⟩ hTk hTs c c (by omega) hnm (by omega) (by omega)
            have hkt := zTok_1 o1
            rw [tebc] at mb1 mb2 mb3
            obtain ⟨sc1, sc2⟩ := ztv_sim hg _ _ hkt mc2 mc1
            obtain ⟨sb1, sb2⟩ := ztv_sim hg _ _ hkt mb2 mb1
            rw [mc3] at g3
            rw [mb3] at f3
            dsimp only at g3 f3
            rw [sc1] at g3
            rw [sb1] at f3
            have hd1 : ztdep (zt1 (te c).2) ≤ ztdep (te c).2 := by
              have := zpt_dep (kd := true) (T := (te c).2) (e := ec) (fst := true)
              exact this
            have hsimp := zMi_simp hg _ _ _ hkt mc2 mb1 mc1
            obtain ⟨v1, v2, v3, v4, v5, v6, v7, A, B, w1, w2, w3, w4⟩ := hv
            refine zM_gr hl h10 (hR (16, 20) (by decide)) (zM_ia' hl v6 f2 (zM_gr hl h10 (hR (16, 20) (by decide)) (zM_ia' hl v6 g2 (zM_cv hl h10 (zc191 (d := d + 2) hl v1 hsimp f3 g3 (by omega) w1 w2 w3 w4 (fun M' A' B' s1 s2 s3 s4 s5 s6 => zKI_v ?_))))))
            have hv' : zVS M0 M' F0 F (ce ++ ce1) (lo ++ lo1) To Cl := ⟨s1, zSm_trans v2 s2 (by decide) (by decide), v3, (s2 19 (by decide)).trans v4, v5, (s2 20 (by decide)).trans v6, v7, A', B', s3, s4, s5, s6⟩
            refine ⟨fun z => ?_, fun z => ?_⟩
            · intro x3 hx3
              subst hx3
              refine ⟨_, by omega, M', F, To, Cl, te, R, c + 1, ce1, lo1, rfl, hv', rfl, rfl, rfl, nI_1 c, rfl, by omega, by omega, hte, hty, hcls, hce, hlo1, ext (fun _ q => ?_)⟩
              rw [hdis, decide_eq_true z] at q
              cases q
            · obtain ⟨e1, he1⟩ : ∃ e, N[c + 1]? = some e := ⟨_, List.getElem?_eq_getElem kc4⟩
              have hmi := zmi_dis hg hte hTk hTs hnm hmR hk (by rw [hdis, decide_eq_false z]; rfl) (by omega) (fun p a b c' d' => hord p a b c' d')
              exact bad hv' he1 hmi (by unfold zFp; rw [he1])
      · have hlt : c < m := by
          have h1 := (List.getElem?_eq_some_iff.mp hqc)
          have h2 := (List.getElem?_eq_some_iff.mp ht0)
          have := List.pairwise_iff_getElem.mp hinc q t0 h1.1 h2.1 (by omega)
          rw [h1.2, h2.2] at this
          exact this
        refine pk_lt q 40 (fun _ => pk_lt c m (fun _ => ?_) (fun z => absurd z (by omega))) (fun z => absurd z (by omega))
        refine zM_nX hl h10 hR hx hcl'.1 hN100 ?_
        intro x10 hx10
        subst hx10
        exact ⟨_, by omega, M, F, To, Cl, te, R, m, ce1, lo1, q + 1, rfl, hv, rfl, rfl, rfl, rfl, nI_1 q, rfl, by omega, hnm, hmR, hte, hty, hcls, hce, hlo1, hord, Or.inr ⟨hk, p, ep, t0, znx N c, p1, p2, p3, ht0, by omega, zchn_nxt _ _ _ _ hqc (by omega), rfl, Or.inr ⟨c, by omega, hqc, rfl⟩⟩⟩
  · obtain ⟨h10, hR, hr, hx, htb, hf6⟩ := ctx hv0
    obtain ⟨v1, v2, v3, v4, v5, v6, v7, v8⟩ := hv0
    refine zM_nX hl h10 hR hx hn hN100 (zM_gr hl h10 (hR (15, 19) (by decide)) (zM_st' hl v4 (by omega) (by omega) ?_))
    refine ⟨_, _, F0, To0.set n (nI t), Cl0, fun _ => (false, T), znx N n, n, rfl, ?_, rfl, rfl, rfl, rfl, rfl, Nat.le_refl _, Nat.le_refl _, fun p a b => by omega, fun j hj => ?_, Or.inl ⟨by omega, rfl, rfl, fun p ep a b => by omega, fun p a b => by omega⟩⟩
    · refine ⟨zPo_sm (S := [19]) (T := []) v1 (by rw [zub_n (by decide)]; exact h10) (zSm_ub zSm_refl (by decide)) zSm_refl (by decide) (by decide), zSm_ub zSm_refl (by decide), v3, by rw [zub_s], by rw [List.length_set]; exact v5, by rw [zub_n (by decide)]; exact v6, v7, ?_⟩
      obtain ⟨A, B, w1, w2, w3, w4⟩ := v8
      exact ⟨A, B, by rw [zub_n (by decide)]; exact w1, by rw [zub_n (by decide)]; exact w2, w3, w4⟩
    · rcases hj with rfl | ⟨p, ep, a, b, _⟩
      · exact ⟨nI t, zset_eq (by omega), t, ht, hT, by show nI t = nI (0 + t); rw [Nat.zero_add]⟩
      · omega
end V182
