/-! the class's steps -/
abbrev zSP := Nat → List Term → Nat → Nat → Nat → Nat → Prop
def zStL (N : List zNt) (P : zSP) (held : Nat) : List Nat → zkcs → List Nat → Prop
  | [], _, ls => ls = []
  | j :: js, s, ls => ∃ l ls' st a b, ls = l :: ls' ∧ s = (some st, a, b) ∧ P j st held a b l ∧ ∀ s', zkin N (zkbl N) held j s = .inr s' → zStL N P held js s' ls'
def zStR (h : zH) (N : List zNt) (P : zSP) (i : Nat) (st : List Term) (held a b r : Nat) : Prop := ∃ e ls, N[i]? = some e ∧ zown h r = some (.inl (7, ls.map Value.ref)) ∧ zStL N P held (zchn N (eM e) (i + 1)) (some st, a, max b (st.length + held)) ls
/-- the step at l is the instruction j, checked on this stack -/
def zStp (lb : Nat) (h : zH) (N : List zNt) : Nat → zSP
  | 0, _, _, _, _, _, _ => False
  | f + 1, j, st, held, a, b, l => ∃ (e : zNt) (v r1 r2 : Nat), N[j]? = some e ∧ zown h l = some (.inr (9, [.int (nI (eC e)), .int (zB (zkhs st 2 10)), .ref v, .ref r1, .ref r2])) ∧ lb ≤ r1 ∧ lb ≤ r2 ∧
      (eC e = 34 → zVal h (zrw N (znx N (j + 1))) (.inl v)) ∧
      (eC e = 33 → zStR h N (zStp lb h N f) (j + 1) (st.drop 1) (held + 1) (a + 1) b r1) ∧
      (eC e = 58 ∨ eC e = 41 ∨ eC e = 44 ∨ eC e = 47 → zStR h N (zStp lb h N f) (j + 1) (zkf1 (eC e) st) held (a + 1) b r1 ∧ ∀ o1 a1 b1, zkbl N (j + 1) (zkf1 (eC e) st) held (a + 1) b = .inr (o1, a1, b1) → zStR h N (zStp lb h N f) (znx N (j + 1)) (zkf2 (eC e) st) held a1 b1 r2) ∧
      (eC e = 49 ∨ eC e = 50 ∨ eC e = 59 → zStR h N (zStp lb h N f) (j + 1) (zkbg (eC e) st) held (a + 1) b r1)
theorem zStL_mono {N : List zNt} {P P' : zSP} {held : Nat} (H : ∀ j st held a b l, P j st held a b l → P' j st held a b l) : ∀ (js : List Nat) (s : zkcs) (ls : List Nat), zStL N P held js s ls → zStL N P' held js s ls
  | [], _, _, h => h
  | j :: js, s, ls, ⟨l, ls', st, a, b, h1, h2, h3, h4⟩ => ⟨l, ls', st, a, b, h1, h2, H _ _ _ _ _ _ h3, fun s' hs => zStL_mono H js s' ls' (h4 s' hs)⟩
theorem zStR_mono {h : zH} {N : List zNt} {P P' : zSP} {i held a b r : Nat} {st : List Term} (H : ∀ j st held a b l, P j st held a b l → P' j st held a b l) (hr : zStR h N P i st held a b r) : zStR h N P' i st held a b r := by
  obtain ⟨e, ls, h1, h2, h3⟩ := hr
  exact ⟨e, ls, h1, h2, zStL_mono H _ _ _ h3⟩
theorem zStp_up {lb : Nat} {h : zH} {N : List zNt} : ∀ (f j : Nat) (st : List Term) (held a b l : Nat), zStp lb h N f j st held a b l → zStp lb h N (f + 1) j st held a b l
  | 0, _, _, _, _, _, _, hs => hs.elim
  | f + 1, j, st, held, a, b, l, ⟨e, v, r1, r2, h1, h2, h3, h4, h5, h6, h7, h8⟩ => ⟨e, v, r1, r2, h1, h2, h3, h4, h5, fun q => zStR_mono (zStp_up f) (h6 q), fun q => ⟨zStR_mono (zStp_up f) (h7 q).1, fun o1 a1 b1 hq => zStR_mono (zStp_up f) ((h7 q).2 o1 a1 b1 hq)⟩, fun q => zStR_mono (zStp_up f) (h8 q)⟩
/-- later heaps -/
def zSfr (lb : Nat) (h h' : zH) : Prop := (∀ k fs, zown h k = some (.inr (9, fs)) → zown h' k = some (.inr (9, fs))) ∧ (∀ k vs, lb ≤ k → zown h k = some (.inl (7, vs)) → zown h' k = some (.inl (7, vs))) ∧ (∀ k e, zown h k = some e → zvc e = true → zown h' k = some e)
theorem zStp_fr {lb lb' : Nat} {h h' : zH} {N : List zNt} (H : zSfr lb h h') (hl : lb' ≤ lb) : ∀ (f j : Nat) (st : List Term) (held a b l : Nat), zStp lb h N f j st held a b l → zStp lb' h' N f j st held a b l
  | 0, _, _, _, _, _, _, hs => hs.elim
  | f + 1, j, st, held, a, b, l, ⟨e, v, r1, r2, h1, h2, h3, h4, h5, h6, h7, h8⟩ => by
    have R : ∀ {i st held a b r}, lb ≤ r → zStR h N (zStp lb h N f) i st held a b r → zStR h' N (zStp lb' h' N f) i st held a b r := by
      rintro i st held a b r hr ⟨e, ls, g1, g2, g3⟩
      exact ⟨e, ls, g1, H.2.1 _ _ hr g2, zStL_mono (zStp_fr H hl f) _ _ _ g3⟩
    exact ⟨e, v, r1, r2, h1, H.1 _ _ h2, by omega, by omega, fun q => zVal_fr H.2.2 _ _ (h5 q), fun q => R h3 (h6 q), fun q => ⟨R h3 (h7 q).1, fun o1 a1 b1 hq => R h4 ((h7 q).2 o1 a1 b1 hq)⟩, fun q => R h3 (h8 q)⟩
theorem zStR_fr {lb lb' : Nat} {h h' : zH} {N : List zNt} {f i held a b r : Nat} {st : List Term} (H : zSfr lb h h') (hl : lb' ≤ lb) (hr : lb ≤ r) (hs : zStR h N (zStp lb h N f) i st held a b r) : zStR h' N (zStp lb' h' N f) i st held a b r := by
  obtain ⟨e, ls, g1, g2, g3⟩ := hs
  exact ⟨e, ls, g1, H.2.1 _ _ hr g2, zStL_mono (zStp_fr H hl f) _ _ _ g3⟩
theorem zStL_snoc {N : List zNt} {P : zSP} {held j a' b' l : Nat} {st' : List Term} : ∀ (js : List Nat) (s : zkcs) (ls : List Nat), zStL N P held js s ls → zkfo (zkin N (zkbl N) held) js s = .inr (some st', a', b') → P j st' held a' b' l → zStL N P held (js ++ [j]) s (ls ++ [l])
  | [], s, ls, h1, h2, h3 => by
    have h1 : ls = [] := h1
    subst h1
    have h2 : s = (some st', a', b') := by injection h2
    subst h2
    exact ⟨l, [], st', a', b', rfl, rfl, h3, fun s' _ => rfl⟩
  | j' :: js, s, ls, ⟨l', ls', st, a, b, g1, g2, g3, g4⟩, h2, h3 => by
    subst g1
    refine ⟨l', ls' ++ [l], st, a, b, rfl, g2, g3, fun s' hs => ?_⟩
    rw [zkfo, hs] at h2
    exact zStL_snoc js s' ls' (g4 s' hs) h2 h3
theorem zkfo_app {g : Nat → zkcs → Nat ⊕ zkcs} : ∀ (l1 l2 : List Nat) (s s' : zkcs), zkfo g l1 s = .inr s' → zkfo g (l1 ++ l2) s = zkfo g l2 s'
  | [], l2, s, s', h => by cases h; rfl
  | j :: l1, l2, s, s', h => by
    rw [zkfo] at h
    rw [List.cons_append, zkfo]
    cases hg : g j s with
    | inl p => rw [hg] at h; cases h
    | inr s1 => rw [hg] at h; exact zkfo_app l1 l2 s1 s' h
def zrsz (N : List zNt) (i : Nat) : Nat := match N[i]? with
  | some e => if eS e = 2 then eM e else 0
  | none => 0
theorem zfuls_le {N : List zNt} : ∀ (c k k' : Nat), zfuls N c k k' → k + c ≤ k'
  | 0, k, k', h => by have : k = k' := h; omega
  | c + 1, k, k', h => by have := zfuls_le c _ _ h.2; have := zful_lt h.1; omega
theorem zrsz_le {N : List zNt} {i : Nat} (hg : zGd N) : zrsz N i ≤ 40 ∧ (i < N.length → zrsz N i + 1 ≤ znx N i - i) := by
  unfold zrsz
  cases he : N[i]? with
  | none => exact ⟨Nat.zero_le _, fun z => by rw [List.getElem?_eq_getElem z] at he; cases he⟩
  | some e =>
    have hk := zfuls_le _ _ _ (zGd_k hg he)
    have := (hg.1.2 i e he).2.2.1
    dsimp only
    split <;> omega
theorem zown_n1 {h : zH} {A B : zE} {n m : Nat} : zown (zadd (zadd h A n) B m) (h.1.length + 1 + zK0) = some B := by
  have := zown_new (h := zadd h A n) (e := B) (n := m)
  rw [zadd_ln] at this
  exact this
theorem zown_n2 {h : zH} {A B C : zE} {n m k : Nat} : zown (zadd (zadd (zadd h A n) B m) C k) (h.1.length + 1 + 1 + zK0) = some C := by
  have := zown_new (h := zadd (zadd h A n) B m) (e := C) (n := k)
  rw [zadd_ln, zadd_ln] at this
  exact this
section STP
variable {xs : List Value} {d : Nat} {h : zH} {Q : zO → zH → Prop} {a b c i j t u ck f D : Nat} {L : List Term} {T U : Term} {N : List zNt} {e : zNt} {w : Int32}
theorem zc69 {k : Bool} {K : zH → Prop} (hg : zGd N) (hn : zNd h N (f + 1) j a) (hf : f < 100) (he : N[j]? = some e) (hI : zkI e = true)
    (g : ∀ (h' : zH) (v r1 r2 : Nat), zEx h h' 3 85 → zown h' (h.1.length + zK0) = some (.inr (9, [.int (nI (eC e)), .int (zB k), .ref v, .ref r1, .ref r2])) → h.1.length + zK0 < r1 → r1 < r2 → (0 < eM e → zown h' r1 = some (.inl (7, List.replicate (zrsz N (j + 1)) .null))) → (1 < eM e → zown h' r2 = some (.inl (7, List.replicate (zrsz N (znx N (j + 1))) .null))) → (1 < eM e → zVal h' (zrw N (znx N (j + 1))) (.inl v)) → K h') : zCN xs (d + 2) 69 (some (h.1.length + zK0)) [zo (some a), .int (zB k)] (zadd h (.inr (9, [.int 0, .int 0, .null, .null, .null])) 5) K := by
  obtain ⟨i1, i2, i3, i4⟩ := zkI_ok hI
  obtain ⟨n1, n2, n3, n4, _⟩ := hg.1.2 j e he
  have sz1 : ∀ j', zrsz N j' ≤ 40 := fun j' => (zrsz_le hg).1
  refine ⟨_, rfl, by rw [zown_new]; rfl, d + 1, rfl, zm_69 ⟨_, rfl, ?_⟩⟩
  have nd : ∀ {e' : zE} {n}, zNd (zadd h e' n) N (f + 1) j a := fun {e' n} => zNd_ex hn zEx_add
  refine zNd_gC nd he ?_
  rw [if_pos i1]
  refine zX_pf zown_new (show 0 < 5 by decide) ?_
  rw [zput_new]
  refine ⟨zB_01 k, zX_pf zown_new (show 1 < 5 by decide) ?_⟩
  rw [zput_new]
  -- part k of the node, or the node
  have prt : ∀ (m : Nat) {h1 : zH} {K : zP → zH → Prop} {E : Nat → zH → Prop}, m < 2 → zNd h1 N (f + 1) j a → (∀ p j' f', zNd h1 N f' j' p → f' ≤ f + 1 → (m < eM e → j' = zkid N j m) → (¬ m < eM e → j' = j) → K (some p) h1) → zCV xs (d + 1) 46 4 (some a) [.int (nI m)] h1 (zKR K E) := by
    intro m h1 K E hm2 hn1 k
    obtain ⟨fs, ho⟩ := zNd_own hn1
    by_cases hm : m < eM e
    · exact zX_cv ho (zc46k hn1 he hm hm2 (by omega) (fun p hp => zKR_v (k p _ f hp (by omega) (fun _ => rfl) (fun z => absurd hm z))))
    · exact zX_cv ho (zc46o hn1 he (by omega) (by omega) (zKR_v (k a j (f + 1) hn1 (by omega) (fun z => absurd z hm) (fun _ => rfl))))
  have rs : ∀ {h1 : zH} {K : Int32 → zH → Prop} {E : Nat → zH → Prop} {p j' f'}, zNd h1 N f' j' p → K (nI (zrsz N j')) h1 → zCV xs (d + 1) 51 4 (some p) [] h1 (zKI K E) := by
    intro h1 K E p j' f' hp k
    obtain ⟨fs, ho⟩ := zNd_own hp
    cases f' with
    | zero => exact hp.elim
    | succ f' =>
      obtain ⟨e', ps, r, pv, he', _⟩ := zNd_at hp
      refine zX_cv ho (zc51 hg.1 hp he' (zKI_v ?_))
      unfold zrsz at k
      rw [he'] at k
      exact k
  have hself : zrsz N j = 0 := by unfold zrsz; rw [he]; dsimp only; rw [if_neg (by omega)]
  refine prt 1 (by decide) nd (fun p j1 f1 hp hf1 hj1 hj1' => zNd_val hp (by omega) (fun pv hpv => ?_))
  refine zX_pf zown_new (show 2 < 5 by decide) ?_
  rw [zput_new]
  refine prt 0 (by decide) nd (fun p2 j2 f2 hp2 hf2 hj2 hj2' => rs hp2 ?_)
  have hr1 := sz1 j2
  refine ⟨⟨nI_pos (by omega), by rw [nI_clamp (by omega)]; omega⟩, ?_⟩
  rw [nI_clamp (by omega), zadd_ln]
  refine zX_pf (zown_add zown_new) (show 3 < 5 by decide) ?_
  rw [zput_old zown_new, zput_new]
  have nd2 : ∀ {e' e2 : zE} {n n2}, zNd (zadd (zadd h e' n) e2 n2) N (f + 1) j a := fun {e' e2 n n2} => zNd_ex nd zEx_add
  refine prt 1 (by decide) nd2 (fun p3 j3 f3 hp3 hf3 hj3 hj3' => rs hp3 ?_)
  have hr2 := sz1 j3
  refine ⟨⟨nI_pos (by omega), by rw [nI_clamp (by omega)]; omega⟩, ?_⟩
  rw [nI_clamp (by omega), zadd_ln, zadd_ln]
  refine zX_pf (zown_add (zown_add zown_new)) (show 4 < 5 by decide) ?_
  rw [zput_old (zown_add zown_new), zput_old zown_new, zput_new]
  refine g _ pv (h.1.length + 1 + zK0) (h.1.length + 1 + 1 + zK0) ?_ (zown_add (zown_add zown_new)) (Nat.add_lt_add_right (Nat.lt_succ_self _) _) (Nat.add_lt_add_right (Nat.lt_succ_self _) _) (fun hm => ?_) (fun hm => ?_) (fun hm => ?_)
  · exact zEx_le (zEx_trans (zEx_trans (zEx_add (n := 5)) zEx_add) zEx_add) (by omega) (by omega)
  · rw [hj2 hm]; exact zown_add zown_n1
  · rw [hj3 hm]; exact zown_n2
  · rw [hj1 hm] at hpv
    refine zVal_fr (fun q e' hq hv => ?_) _ _ hpv
    by_cases hqn : q = h.1.length + zK0
    · rw [hqn, zown_new] at hq
      cases hq
      cases hv
    · rw [zown_add_ne hqn] at hq
      exact zown_add (zown_add (zown_add hq))
end STP
/-! what the check keeps: stacks of at most 12 types, each at most 8 deep -/
def zTg1 (T : Term) : Prop := zTok T ∧ zTs T
def zkok (held : Nat) (st : List Term) : Prop := st.length + held ≤ 12 ∧ ∀ T, T ∈ st → zTg1 T ∧ ztdep T ≤ 8
section CKO
variable {N : List zNt} {e : zNt} {st l : List Term} {held c i j a b : Nat}
theorem zkat_in (h : ∀ T, T ∈ st → zTg1 T ∧ ztdep T ≤ 8) (i : Nat) : zTg1 (zkat st i) ∧ ztdep (zkat st i) ≤ 8 := by
  by_cases hi : i < st.length
  · rw [zkat_lt hi]; exact h _ (List.getElem_mem hi)
  · have : zkat st i = .arg 0 := by unfold zkat; rw [List.getD_eq_getElem?_getD, List.getElem?_eq_none (by omega)]; rfl
    rw [this]
    exact ⟨⟨by show 0 ≤ 4; omega, trivial⟩, by decide⟩
theorem zTg1_1 {T : Term} (h : zTg1 T) : zTg1 (zt1 T) := ⟨zTok_1 h.1, zTs_1 h.2⟩
theorem zTg1_2 {T : Term} (h : zTg1 T) : zTg1 (zt2 T) := ⟨zTok_2 h.1, zTs_2 h.2⟩
theorem zTg1_a {c : Nat} (h : c ≤ 4) : zTg1 (.arg c) := ⟨h, trivial⟩
theorem zTg1_o {T : Term} {c : Nat} (h : zTg1 T) (hc : c = 6 ∨ c = 8) : zTg1 (.div (.arg c) T) := ⟨⟨hc, h.1⟩, h.2⟩
theorem zTg1_p {T U : Term} {c : Nat} (h : zTg1 T) (h2 : zTg1 U) (hc : c = 5 ∨ c = 7) : zTg1 (.add (.div (.arg c) T) U) := ⟨⟨by omega, h.1, h2.1⟩, ⟨fun z => by omega, h.2, h2.2⟩⟩
theorem zTg1_m {T U : Term} (h : zTg1 T) (h2 : zTg1 U) (hs : ztsim T = true) : zTg1 (.add (.div (.arg 9) T) U) := ⟨⟨by omega, h.1, h2.1⟩, ⟨fun _ => hs, h.2, h2.2⟩⟩
/-- one more in front: the head's depth is looked at apart -/
theorem zkok_cons {T : Term} (ht : zTg1 T) (h : ∀ T, T ∈ l → zTg1 T ∧ ztdep T ≤ 8) : (∀ U, U ∈ T :: l → zTg1 U) ∧ (∀ U, U ∈ (T :: l).drop 1 → ztdep U ≤ 8) := ⟨fun U hU => by
  rcases List.mem_cons.mp hU with rfl | z
  · exact ht
  · exact (h U z).1, fun U hU => (h U hU).2⟩
theorem zkok_self (h : ∀ T, T ∈ l → zTg1 T ∧ ztdep T ≤ 8) : (∀ U, U ∈ l → zTg1 U) ∧ (∀ U, U ∈ l.drop 1 → ztdep U ≤ 8) := ⟨fun U hU => (h U hU).1, fun U hU => (h U (List.mem_of_mem_drop hU)).2⟩
theorem zksm_c (c : Nat) (st : List Term) : zTg1 (zksm c st) := by
  unfold zksm; split
  · exact zTg1_a (by decide)
  · exact zTg1_a (by decide)
theorem zkaf_ok (h : ∀ T, T ∈ st → zTg1 T ∧ ztdep T ≤ 8) (c : Nat) : (∀ U, U ∈ zkaf c st → zTg1 U) ∧ (∀ U, U ∈ (zkaf c st).drop 1 → ztdep U ≤ 8) := by
  have hd : ∀ k, ∀ T, T ∈ st.drop k → zTg1 T ∧ ztdep T ≤ 8 := fun k T hT => h T (List.mem_of_mem_drop hT)
  have z0 := zkat_in h 0
  have z1 := zkat_in h 1
  have sw := zkok_cons z1.1 (l := zkat st 0 :: st.drop 2) (fun T hT => by
    rcases List.mem_cons.mp hT with rfl | z
    · exact z0
    · exact hd 2 T z)
  unfold zkaf
  have zite : ∀ {c : Prop} [Decidable c] {a b : List Term}, ((∀ U, U ∈ a → zTg1 U) ∧ (∀ U, U ∈ a.drop 1 → ztdep U ≤ 8)) → ((∀ U, U ∈ b → zTg1 U) ∧ (∀ U, U ∈ b.drop 1 → ztdep U ≤ 8)) → ((∀ U, U ∈ (if c then a else b) → zTg1 U) ∧ (∀ U, U ∈ (if c then a else b).drop 1 → ztdep U ≤ 8)) := by
    intro c _ a b h1 h2
    by_cases hc : c
    · rw [if_pos hc]; exact h1
    · rw [if_neg hc]; exact h2
  exact zite (zkok_cons z0.1 h) (zite (sw) (zite (zkok_cons (zTg1_a (by decide)) h) (zite (zkok_cons (zTg1_p z0.1 z1.1 (by decide)) (hd 2)) (zite (zkok_cons (zTg1_1 z0.1) (hd 1)) (zite (zkok_cons (zTg1_2 z0.1) (hd 1)) (zite (zkok_cons (zTg1_o z0.1 (by decide)) (hd 1)) (zite (zkok_cons (zTg1_a (by decide)) (hd 1)) (zite (zkok_cons (zTg1_o (zTg1_2 z1.1) (by decide)) (hd 2)) (zite (zkok_self (hd 2)) (zite (zkok_cons (zTg1_a (by decide)) (hd 2)) (zite (zkok_self h) (zite (zkok_cons (zksm_c c st) (hd 2)) (zite (zkok_cons (zTg1_o (zTg1_p (zksm_c c st) (zTg1_a (by decide)) (by decide)) (by decide)) (hd 2)) (zite (zkok_cons (zTg1_a (by decide)) (hd 1)) (zite (zkok_cons (zTg1_o (zTg1_a (by decide)) (by decide)) (hd 1)) (zite (zkok_cons (zTg1_a (by decide)) (hd 2)) (zite (zkok_cons (zTg1_a (by decide)) (hd 1)) (zkok_self (hd 1)))))))))))))))))))
theorem zkty_ok (hg : zGd N) (h : ∀ T, T ∈ st → zTg1 T ∧ ztdep T ≤ 8) (hk : zkty N j c st = .inr l) : (∀ U, U ∈ l → zTg1 U) ∧ (∀ U, U ∈ l.drop 1 → ztdep U ≤ 8) := by
  have hd : ∀ T, T ∈ st.drop 1 → zTg1 T ∧ ztdep T ≤ 8 := fun T hT => h T (List.mem_of_mem_drop hT)
  have z0 := zkat_in h 0
  have ty : ∀ i T, zTy N i 0 = .inr T → zTg1 T := fun i T hT => ⟨(zTy_ok hg.1.1 N.length i 0 T (by omega) hT).1, zTy_ts hg.1.1 N.length i 0 T (by omega) hT⟩
  unfold zkty at hk
  cases hT : zTy N (j + 1) 0 with
  | inl p => rw [hT] at hk; cases hk
  | inr T =>
    have tt := ty _ T hT
    rw [hT] at hk
    dsimp only at hk
    split at hk
    · cases hm : zMi N (znx N (j + 1)) false T with
      | some p => rw [hm] at hk; cases hk
      | none => rw [hm] at hk; cases hk; exact zkok_cons tt h
    · split at hk
      · cases hk; exact zkok_cons (zTg1_o tt (by decide)) h
      · split at hk
        · cases hk; exact zkok_cons (zTg1_p z0.1 tt (by decide)) hd
        · split at hk
          · cases hk; exact zkok_cons (zTg1_p tt z0.1 (by decide)) hd
          · split at hk
            · cases hk; exact zkok_cons (zTg1_o tt (by decide)) h
            · split at hk
              · rename_i hs
                cases hU : zTy N (znx N (j + 1)) 0 with
                | inl p => rw [hU] at hk; cases hk
                | inr U => rw [hU] at hk; cases hk; exact zkok_cons (zTg1_m tt (ty _ U hU) hs) h
              · cases hk
theorem zkf1_ok (h : zkok held st) (hr : zkrd c st held = true) (hc : c = 58 ∨ c = 41 ∨ c = 44 ∨ c = 47) : zkok held (zkf1 c st) ∧ zkok held (zkf2 c st) := by
  have hd : ∀ T, T ∈ st.drop 1 → zTg1 T ∧ ztdep T ≤ 8 := fun T hT => h.2 T (List.mem_of_mem_drop hT)
  have z0 := zkat_in h.2 0
  have hl := h.1
  have t1 : zTg1 (zt1 (zkat st 0)) ∧ ztdep (zt1 (zkat st 0)) ≤ 8 := ⟨zTg1_1 z0.1, Nat.le_trans zt1_dep z0.2⟩
  have t2 : zTg1 (zt2 (zkat st 0)) ∧ ztdep (zt2 (zkat st 0)) ≤ 8 := ⟨zTg1_2 z0.1, Nat.le_trans zt2_dep z0.2⟩
  have hs : ∀ k, zkhs st 0 k = true → 0 < st.length := fun k hk => by unfold zkhs at hk; simp at hk; exact hk.1
  have con : ∀ {T : Term} {l : List Term}, zTg1 T ∧ ztdep T ≤ 8 → (∀ T, T ∈ l → zTg1 T ∧ ztdep T ≤ 8) → ∀ U, U ∈ T :: l → zTg1 U ∧ ztdep U ≤ 8 := fun ht hh U hU => by
    rcases List.mem_cons.mp hU with rfl | z
    · exact ht
    · exact hh U z
  have dl : (st.drop 1).length = st.length - 1 := List.length_drop
  rcases hc with rfl | rfl | rfl | rfl
  · exact ⟨⟨by show (st.drop 1).length + held ≤ 12; omega, hd⟩, ⟨by show (st.drop 1).length + held ≤ 12; omega, hd⟩⟩
  · have := hs 6 hr
    exact ⟨⟨by show (st.drop 1).length + held ≤ 12; omega, hd⟩, ⟨by show (st.drop 1).length + 1 + held ≤ 12; omega, con t1 hd⟩⟩
  · have := hs 7 hr
    exact ⟨⟨by show (st.drop 1).length + 1 + held ≤ 12; omega, con t1 hd⟩, ⟨by show (st.drop 1).length + 1 + held ≤ 12; omega, con t2 hd⟩⟩
  · have hr' : (zkhs st 0 8 && decide (st.length + held < 12)) = true := hr
    simp at hr'
    exact ⟨⟨by show st.length + 1 + held ≤ 12; omega, con t1 h.2⟩, ⟨by show (st.drop 1).length + held ≤ 12; omega, hd⟩⟩
theorem zkbg_ok (h : zkok held st) (hr : zkrd c st held = true) (hc : c = 49 ∨ c = 50 ∨ c = 59) : zkok held (zkbg c st) ∧ 0 < st.length := by
  have hd : ∀ T, T ∈ st.drop 1 → zTg1 T ∧ ztdep T ≤ 8 := fun T hT => h.2 T (List.mem_of_mem_drop hT)
  have z0 := zkat_in h.2 0
  have hl := h.1
  have hs : ∀ k, zkhs st 0 k = true → 0 < st.length := fun k hk => by unfold zkhs at hk; simp at hk; exact hk.1
  have dl : (st.drop 1).length = st.length - 1 := List.length_drop
  have h0 : 0 < st.length := by
    rcases hc with rfl | rfl | rfl
    · rcases Bool.or_eq_true _ _ |>.mp hr with w | w
      · exact hs 8 w
      · exact hs 9 w
    · exact hs 8 hr
    · exact hs 1 hr
  refine ⟨⟨?_, ?_⟩, h0⟩
  · unfold zkbg
    split
    · omega
    · show (st.drop 1).length + 1 + held ≤ 12; omega
  · unfold zkbg
    split
    · exact hd
    · intro U hU
      rcases List.mem_cons.mp hU with rfl | z
      · split
        · rename_i h9
          refine ⟨zTg1_p (zTg1_1 z0.1) (zTg1_2 z0.1) (by decide), ?_⟩
          have hk := z0.1.1
          have hdp := z0.2
          generalize zkat st 0 = T at h9 hk hdp
          unfold zTok at hk
          split at hk
          · have : _ = 9 := h9; exact absurd this (by rename_i q; intro z; have : q = 9 := z; omega)
          · rename_i q _; have : q = 9 := h9; omega
          · exact hdp
          · exact hk.elim
        · exact ⟨zTg1_1 z0.1, Nat.le_trans zt1_dep z0.2⟩
      · exact hd U z
theorem zkpo_ok {p a' b' : Nat} {s : zkcs} {o : Option (List Term)} (h : ∀ l, s.1 = some l → (∀ U, U ∈ l → zTg1 U) ∧ (∀ U, U ∈ l.drop 1 → ztdep U ≤ 8)) (hb : s.2.2 ≤ 12) (hp : zkpo p held s = .inr (o, a', b')) : b' ≤ 12 ∧ a' = s.2.1 ∧ ∀ l, o = some l → zkok held l := by
  obtain ⟨s1, s2, s3⟩ := s
  unfold zkpo at hp
  cases s1 with
  | none => cases hp; exact ⟨hb, rfl, fun l z => by cases z⟩
  | some st =>
    dsimp only at hp
    split at hp
    · rename_i hc
      cases hp
      refine ⟨by have := hc.1; have : s3 ≤ 12 := hb; omega, rfl, fun l z => ?_⟩
      cases z
      refine ⟨hc.1, fun T hT => ⟨(h _ rfl).1 T hT, ?_⟩⟩
      cases st with
      | nil => cases hT
      | cons U r =>
        rcases List.mem_cons.mp hT with rfl | z
        · exact hc.2
        · exact (h _ rfl).2 T z
    · cases hp
/-- what a row of code leaves -/
def zkbo (N : List zNt) (i : Nat) : Prop := ∀ st held a b o a' b', zkok held st → b ≤ 12 → zkbl N i st held a b = .inr (o, a', b') → b' ≤ 12 ∧ a ≤ a' ∧ a' + 1 ≤ a + (znx N i - i) ∧ ∀ l, o = some l → zkok held l
theorem zkin_ok' (hg : zGd N) (he : N[j]? = some e) (IH : ∀ i, j < i → i < N.length → zkbo N i) {a' b' : Nat} {o : Option (List Term)} (hs : zkok held st) (hb : b ≤ 12) (hir : (zkI e && zkrd (eC e) st held) = true) (h : (match zkE N (zkbl N) j e st held (a + 1) b with
        | .inl p => (.inl p : Nat ⊕ zkcs)
        | .inr s' => zkpo (eF e) held s') = .inr (o, a', b')) : b' ≤ 12 ∧ a ≤ a' ∧ a' ≤ a + (znx N j - j) ∧ ∀ l, o = some l → zkok held l := by
  obtain ⟨hI, hrd⟩ := Bool.and_eq_true _ _ |>.mp hir
  obtain ⟨i1, i2, i3, i4⟩ := zkI_ok hI
  have hkk := zGd_k hg he
  have hjl := (List.getElem?_eq_some_iff.mp he).1
  have hjz := zful_lt (hg.2.2 j hjl)
  cases hE : zkE N (zkbl N) j e st held (a + 1) b with
  | inl p => rw [hE] at h; cases h
  | inr s =>
    rw [hE] at h
    dsimp only at h
    -- the parts
    have k1 : 0 < eM e → j + 1 < N.length ∧ znx N (j + 1) ≤ znx N j ∧ j + 1 < znx N (j + 1) := fun hm => by
      have := zchn_lt _ _ _ (j + 1) hkk (List.mem_of_getElem? (zchn_kid (N := N) (i := j) (k := 0) hm (by decide)))
      have := zful_lt this.2.2.1
      omega
    have k2 : 1 < eM e → znx N (j + 1) < N.length ∧ znx N (znx N (j + 1)) ≤ znx N j ∧ znx N (j + 1) < znx N (znx N (j + 1)) := fun hm => by
      have := zchn_lt _ _ _ (znx N (j + 1)) hkk (List.mem_of_getElem? (zchn_kid (N := N) (i := j) (k := 1) hm (by decide)))
      have := zful_lt this.2.2.1
      omega
    have main : s.2.2 ≤ 12 ∧ a ≤ s.2.1 ∧ s.2.1 ≤ a + (znx N j - j) ∧ ∀ l, s.1 = some l → (∀ U, U ∈ l → zTg1 U) ∧ (∀ U, U ∈ l.drop 1 → ztdep U ≤ 8) := by
      unfold zkE at hE
      split at hE
      · rename_i hc
        have hm : 0 < eM e := by rw [i4, hc]; decide
        have q1 := k1 hm
        rw [hc] at hrd
        have h0 : 1 ≤ st.length := of_decide_eq_true hrd
        cases hb1 : zkbl N (j + 1) (st.drop 1) (held + 1) (a + 1) b with
        | inl p => rw [hb1] at hE; cases hE
        | inr s1 =>
          obtain ⟨o1, a1, b1⟩ := s1
          rw [hb1] at hE
          obtain ⟨r1, r2, r3, r4⟩ := IH (j + 1) (by omega) q1.1 (st.drop 1) (held + 1) (a + 1) b o1 a1 b1 ⟨by rw [List.length_drop]; have := hs.1; omega, fun T hT => hs.2 T (List.mem_of_mem_drop hT)⟩ hb hb1
          cases o1 with
          | none => cases hE
          | some l =>
            cases hE
            exact ⟨r1, by show a ≤ a1; omega, by show a1 ≤ _; omega, fun l' z => by cases z; exact zkok_cons (zkat_in hs.2 0).1 (r4 l rfl).2⟩
      · split at hE
        · rename_i hc
          have hm : 1 < eM e := by rw [i4]; rcases hc with q | q | q | q <;> rw [q] <;> decide
          have q1 := k1 (by omega)
          have q2 := k2 hm
          obtain ⟨f1, f2⟩ := zkf1_ok hs hrd hc
          cases hb1 : zkbl N (j + 1) (zkf1 (eC e) st) held (a + 1) b with
          | inl p => rw [hb1] at hE; cases hE
          | inr s1 =>
            obtain ⟨o1, a1, b1⟩ := s1
            rw [hb1] at hE
            dsimp only at hE
            obtain ⟨r1, r2, r3, r4⟩ := IH (j + 1) (by omega) q1.1 _ held (a + 1) b o1 a1 b1 f1 hb hb1
            cases hb2 : zkbl N (znx N (j + 1)) (zkf2 (eC e) st) held a1 b1 with
            | inl p => rw [hb2] at hE; cases hE
            | inr s2 =>
              obtain ⟨o2, a2, b2⟩ := s2
              rw [hb2] at hE
              dsimp only at hE
              obtain ⟨t1, t2, t3, t4⟩ := IH (znx N (j + 1)) (by omega) q2.1 _ held a1 b1 o2 a2 b2 f2 r1 hb2
              unfold zkei at hE
              have fin : ∀ o, (∀ l, o = some l → zkok held l) → s = (o, a2, b2) → s.2.2 ≤ 12 ∧ a ≤ s.2.1 ∧ s.2.1 ≤ a + (znx N j - j) ∧ ∀ l, s.1 = some l → (∀ U, U ∈ l → zTg1 U) ∧ (∀ U, U ∈ l.drop 1 → ztdep U ≤ 8) := by
                rintro o ho rfl
                exact ⟨t1, by show a ≤ a2; omega, by show a2 ≤ _; omega, fun l' z => zkok_self (ho l' z).2⟩
              split at hE
              · cases hE; exact fin _ t4 rfl
              · cases hE; exact fin _ r4 rfl
              · split at hE
                · cases hE; exact fin _ r4 rfl
                · cases hE
        · split at hE
          · rename_i hc
            have hm : 0 < eM e := by rw [i4]; rcases hc with q | q | q <;> rw [q] <;> decide
            have q1 := k1 hm
            obtain ⟨f1, h0⟩ := zkbg_ok hs hrd hc
            cases hb1 : zkbl N (j + 1) (zkbg (eC e) st) held (a + 1) b with
            | inl p => rw [hb1] at hE; cases hE
            | inr s1 =>
              obtain ⟨o1, a1, b1⟩ := s1
              rw [hb1] at hE
              dsimp only at hE
              obtain ⟨r1, r2, r3, r4⟩ := IH (j + 1) (by omega) q1.1 _ held (a + 1) b o1 a1 b1 f1 hb hb1
              have hd : ∀ T, T ∈ st.drop 1 → zTg1 T ∧ ztdep T ≤ 8 := fun T hT => hs.2 T (List.mem_of_mem_drop hT)
              unfold zkrp at hE
              cases o1 with
              | none => cases hE
              | some l =>
                dsimp only at hE
                by_cases h50 : eC e = 50
                · rw [if_pos h50] at hE
                  split at hE
                  · cases hE
                    exact ⟨r1, by show a ≤ a1; omega, by show a1 ≤ _; omega, fun l' z => by cases z; exact zkok_cons (zTg1_o (zkat_in (r4 l rfl).2 0).1 (by decide)) hd⟩
                  · cases hE
                · rw [if_neg h50] at hE
                  by_cases hl : l = (if eC e = 59 then st else st.drop 1)
                  · rw [if_pos hl] at hE
                    cases hE
                    exact ⟨r1, by show a ≤ a1; omega, by show a1 ≤ _; omega, fun l' z => by cases z; exact zkok_self hd⟩
                  · rw [if_neg hl] at hE; cases hE
          · split at hE
            · cases ht : zkty N j (eC e) st with
              | inl p => rw [ht] at hE; cases hE
              | inr l =>
                rw [ht] at hE
                cases hE
                exact ⟨hb, by show a ≤ a + 1; omega, by show a + 1 ≤ _; omega, fun l' z => by cases z; exact zkty_ok hg hs.2 ht⟩
            · split at hE
              · cases hE
                exact ⟨hb, by show a ≤ a + 1; omega, by show a + 1 ≤ _; omega, fun l' z => by cases z⟩
              · cases hE
                exact ⟨hb, by show a ≤ a + 1; omega, by show a + 1 ≤ _; omega, fun l' z => by cases z; exact zkaf_ok hs.2 _⟩
    obtain ⟨m1, m2, m3, m4⟩ := main
    obtain ⟨p1, p2, p3⟩ := zkpo_ok m4 m1 h
    exact ⟨p1, by omega, by omega, p3⟩
theorem zkin_ok (hg : zGd N) (he : N[j]? = some e) (IH : ∀ i, j < i → i < N.length → zkbo N i) {a' b' : Nat} {o : Option (List Term)} (hs : zkok held st) (hb : b ≤ 12) (h : zkin N (zkbl N) held j (some st, a, b) = .inr (o, a', b')) : b' ≤ 12 ∧ a ≤ a' ∧ a' ≤ a + (znx N j - j) ∧ ∀ l, o = some l → zkok held l := by
  unfold zkin at h
  rw [he] at h
  dsimp only at h
  by_cases hir : (zkI e && zkrd (eC e) st held) = true
  · exact zkin_ok' hg he IH hs hb hir (by rw [if_pos hir] at h; exact h)
  · rw [if_neg hir] at h; cases h
theorem zkfo_ok (hg : zGd N) (IH : ∀ i, j < i → i < N.length → zkbo N i) : ∀ (c k k' : Nat) (s s' : zkcs), zfuls N c k k' → j < k → (∀ l, s.1 = some l → zkok held l) → s.2.2 ≤ 12 → zkfo (zkin N (zkbl N) held) (zchn N c k) s = .inr s' → s'.2.2 ≤ 12 ∧ s.2.1 ≤ s'.2.1 ∧ s'.2.1 ≤ s.2.1 + (k' - k) ∧ ∀ l, s'.1 = some l → zkok held l
  | 0, k, k', s, s', hf, hj, hs, hb, h => by
    cases h
    exact ⟨hb, Nat.le_refl _, by omega, hs⟩
  | c + 1, k, k', s, s', hf, hj, hs, hb, h => by
    rw [zchn, zkfo] at h
    have hkl := zful_lt hf.1
    have hle := zfuls_le _ _ _ hf.2
    obtain ⟨ek, hek⟩ : ∃ e, N[k]? = some e := ⟨_, List.getElem?_eq_getElem hkl.1⟩
    obtain ⟨s1, s2, s3⟩ := s
    cases hz : zkin N (zkbl N) held k (s1, s2, s3) with
    | inl p => rw [hz] at h; cases h
    | inr t =>
      rw [hz] at h
      dsimp only at h
      obtain ⟨t1, t2, t3⟩ := t
      cases s1 with
      | none => unfold zkin at hz; rw [hek] at hz; cases hz
      | some l0 =>
        obtain ⟨r1, r2, r3, r4⟩ := zkin_ok hg hek (fun i hi => IH i (by omega)) (hs l0 rfl) hb hz
        obtain ⟨q1, q2, q3, q4⟩ := zkfo_ok hg IH c (znx N k) k' (t1, t2, t3) s' hf.2 (by omega) r4 r1 h
        exact ⟨q1, by show s2 ≤ _; have : t2 ≤ s'.2.1 := q2; omega, by show _ ≤ s2 + _; have : s'.2.1 ≤ t2 + (k' - znx N k) := q3; omega, q4⟩
theorem zkbl_ok (hg : zGd N) : ∀ (n i : Nat), N.length ≤ n + i → i < N.length → zkbo N i
  | 0, i, hn, hi => by omega
  | n + 1, i, hn, hi => by
    intro st held a b o a' b' hs hb h
    obtain ⟨e, he⟩ : ∃ e, N[i]? = some e := ⟨_, List.getElem?_eq_getElem hi⟩
    rw [zkbl_eq hg.1.1] at h
    unfold zkB at h
    rw [he] at h
    dsimp only at h
    split at h
    · have hkk := zGd_k hg he
      have hle := zfuls_le _ _ _ hkk
      obtain ⟨r1, r2, r3, r4⟩ := zkfo_ok (j := i) hg (fun i' h1 h2 => zkbl_ok hg n i' (by omega) h2) _ _ _ _ _ hkk (by omega) (fun l z => by cases z; exact hs) (by show max b _ ≤ 12; have := hs.1; omega) h
      have r2 : a ≤ a' := r2
      have r3 : a' ≤ a + (znx N i - (i + 1)) := r3
      exact ⟨r1, r2, by omega, r4⟩
    · cases h
end CKO
/-! the class's checker: rows of code -/
def zCko (h : zH) (ck s dee : Nat) : Prop := zown h ck = some (.inr (6, [.ref 4, .int (nI s), .int (nI dee)]))
/-- labels of cells that the checker changes -/
def zKm (h : zH) (S : List Nat) : Prop := ∀ k, k ∈ S → (∃ fs, zown h k = some (.inr (1, fs))) ∨ (∃ fs, zown h k = some (.inr (6, fs))) ∨ (∃ vs, zown h k = some (.inl (7, vs)))
def zimm (e : zE) : Bool := match e with
  | .inl (t, _) => t != 7
  | .inr (c, _) => c != 1 && c != 6
theorem zCe_im {S : List Nat} {h h' : zH} {c s : Nat} (H : zCe S h h' c s) (hm : zKm h S) : ∀ k e, zown h k = some e → zimm e = true → zown h' k = some e := by
  intro k e hk hi
  refine H.1 k e (fun z => ?_) hk
  rcases hm k z with ⟨fs, q⟩ | ⟨fs, q⟩ | ⟨vs, q⟩
  · rw [hk] at q; cases q; cases hi
  · rw [hk] at q; cases q; cases hi
  · rw [hk] at q; cases q; cases hi
theorem zimm_nc {e : zE} (h : znc e = true) : zimm e = true := by
  unfold znc at h
  split at h
  · rfl
  · rfl
  · rfl
  · rfl
  · rfl
  · cases h
section BLK
variable {xs : List Value} {d : Nat} {h h' : zH} {Q : zO → zH → Prop} {a b c i j t u ck f D held s dee c1 s1 : Nat} {st L : List Term} {T U : Term} {N : List zNt} {e : zNt} {w : Int32} {S : List Nat}
theorem zNd_ce (H : zCe S h h' c1 s1) (hm : zKm h S) (hn : zNd h N f i a) : zNd h' N f i a := zNd_fr (fun k e hk hc => zCe_im H hm k e hk (zimm_nc hc)) f i a hn
theorem zTyp_ce (H : zCe S h h' c1 s1) (hm : zKm h S) (ht : zTyp h T a) : zTyp h' T a := zTyp_fr (fun k fs q => zCe_im H hm k _ q rfl) T a ht
theorem zStk_ce (H : zCe S h h' c1 s1) (hm : zKm h S) (hs : zStk h L b) : zStk h' L b := zStk_fr (fun k fs q => zCe_im H hm k _ q rfl) (fun k fs q => zCe_im H hm k _ q rfl) L b hs
theorem zSto_ce {o : Option (List Term)} (H : zCe S h h' c1 s1) (hm : zKm h S) (hs : zSto h o b) : zSto h' o b := zSto_fr (fun k fs q => zCe_im H hm k _ q rfl) (fun k fs q => zCe_im H hm k _ q rfl) o b hs
theorem zSfr_ce {lb : Nat} (H : zCe S h h' c1 s1) (hm : zKm h S) (hl : ∀ k, k ∈ S → ∀ vs, zown h k = some (.inl (7, vs)) → k < lb) : zSfr lb h h' := ⟨fun k fs q => zCe_im H hm k _ q rfl, fun k vs hk q => H.1 k _ (fun z => by have := hl k z vs q; omega) q, fun k e q hv => zCe_im H hm k e q (zimm_nc (znc_v hv))⟩
theorem zStR_f2 {lb lb' r : Nat} (H : zSfr lb h h') (hl : lb' ≤ lb) (hr : ∀ vs, zown h r = some (.inl (7, vs)) → zown h' r = some (.inl (7, vs))) (hs : zStR h N (zStp lb h N f) i st held a b r) : zStR h' N (zStp lb' h' N f) i st held a b r := by
  obtain ⟨e, ls, g1, g2, g3⟩ := hs
  exact ⟨e, ls, g1, hr _ g2, zStL_mono (zStp_fr H hl f) _ _ _ g3⟩
/-- what is known of a step's rows -/
def zSb (lb : Nat) (h : zH) (N : List zNt) (f j : Nat) (e : zNt) (st : List Term) (held s dee r1 r2 : Nat) : Prop := (eC e = 33 → zStR h N (zStp lb h N f) (j + 1) (st.drop 1) (held + 1) s dee r1) ∧
  (eC e = 58 ∨ eC e = 41 ∨ eC e = 44 ∨ eC e = 47 → zStR h N (zStp lb h N f) (j + 1) (zkf1 (eC e) st) held s dee r1 ∧ ∀ o1 a1 b1, zkbl N (j + 1) (zkf1 (eC e) st) held s dee = .inr (o1, a1, b1) → zStR h N (zStp lb h N f) (znx N (j + 1)) (zkf2 (eC e) st) held a1 b1 r2) ∧
  (eC e = 49 ∨ eC e = 50 ∨ eC e = 59 → zStR h N (zStp lb h N f) (j + 1) (zkbg (eC e) st) held s dee r1)
/-- block's contract -/
def zP56 (xs : List Value) (N : List zNt) (ck f : Nat) : Prop := ∀ (i a r b D : Nat) (st : List Term) (held s dee : Nat) (h : zH) (Q : zO → zH → Prop) (w : Int32), zNd h N f i a → 40 + 8 * f ≤ D → zStk h st b → zkok held st → zown h r = some (.inl (7, List.replicate (zrsz N i) .null)) → zCko h ck s dee → dee ≤ 12 → zB4 h w →
  (∀ p, zkbl N i st held s dee = .inl p → ∀ h', zCe [4, ck, r] h h' (40 * (znx N i - i)) (300 * (znx N i - i)) → zB4 h' (nI p) → Q (.inr 2) h') →
  (∀ o s' dee', zkbl N i st held s dee = .inr (o, s', dee') → ∀ h' b', zCe [ck, r] h h' (40 * (znx N i - i)) (300 * (znx N i - i)) → zCko h' ck s' dee' → zB4 h' w → zSto h' o b' → zStR h' N (zStp (h.1.length + zK0) h' N f) i st held s dee r → Q (.inl (some (.ref b'))) h') →
  zG xs D (56, 0, lv_args 0 [zo (some ck), zo (some a), zo (some r), zo (some b), .int (nI held)], []) h Q
theorem zCko_k (hc : zCko h ck s dee) : zCk h ck := ⟨_, _, hc⟩
theorem zCko_ex {c s' : Nat} (hc : zCko h ck s dee) (e : zEx h h' c s') : zCko h' ck s dee := e.1 _ _ hc
theorem zkdp (hs : zkok held st) : ∀ i, ztdep (zkat st i) ≤ 9 := fun i => by have := (zkat_in hs.2 i).2; omega
/-- the step, ahead of its rows -/
def zStep (h : zH) (N : List zNt) (j : Nat) (e : zNt) (sl r1 r2 : Nat) : Prop := (∃ x y z, zown h sl = some (.inr (9, [x, y, z, .ref r1, .ref r2]))) ∧ r1 ≠ r2 ∧ (0 < eM e → zown h r1 = some (.inl (7, List.replicate (zrsz N (j + 1)) .null))) ∧ (1 < eM e → zown h r2 = some (.inl (7, List.replicate (zrsz N (znx N (j + 1))) .null)))
theorem zc71 {sl r1 r2 : Nat} (IH : zP56 xs N ck f) (hg : zGd N) (hn : zNd h N (f + 1) j a) (he : N[j]? = some e) (hI : zkI e = true) (hc : eC e = 58 ∨ eC e = 41 ∨ eC e = 44 ∨ eC e = 47) (hrd : zkrd (eC e) st held = true) (hs : zStk h st b) (hok : zkok held st) (hck : zCko h ck s dee) (hdee : dee ≤ 12) (hb4 : zB4 h w) (hst : zStep h N j e sl r1 r2) (hD : 44 + 8 * f ≤ D)
    (k0 : ∀ p, zkE N (zkbl N) j e st held s dee = .inl p → ∀ h', zCe [4, ck, r1, r2] h h' (40 * (znx N j - j) - 12) (300 * (znx N j - j) - 130) → zB4 h' (nI p) → Q (.inr 2) h')
    (k1 : ∀ o s' d', zkE N (zkbl N) j e st held s dee = .inr (o, s', d') → ∀ h' b', zCe [ck, r1, r2] h h' (40 * (znx N j - j) - 12) (300 * (znx N j - j) - 130) → zCko h' ck s' d' → zB4 h' w → zSto h' o b' → zSb (h.1.length + zK0) h' N f j e st held s dee r1 r2 → Q (.inl (some (.ref b'))) h') : zG xs D (71, 0, lv_args 0 [zo (some ck), zo (some a), zo (some sl), zo (some b), .int (nI held)], []) h Q := by
  obtain ⟨i1, i2, i3, i4⟩ := zkI_ok hI
  obtain ⟨n1, n2, n3, n4, _⟩ := hg.1.2 j e he
  obtain ⟨d, rfl⟩ : ∃ d, D = d + 16 := ⟨D - 16, by omega⟩
  have hl := hok.1
  have hm : 1 < eM e := by rw [i4]; rcases hc with q | q | q | q <;> rw [q] <;> decide
  have hkk := zGd_k hg he
  have hc1 := zchn_lt _ _ _ (j + 1) hkk (List.mem_of_getElem? (zchn_kid (N := N) (i := j) (k := 0) (by omega) (by decide)))
  have hc2 := zchn_lt _ _ _ (znx N (j + 1)) hkk (List.mem_of_getElem? (zchn_kid (N := N) (i := j) (k := 1) hm (by decide)))
  have hl1 := zful_lt hc1.2.2.1
  have hl2 := zful_lt hc2.2.2.1
  obtain ⟨ok1, ok2⟩ := zkf1_ok hok hrd hc
  obtain ⟨⟨sx, sy, sz, hso⟩, hr12, hr1, hr2⟩ := hst
  have hr1 := hr1 (by omega)
  have hr2 := hr2 hm
  have hE : zkE N (zkbl N) j e st held s dee = (match zkbl N (j + 1) (zkf1 (eC e) st) held s dee with
    | .inl p => .inl p
    | .inr (o1, a, b) => (match zkbl N (znx N (j + 1)) (zkf2 (eC e) st) held a b with
      | .inl p => .inl p
      | .inr (o2, a, b) => zkei (eF e) o1 o2 a b)) := by
    unfold zkE
    rw [if_neg (by omega), if_pos hc]
    first | done | rfl
  have hFp : zFp N j = eF e := by unfold zFp; rw [he]
  have k102 : ∀ h2 l7 l8, zEx h h2 5 20 → zStk h2 (zkf1 (eC e) st) l7 → zStk h2 (zkf2 (eC e) st) l8 → zw_71_102 xs (d + 16) Q (some ck) (some a) (some sl) (nI held) (some l7) (some l8) h2 := by
    intro h2 l7 l8 e2 s7 s8
    have hnA := zNd_ex hn e2
    obtain ⟨fsA, hoA⟩ := zNd_own hnA
    refine zX_cv hoA (zc46k (k := 0) hnA he (by omega) (by decide) (by omega) (fun p1 hp1 => zKR_v (zX_gr (e2.1 _ _ hso) rfl (zX_cv (zCko_ex hck e2) (IH (j + 1) p1 r1 l7 (d + 15) _ held s dee h2 _ w hp1 (by omega) s7 ok1 (e2.1 _ _ hr1) (zCko_ex hck e2) hdee (zB4_ex hb4 e2) (fun p hp h3 x3 b3 => ?_) (fun o1 s1 d1 hb1 h3 b1 x3 ck3 w3 t3 R3 => zKR_v ?_))))))
    · refine k0 p (by rw [hE, hp]) h3 (zCe_le (zCe_trans (U := [4, ck, r1, r2]) (zCe_ex (S := []) e2) x3 (by simp) (fun k hk => Or.inl (by simp at hk; rcases hk with q | q | q <;> simp [q]))) (by omega) (by omega)) b3
    have bo1 := zkbl_ok hg N.length (j + 1) (by omega) hl1.1 _ _ _ _ _ _ _ ok1 hdee hb1
    have m2 : zKm h2 [ck, r1] := fun k hk => by
      simp at hk
      rcases hk with rfl | rfl
      · exact Or.inr (Or.inl ⟨_, zCko_ex hck e2⟩)
      · exact Or.inr (Or.inr ⟨_, e2.1 _ _ hr1⟩)
    have hn3 := zNd_ce x3 m2 hnA
    obtain ⟨fs3, ho3⟩ := zNd_own hn3
    have r2ne : r2 ∉ [ck, r1] := by
      simp
      refine ⟨fun z => ?_, fun z => hr12 z.symm⟩
      rw [z, show zown h ck = _ from hck] at hr2
      cases hr2
    have hr23 : zown h3 r2 = some (.inl (7, List.replicate (zrsz N (znx N (j + 1))) .null)) := x3.1 _ _ r2ne (e2.1 _ _ hr2)
    have s83 := zStk_ce x3 m2 s8
    refine zX_cv ho3 (zc46k (k := 1) hn3 he hm (by decide) (by omega) (fun p2 hp2 => zKR_v (zX_gr (zCe_im x3 m2 _ _ (e2.1 _ _ hso) rfl) rfl (zX_cv ck3 (IH (znx N (j + 1)) p2 r2 l8 (d + 15) _ held s1 d1 h3 _ w hp2 (by omega) s83 ok2 hr23 ck3 bo1.1 w3 (fun p hp h4 x4 b4 => ?_) (fun o2 s2 d2 hb2 h4 b2 x4 ck4 w4 t4 R4 => zKR_v ?_))))))
    · refine k0 p (by rw [hE, hb1]; dsimp only; rw [hp]) h4 (zCe_le (zCe_trans (U := [4, ck, r1, r2]) (zCe_trans (U := [4, ck, r1, r2]) (zCe_ex (S := []) e2) x3 (by simp) (fun k hk => Or.inl (by simp at hk; rcases hk with q | q <;> simp [q]))) x4 (fun k hk => hk) (fun k hk => Or.inl (by simp at hk; rcases hk with q | q | q <;> simp [q]))) (by omega) (by omega)) b4
    have bo2 := zkbl_ok hg N.length (znx N (j + 1)) (by omega) hl2.1 _ _ _ _ _ _ _ ok2 bo1.1 hb2
    have m3 : zKm h3 [ck, r2] := fun k hk => by
      simp at hk
      rcases hk with rfl | rfl
      · exact Or.inr (Or.inl ⟨_, ck3⟩)
      · exact Or.inr (Or.inr ⟨_, hr23⟩)
    have t34 := zSto_ce x4 m3 t3
    have xx : zCe [ck, r1, r2] h h4 (5 + 40 * (znx N (j + 1) - (j + 1)) + 40 * (znx N (znx N (j + 1)) - znx N (j + 1))) (20 + 300 * (znx N (j + 1) - (j + 1)) + 300 * (znx N (znx N (j + 1)) - znx N (j + 1))) := zCe_trans (U := [ck, r1, r2]) (zCe_trans (U := [ck, r1, r2]) (zCe_ex (S := []) e2) x3 (by simp) (fun k hk => Or.inl (by simp at hk; rcases hk with q | q <;> simp [q]))) x4 (fun k hk => hk) (fun k hk => Or.inl (by simp at hk; rcases hk with q | q <;> simp [q]))
    have sb : zSb (h.1.length + zK0) h4 N f j e st held s dee r1 r2 := by
      refine ⟨fun z => by omega, fun _ => ⟨?_, fun o1' a1' b1' hq => ?_⟩, fun z => by omega⟩
      · refine zStR_f2 (zSfr_ce x4 m3 (fun k hk vs hq => ?_)) (by have := e2.2.1; omega) (fun vs hq => x4.1 _ _ (fun z => ?_) hq) R3
        · simp at hk
          rcases hk with rfl | rfl
          · rw [show zown h3 k = _ from ck3] at hq; cases hq
          · exact zown_bd (e2.1 _ _ hr2)
        · simp at z
          rcases z with rfl | z
          · rw [show zown h3 r1 = _ from ck3] at hq; cases hq
          · exact hr12 z
      · rw [hb1] at hq
        cases hq
        refine zStR_f2 (lb := h3.1.length + zK0) ⟨fun _ _ q => q, fun _ _ _ q => q, fun _ _ q _ => q⟩ (by have := e2.2.1; have := x3.2.1; omega) (fun _ q => q) R4
    have hln : ∀ {o : Option (List Term)}, (∀ l, o = some l → zkok held l) → ∀ L, o = some L → L.length < 1000 := fun ho L hL => by have := (ho L hL).1; omega
    have bn : ∀ {o : Option (List Term)} {bb : Nat}, zSto h4 o bb → ∃ fs, zown h4 bb = some (.inr (8, fs)) := by
      intro o bb ho
      cases o with
      | none => exact ⟨_, ho⟩
      | some L => obtain ⟨p, q, h⟩ := zStk_at ho; exact ⟨_, h⟩
    obtain ⟨fb1, hb1o⟩ := bn t34
    obtain ⟨fb2, hb2o⟩ := bn t4
    -- the end, with the flag
    have hn4 := zNd_ce x4 m3 hn3
    have fin : ∀ k : Bool, (k = true → zkE N (zkbl N) j e st held s dee = .inr (if o1.isNone then o2 else o1, s2, d2)) → (k = false → zkE N (zkbl N) j e st held s dee = .inl (eF e)) → zw_71_172 xs (d + 16) Q (some a) (some b1) (some b2) (zB k) (some ck) h4 := by
      intro k hk1 hk0
      refine zNd_gF hn4 (zX_cv ck4 (zc49 (d := d + 15) (by omega) (zCko_k ck4) w4 (fun hk => zKV_v (zX_cv hb1o (zc57 t34 (hln bo1.2.2.2) (zKI_v ⟨fun z => ?_, fun z => ?_⟩)))) (fun hk h5 x5 b5 => ?_)))
      · have hnn := zB_0.mp z
        refine k1 _ _ _ (hk1 hk) h4 b1 (zCe_le xx (by omega) (by omega)) ck4 w4 ?_ sb
        rw [hnn]; exact t34
      · have hnn := zBt z
        refine k1 _ _ _ (hk1 hk) h4 b2 (zCe_le xx (by omega) (by omega)) ck4 w4 ?_ sb
        rw [hnn]; exact t4
      · rw [hFp] at b5
        refine k0 _ (hk0 hk) h5 (zCe_le (zCe_trans (U := [4, ck, r1, r2]) xx x5 (fun k hk => List.mem_cons_of_mem _ hk) (fun k hk => Or.inl (by simp at hk; simp [hk]))) (by omega) (by omega)) b5
    have hE2 : zkE N (zkbl N) j e st held s dee = zkei (eF e) o1 o2 s2 d2 := by rw [hE, hb1]; dsimp only; rw [hb2]
    refine zX_cv hb1o (zc57 t34 (hln bo1.2.2.2) (zKI_v ⟨fun z => zX_cv hb2o (zc57 t4 (hln bo2.2.2.2) (zKI_v ⟨fun z2 => ?_, fun z2 => ?_⟩)), fun z => ?_⟩))
    · have g1 := zB_0.mp z
      have g2 := zB_0.mp z2
      cases o1 with
      | none => cases g1
      | some L1 =>
        cases o2 with
        | none => cases g2
        | some L2 =>
          refine ⟨d + 15, rfl, zc72 (d := d + 3) t34 t4 (hln bo1.2.2.2 _ rfl) (hln bo2.2.2.2 _ rfl) (zkdp (bo1.2.2.2 _ rfl)) (zKI_v ⟨fun z3 => ?_, fun z3 => ?_⟩)⟩
          · refine fin false (fun q => by cases q) (fun _ => ?_)
            rw [hE2]
            have := zB_0.mp z3
            unfold zkei
            dsimp only
            rw [if_neg (of_decide_eq_false this)]
          · refine fin true (fun _ => ?_) (fun q => by cases q)
            rw [hE2]
            have := zBt z3
            unfold zkei
            dsimp only
            rw [if_pos (of_decide_eq_true this)]
            rfl
    · have g1 := zB_0.mp z
      have g2 := zBt z2
      refine fin true (fun _ => ?_) (fun q => by cases q)
      rw [hE2]
      cases o1 with
      | none => cases g1
      | some L1 =>
        cases o2 with
        | none => rfl
        | some L2 => cases g2
    · have g1 := zBt z
      refine fin true (fun _ => ?_) (fun q => by cases q)
      rw [hE2]
      cases o1 with
      | none => rfl
      | some L1 => cases g1
  refine zm_71 (zatt (d := d + 14) 0 hs (by omega) (by decide) (fun h1 t1 e1 tt1 => zdrp (d := d + 15) 1 (zStk_ex hs e1) (by decide) (fun rb sR => zNd_gC (zNd_ex hn e1) he ?_)))
  rw [if_pos i1]
  have sL := zStk_ex hs e1
  refine pk_eq (eC e) 41 (fun z => ?_) (fun z => zNd_gC (zNd_ex hn e1) he ?_)
  · refine ztpa (d := d + 15) tt1 (fun u tu => zpsh (d := d + 14) sR tu (fun h2 a2 e2 s2 => k102 h2 rb a2 (zEx_le (zEx_trans e1 e2) (by omega) (by omega)) ?_ ?_))
    · rw [z]; exact zStk_ex sR e2
    · rw [z]; exact s2
  rw [if_pos i1]
  refine pk_eq (eC e) 44 (fun z2 => ?_) (fun z2 => zNd_gC (zNd_ex hn e1) he ?_)
  · refine ztpa (d := d + 15) tt1 (fun u tu => zpsh (d := d + 14) sR tu (fun h2 a2 e2 s2 => ztpb (d := d + 15) (zTyp_ex tt1 e2) (fun v tv => zpsh (d := d + 14) (zStk_ex sR e2) tv (fun h3 a3 e3 s3 => k102 h3 a2 a3 (zEx_le (zEx_trans (zEx_trans e1 e2) e3) (by omega) (by omega)) ?_ ?_))))
    · rw [z2]; exact zStk_ex s2 e3
    · rw [z2]; exact s3
  rw [if_pos i1]
  refine pk_eq (eC e) 47 (fun z3 => ?_) (fun z3 => ?_)
  · refine ztpa (d := d + 15) tt1 (fun u tu => zpsh (d := d + 14) sL tu (fun h2 a2 e2 s2 => k102 h2 a2 rb (zEx_le (zEx_trans e1 e2) (by omega) (by omega)) ?_ ?_))
    · rw [z3]; exact s2
    · rw [z3]; exact zStk_ex sR e2
  · have : eC e = 58 := by omega
    refine k102 h1 rb rb (zEx_le e1 (by omega) (by omega)) ?_ ?_
    · rw [this]; exact sR
    · rw [this]; exact sR
end BLK
section BLK2
variable {xs : List Value} {d : Nat} {h h' : zH} {Q : zO → zH → Prop} {a b c i j t u ck f D held s dee c1 s1 : Nat} {st L : List Term} {T U : Term} {N : List zNt} {e : zNt} {w : Int32} {S : List Nat}
theorem zSto_own {o : Option (List Term)} {bb : Nat} (ho : zSto h o bb) : ∃ fs, zown h bb = some (.inr (8, fs)) := by
  cases o with
  | none => exact ⟨_, ho⟩
  | some L => obtain ⟨p, q, h⟩ := zStk_at ho; exact ⟨_, h⟩
theorem zc73 {sl r1 r2 : Nat} (IH : zP56 xs N ck f) (hg : zGd N) (hn : zNd h N (f + 1) j a) (he : N[j]? = some e) (hI : zkI e = true) (hc : eC e = 49 ∨ eC e = 50 ∨ eC e = 59) (hrd : zkrd (eC e) st held = true) (hs : zStk h st b) (hok : zkok held st) (hck : zCko h ck s dee) (hdee : dee ≤ 12) (hb4 : zB4 h w) (hst : zStep h N j e sl r1 r2) (hD : 44 + 8 * f ≤ D)
    (k0 : ∀ p, zkE N (zkbl N) j e st held s dee = .inl p → ∀ h', zCe [4, ck, r1, r2] h h' (40 * (znx N j - j) - 12) (300 * (znx N j - j) - 130) → zB4 h' (nI p) → Q (.inr 2) h')
    (k1 : ∀ o s' d', zkE N (zkbl N) j e st held s dee = .inr (o, s', d') → ∀ h' b', zCe [ck, r1, r2] h h' (40 * (znx N j - j) - 12) (300 * (znx N j - j) - 130) → zCko h' ck s' d' → zB4 h' w → zSto h' o b' → zSb (h.1.length + zK0) h' N f j e st held s dee r1 r2 → Q (.inl (some (.ref b'))) h') : zG xs D (73, 0, lv_args 0 [zo (some ck), zo (some a), zo (some sl), zo (some b), .int (nI held)], []) h Q := by
  obtain ⟨i1, i2, i3, i4⟩ := zkI_ok hI
  obtain ⟨n1, n2, n3, n4, _⟩ := hg.1.2 j e he
  obtain ⟨d, rfl⟩ : ∃ d, D = d + 16 := ⟨D - 16, by omega⟩
  have hl := hok.1
  have hm : 0 < eM e := by rw [i4]; rcases hc with q | q | q <;> rw [q] <;> decide
  have hkk := zGd_k hg he
  have hc1 := zchn_lt _ _ _ (j + 1) hkk (List.mem_of_getElem? (zchn_kid (N := N) (i := j) (k := 0) hm (by decide)))
  have hl1 := zful_lt hc1.2.2.1
  obtain ⟨ok1, h0⟩ := zkbg_ok hok hrd hc
  obtain ⟨⟨sx, sy, sz, hso⟩, hr12, hr1, hr2⟩ := hst
  have hr1 := hr1 hm
  have hE : zkE N (zkbl N) j e st held s dee = (match zkbl N (j + 1) (zkbg (eC e) st) held s dee with
    | .inl p => .inl p
    | .inr (o, a, b) => zkrp (eF e) (eC e) st o a b) := by
    unfold zkE
    rw [if_neg (by omega), if_neg (by omega), if_pos hc]
    first | done | rfl
  have hFp : zFp N j = eF e := by unfold zFp; rw [he]
  have k65 : ∀ h2 l6 l7, zEx h h2 5 25 → zStk h2 (st.drop 1) l6 → zStk h2 (zkbg (eC e) st) l7 → zw_73_65 xs (d + 16) Q (some ck) (some a) (some sl) (some b) (nI held) (some l6) (some l7) h2 := by
    intro h2 l6 l7 e2 s6 s7
    have hnA := zNd_ex hn e2
    obtain ⟨fsA, hoA⟩ := zNd_own hnA
    refine zX_cv hoA (zc46k (k := 0) hnA he hm (by decide) (by omega) (fun p1 hp1 => zKR_v (zX_gr (e2.1 _ _ hso) rfl (zX_cv (zCko_ex hck e2) (IH (j + 1) p1 r1 l7 (d + 15) _ held s dee h2 _ w hp1 (by omega) s7 ok1 (e2.1 _ _ hr1) (zCko_ex hck e2) hdee (zB4_ex hb4 e2) (fun p hp h3 x3 b3 => ?_) (fun o1 s1 d1 hb1 h3 b1 x3 ck3 w3 t3 R3 => zKR_v ?_))))))
    · refine k0 p (by rw [hE, hp]) h3 (zCe_le (zCe_trans (U := [4, ck, r1, r2]) (zCe_ex (S := []) e2) x3 (by simp) (fun k hk => Or.inl (by simp at hk; rcases hk with q | q | q <;> simp [q]))) (by omega) (by omega)) b3
    have bo1 := zkbl_ok hg N.length (j + 1) (by omega) hl1.1 _ _ _ _ _ _ _ ok1 hdee hb1
    have m2 : zKm h2 [ck, r1] := fun k hk => by
      simp at hk
      rcases hk with rfl | rfl
      · exact Or.inr (Or.inl ⟨_, zCko_ex hck e2⟩)
      · exact Or.inr (Or.inr ⟨_, e2.1 _ _ hr1⟩)
    have hn3 := zNd_ce x3 m2 hnA
    have xx : zCe [ck, r1, r2] h h3 (5 + 40 * (znx N (j + 1) - (j + 1))) (25 + 300 * (znx N (j + 1) - (j + 1))) := zCe_trans (U := [ck, r1, r2]) (zCe_ex (S := []) e2) x3 (by simp) (fun k hk => Or.inl (by simp at hk; rcases hk with q | q <;> simp [q]))
    have sb : ∀ {h5 c' s'}, zEx h3 h5 c' s' → zSb (h.1.length + zK0) h5 N f j e st held s dee r1 r2 := by
      intro h5 c' s' e5
      refine ⟨fun z => by omega, fun z => by omega, fun _ => ?_⟩
      exact zStR_f2 (lb := h2.1.length + zK0) ⟨fun _ _ q => e5.1 _ _ q, fun _ _ _ q => e5.1 _ _ q, fun _ _ q _ => e5.1 _ _ q⟩ (by have := e2.2.1; omega) (fun _ q => e5.1 _ _ q) R3
    have s63 := zStk_ce x3 m2 s6
    have sB3 := zStk_ce x3 m2 (zStk_ex hs e2)
    have hE2 : zkE N (zkbl N) j e st held s dee = zkrp (eF e) (eC e) st o1 s1 d1 := by rw [hE, hb1]
    obtain ⟨fb1, hb1o⟩ := zSto_own t3
    have good : ∀ {o h5 bb c' s'}, zEx h3 h5 c' s' → c' ≤ 5 → s' ≤ 30 → zkE N (zkbl N) j e st held s dee = .inr (o, s1, d1) → zSto h5 o bb → Q (.inl (some (.ref bb))) h5 := by
      intro o h5 bb c' s' e5 l1 l2 hk ho
      exact k1 _ _ _ hk h5 bb (zCe_le (zCe_trans (U := [ck, r1, r2]) xx (zCe_ex (S := []) e5) (fun k hk => hk) (by simp)) (by omega) (by omega)) (zCko_ex ck3 e5) (zB4_ex w3 e5) ho (sb e5)
    have req : ∀ (k : Bool) {K : zH → Prop} {h5 : zH} {c' s' : Nat}, zEx h3 h5 c' s' → c' ≤ 4 → s' ≤ 24 → (k = true → K h5) → (k = false → zkE N (zkbl N) j e st held s dee = .inl (eF e)) → zGI (some a) 4 0 h5 fun x1 => zCV xs (d + 16) 49 6 (some ck) [.int (zB k), .int x1] h5 (zKV K (fun e h => Q (.inr e) h)) := by
      intro k K h5 c' s' e5 l1 l2 g1 g0
      refine zNd_gF (zNd_ex hn3 e5) (zX_cv (zCko_ex ck3 e5) (zc49 (d := d + 15) (by omega) (zCko_k (zCko_ex ck3 e5)) (zB4_ex w3 e5) (fun hk => zKV_v (g1 hk)) (fun hk h6 x6 b6 => ?_)))
      rw [hFp] at b6
      exact k0 _ (g0 hk) h6 (zCe_le (zCe_trans (U := [4, ck, r1, r2]) (zCe_trans (U := [ck, r1, r2]) xx (zCe_ex (S := []) e5) (fun k hk => hk) (by simp)) x6 (fun k hk => List.mem_cons_of_mem _ hk) (fun k hk => Or.inl (by simp at hk; simp [hk]))) (by omega) (by omega)) b6
    have e3r : zEx h3 h3 0 0 := zEx_refl h3
    refine zX_cv hb1o (zc57 t3 (fun L hL => by have := (bo1.2.2.2 L hL).1; omega) (zKI_v ?_))
    cases o1 with
    | none =>
      refine ⟨fun z => absurd z (by decide), fun _ => req false e3r (by omega) (by omega) (fun q => by cases q) (fun _ => hE2)⟩
    | some l =>
      refine ⟨fun _ => req true e3r (by omega) (by omega) (fun _ => ?_) (fun q => by cases q), fun z => absurd rfl z⟩
      have okl := bo1.2.2.2 l rfl
      have hll := okl.1
      have tl : zStk h3 l b1 := t3
      obtain ⟨pl, ql, hol⟩ := zStk_at tl
      obtain ⟨pb, qb, hob⟩ := zStk_at sB3
      have hE3 : zkE N (zkbl N) j e st held s dee = (if eC e = 50 then (if l.length = st.length ∧ l.drop 1 = st.drop 1 then .inr (some (.div (.arg 8) (zkat l 0) :: st.drop 1), s1, d1) else .inl (eF e))
        else if l = (if eC e = 59 then st else st.drop 1) then .inr (some (st.drop 1), s1, d1) else .inl (eF e)) := hE2
      refine zNd_gC hn3 he ?_
      rw [if_pos i1]
      refine pk_eq (eC e) 50 (fun z => ?_) (fun z => ?_)
      · rw [if_pos z] at hE3
        have k145 : (¬ (l.length = st.length ∧ l.drop 1 = st.drop 1)) → zw_73_145 xs (d + 16) Q (some a) (some l6) (some b1) (some ck) h3 := by
          intro hne
          rw [if_neg hne] at hE3
          exact req false e3r (by omega) (by omega) (fun q => by cases q) (fun _ => hE3)
        refine zX_gi hol rfl (zX_gi hob rfl (pk_eq l.length st.length (fun z2 => ?_) (fun z2 => k145 (fun q => z2 q.1))))
        refine zdrp (d := d + 15) 1 tl (by decide) (fun rl sl' => ⟨d + 15, rfl, zc72 (d := d + 3) sl' s63 (by rw [List.length_drop]; omega) (by rw [List.length_drop]; omega) (fun m => ?_) (zKI_v ⟨fun z3 => k145 (fun q => ?_), fun z3 => ?_⟩)⟩)
        · have := (zkat_in (fun T hT => okl.2 T (List.mem_of_mem_drop hT)) m (st := l.drop 1)).2
          omega
        · exact of_decide_eq_false (zB_0.mp z3) q.2
        · have heq : l.drop 1 = st.drop 1 := of_decide_eq_true (zBt z3)
          rw [if_pos ⟨z2, heq⟩] at hE3
          refine req true e3r (by omega) (by omega) (fun _ => ?_) (fun q => by cases q)
          have h9 := (zkat_in okl.2 0).2
          refine zatt (d := d + 14) 0 tl (by omega) (by decide) (fun h5 t5 e5 tt5 => zty1 (d := d + 14) 8 tt5 (Or.inr rfl) (by omega) (fun h6 t6 e6 tt6 => zpsh (d := d + 14) (zStk_ex (zStk_ex s63 e5) e6) tt6 (fun h7 a7 e7 s7' => ?_)))
          exact good (zEx_trans (zEx_trans e5 e6) e7) (by omega) (by omega) hE3 s7'
      · rw [if_neg z] at hE3
        have k188 : ∀ (X : List Term) (bx : Nat), zStk h3 X bx → X.length < 1000 → X = (if eC e = 59 then st else st.drop 1) → zw_73_188 xs (d + 16) Q (some a) (some l6) (some bx) (some b1) (some ck) h3 := by
          intro X bx sX lX hX
          refine ⟨d + 15, rfl, zc72 (d := d + 3) tl sX (by omega) lX (zkdp okl) (zKI_v ?_)⟩
          refine req (decide (l = X)) e3r (by omega) (by omega) (fun hk => ?_) (fun hk => ?_)
          · rw [if_pos (by rw [← hX]; exact of_decide_eq_true hk)] at hE3
            exact good e3r (by omega) (by omega) hE3 s63
          · rw [if_neg (by rw [← hX]; exact of_decide_eq_false hk)] at hE3
            exact hE3
        refine zNd_gC hn3 he ?_
        rw [if_pos i1]
        refine pk_eq (eC e) 59 (fun z2 => k188 st b sB3 (by omega) (by rw [if_pos z2])) (fun z2 => k188 (st.drop 1) l6 s63 (by rw [List.length_drop]; omega) (by rw [if_neg z2]))
  refine zm_73 (zatt (d := d + 14) 0 hs (by omega) (by decide) (fun h1 t1 e1 tt1 => zdrp (d := d + 15) 1 (zStk_ex hs e1) (by decide) (fun rb sR => zNd_gC (zNd_ex hn e1) he ?_)))
  rw [if_pos i1]
  have hz0 := (zkat_in hok.2 0).2
  have d1' := zt1_dep (T := zkat st 0)
  have d2' := zt2_dep (T := zkat st 0)
  have k60 : ∀ {h2 : zH} {t2 : Nat} {T2 : Term}, eC e ≠ 59 → zEx h1 h2 1 5 → zTyp h2 T2 t2 → zkbg (eC e) st = T2 :: st.drop 1 → zw_73_60 xs (d + 16) Q (some ck) (some a) (some sl) (some b) (nI held) (some rb) (some t2) (some rb) h2 := by
    intro h2 t2 T2 hne e2 tt2 hz
    refine zpsh (d := d + 14) (zStk_ex sR e2) tt2 (fun h3 a3 e3 s3 => k65 h3 rb a3 (zEx_le (zEx_trans (zEx_trans e1 e2) e3) (by omega) (by omega)) (zStk_ex (zStk_ex sR e2) e3) ?_)
    rw [hz]; exact s3
  refine pk_eq (eC e) 59 (fun z => ?_) (fun z => zTyp_gc tt1 (fun _ => pk_eq (ztc (zkat st 0)) 9 (fun z2 => ?_) (fun z2 => ?_)))
  · refine k65 h1 rb rb (zEx_le e1 (by omega) (by omega)) sR ?_
    rw [z]; exact sR
  · refine ztpa (d := d + 15) tt1 (fun u tu => ztpb (d := d + 15) tt1 (fun v tv => zty5 (d := d + 14) tu tv (by omega) (by omega) (fun h2 t2 e2 tt2 => k60 z e2 tt2 ?_)))
    unfold zkbg
    rw [if_neg z, if_pos z2]
  · refine ztpa (d := d + 15) tt1 (fun u tu => k60 z (zEx_le (zEx_refl h1) (by omega) (by omega)) tu ?_)
    unfold zkbg
    rw [if_neg z, if_neg z2]
end BLK2
section BLK3
variable {xs : List Value} {d : Nat} {h h' : zH} {Q : zO → zH → Prop} {a b c i j t u ck f D held s dee c1 s1 : Nat} {st L : List Term} {T U : Term} {N : List zNt} {e : zNt} {w : Int32} {S : List Nat}
theorem zSb_none {lb r1 r2 : Nat} (h1 : eC e ≠ 33) (h2 : ¬ (eC e = 58 ∨ eC e = 41 ∨ eC e = 44 ∨ eC e = 47)) (h3 : ¬ (eC e = 49 ∨ eC e = 50 ∨ eC e = 59)) : zSb lb h N f j e st held s dee r1 r2 := ⟨fun z => absurd z h1, fun z => absurd z h2, fun z => absurd z h3⟩
theorem zc70 {sl r1 r2 : Nat} (IH : zP56 xs N ck f) (hg : zGd N) (hf : f ≤ 90) (hn : zNd h N (f + 1) j a) (he : N[j]? = some e) (hI : zkI e = true) (hrd : zkrd (eC e) st held = true) (hs : zStk h st b) (hok : zkok held st) (hck : zCko h ck s dee) (hdee : dee ≤ 12) (hb4 : zB4 h w) (hst : zStep h N j e sl r1 r2) (hD : 46 + 8 * f ≤ D)
    (k0 : ∀ p, zkE N (zkbl N) j e st held s dee = .inl p → ∀ h', zCe [4, ck, r1, r2] h h' (40 * (znx N j - j) - 12) (300 * (znx N j - j) - 130) → zB4 h' (nI p) → Q (.inr 2) h')
    (k1 : ∀ o s' d', zkE N (zkbl N) j e st held s dee = .inr (o, s', d') → ∀ h' b', zCe [ck, r1, r2] h h' (40 * (znx N j - j) - 12) (300 * (znx N j - j) - 130) → zCko h' ck s' d' → zB4 h' w → zSto h' o b' → zSb (h.1.length + zK0) h' N f j e st held s dee r1 r2 → Q (.inl (some (.ref b'))) h') : zG xs D (70, 0, lv_args 0 [zo (some ck), zo (some a), zo (some sl), zo (some b), .int (nI held)], []) h Q := by
  obtain ⟨i1, i2, i3, i4⟩ := zkI_ok hI
  obtain ⟨n1, n2, n3, n4, _⟩ := hg.1.2 j e he
  obtain ⟨d, rfl⟩ : ∃ d, D = d + 16 := ⟨D - 16, by omega⟩
  have hl := hok.1
  have hkk := zGd_k hg he
  have hjl := (List.getElem?_eq_some_iff.mp he).1
  have hjz := zful_lt (hg.2.2 j hjl)
  have plain : ∀ {h5 : zH} {bb : Nat}, eC e ≠ 33 → ¬ (eC e = 58 ∨ eC e = 41 ∨ eC e = 44 ∨ eC e = 47) → ¬ (eC e = 49 ∨ eC e = 50 ∨ eC e = 59) → ¬ (eC e = 34 ∨ eC e = 40 ∨ eC e = 42 ∨ eC e = 43 ∨ eC e = 45 ∨ eC e = 51) → zEx h h5 8 40 → zSto h5 (if eC e = 76 then none else some (zkaf (eC e) st)) bb → Q (.inl (some (.ref bb))) h5 := by
    intro h5 bb c1 c2 c3 c4 e5 ho
    have hE : zkE N (zkbl N) j e st held s dee = .inr (if eC e = 76 then none else some (zkaf (eC e) st), s, dee) := by
      unfold zkE
      rw [if_neg c1, if_neg c2, if_neg c3, if_neg c4]
      split <;> rfl
    exact k1 _ _ _ hE h5 bb (zCe_le (zCe_ex e5) (by omega) (by omega)) (zCko_ex hck e5) (zB4_ex hb4 e5) ho (zSb_none c1 c2 c3)
  refine zm_70 (zNd_gC hn he ?_)
  rw [if_pos i1]
  refine ⟨fun z => ?_, fun z => ?_, fun z => ?_, fun z => ?_, fun z => ?_, fun z => ?_⟩
  · have z : eC e = 33 := zcc n2 (by decide) z
    have hm : 0 < eM e := by rw [i4, z]; decide
    have hc1 := zchn_lt _ _ _ (j + 1) hkk (List.mem_of_getElem? (zchn_kid (N := N) (i := j) (k := 0) hm (by decide)))
    have hl1 := zful_lt hc1.2.2.1
    rw [z] at hrd
    have h0 : 1 ≤ st.length := of_decide_eq_true hrd
    obtain ⟨⟨sx, sy, sz, hso⟩, hr12, hr1, hr2⟩ := hst
    have hr1 := hr1 hm
    have hE : zkE N (zkbl N) j e st held s dee = (match zkbl N (j + 1) (st.drop 1) (held + 1) s dee with
      | .inl p => .inl p
      | .inr (none, _) => .inl (eF e)
      | .inr (some l, a, b) => .inr (some (zkat st 0 :: l), a, b)) := by
      unfold zkE
      rw [if_pos z]
      first | done | rfl
    have hFp : zFp N j = eF e := by unfold zFp; rw [he]
    have ok1 : zkok (held + 1) (st.drop 1) := ⟨by rw [List.length_drop]; omega, fun T hT => hok.2 T (List.mem_of_mem_drop hT)⟩
    obtain ⟨fsA, hoA⟩ := zNd_own hn
    refine zX_cv hoA (zc46k (k := 0) hn he hm (by decide) (by omega) (fun p1 hp1 => zKR_v (zX_gr hso rfl (zdrp (d := d + 15) 1 hs (by decide) (fun rb sR => ?_)))))
    rw [nI_1]
    refine zX_cv hck (IH (j + 1) p1 r1 rb (d + 15) _ (held + 1) s dee h _ w hp1 (by omega) sR ok1 hr1 hck hdee hb4 (fun p hp h3 x3 b3 => ?_) (fun o1 s1 d1 hb1 h3 b1 x3 ck3 w3 t3 R3 => zKR_v ?_))
    · exact k0 p (by rw [hE, hp]) h3 (zCe_le (zCe_mono x3 (fun k hk => by simp at hk; rcases hk with q | q | q <;> simp [q])) (by omega) (by omega)) b3
    have bo1 := zkbl_ok hg N.length (j + 1) (by omega) hl1.1 _ _ _ _ _ _ _ ok1 hdee hb1
    have m2 : zKm h [ck, r1] := fun k hk => by
      simp at hk
      rcases hk with rfl | rfl
      · exact Or.inr (Or.inl ⟨_, hck⟩)
      · exact Or.inr (Or.inr ⟨_, hr1⟩)
    have hn3 := zNd_ce x3 m2 hn
    have sB3 := zStk_ce x3 m2 hs
    have x3' : zCe [ck, r1, r2] h h3 (40 * (znx N (j + 1) - (j + 1))) (300 * (znx N (j + 1) - (j + 1))) := zCe_mono x3 (fun k hk => by simp at hk; rcases hk with q | q <;> simp [q])
    obtain ⟨fb1, hb1o⟩ := zSto_own t3
    refine zX_cv hb1o (zc57 t3 (fun L hL => by have := (bo1.2.2.2 L hL).1; omega) (zKI_v ?_))
    cases o1 with
    | none =>
      refine ⟨fun z => absurd z (by decide), fun _ => zNd_gF hn3 (zX_cv ck3 (zc49f (by omega) (zCko_k ck3) w3 (fun h6 x6 b6 => ?_)))⟩
      rw [hFp] at b6
      exact k0 _ (by rw [hE, hb1]) h6 (zCe_le (zCe_trans (U := [4, ck, r1, r2]) x3' x6 (fun k hk => List.mem_cons_of_mem _ hk) (fun k hk => Or.inl (by simp at hk; simp [hk]))) (by omega) (by omega)) b6
    | some l =>
      refine ⟨fun _ => zNd_gF hn3 (zX_cv ck3 (zc49t (zKV_v (zatt (d := d + 14) 0 sB3 (by omega) (by decide) (fun h5 t5 e5 tt5 => zpsh (d := d + 14) (zStk_ex (L := l) t3 e5) tt5 (fun h6 a6 e6 s6 => ?_)))))), fun z => absurd rfl z⟩
      have ee := zEx_trans e5 e6
      refine k1 (some (zkat st 0 :: l)) _ _ (by rw [hE, hb1]) h6 a6 (zCe_le (zCe_trans (U := [ck, r1, r2]) x3' (zCe_ex (S := []) ee) (fun k hk => hk) (by simp)) (by omega) (by omega)) (zCko_ex ck3 ee) (zB4_ex w3 ee) s6 ⟨fun _ => ?_, fun q => by omega, fun q => by omega⟩
      exact zStR_f2 (lb := h.1.length + zK0) ⟨fun _ _ q => ee.1 _ _ q, fun _ _ _ q => ee.1 _ _ q, fun _ _ q _ => ee.1 _ _ q⟩ (Nat.le_refl _) (fun _ q => ee.1 _ _ q) R3
  · have z : eC e = 34 ∨ eC e = 40 ∨ eC e = 42 ∨ eC e = 43 ∨ eC e = 45 ∨ eC e = 51 := by
      rcases z with q | q | q | q | q | q
      · exact Or.inl (zcc (k := 34) n2 (by decide) q)
      · exact Or.inr (Or.inl (zcc (k := 40) n2 (by decide) q))
      · exact Or.inr (Or.inr (Or.inl (zcc (k := 42) n2 (by decide) q)))
      · exact Or.inr (Or.inr (Or.inr (Or.inl (zcc (k := 43) n2 (by decide) q))))
      · exact Or.inr (Or.inr (Or.inr (Or.inr (Or.inl (zcc (k := 45) n2 (by decide) q)))))
      · exact Or.inr (Or.inr (Or.inr (Or.inr (Or.inr (zcc (k := 51) n2 (by decide) q)))))
    have hE : zkE N (zkbl N) j e st held s dee = (match zkty N j (eC e) st with
      | .inl p => .inl p
      | .inr l => .inr (some l, s, dee)) := by
      unfold zkE
      rw [if_neg (by omega), if_neg (by omega), if_neg (by omega), if_pos z]
      first | done | rfl
    refine zX_cv hck (zc75 (i := held) hg hn hf he hI z hrd hs (by omega) (zkdp hok) (zCko_k hck) hb4 (by omega) (fun p hp h' x' b' => ?_) (fun l hl' h5 a5 e5 s5 => zKR_v ?_))
    · exact k0 p (by rw [hE, hp]) h' (zCe_le (zCe_mono x' (fun k hk => by simp at hk; simp [hk])) (by omega) (by omega)) b'
    · exact k1 (some l) _ _ (by rw [hE, hl']) h5 a5 (zCe_le (zCe_ex e5) (by omega) (by omega)) (zCko_ex hck e5) (zB4_ex hb4 e5) s5 (zSb_none (by omega) (by omega) (by omega))
  · have z : eC e = 58 ∨ eC e = 41 ∨ eC e = 44 ∨ eC e = 47 := by
      rcases z with q | q | q | q
      · exact Or.inr (Or.inl (zcc (k := 41) n2 (by decide) q))
      · exact Or.inr (Or.inr (Or.inl (zcc (k := 44) n2 (by decide) q)))
      · exact Or.inr (Or.inr (Or.inr (zcc (k := 47) n2 (by decide) q)))
      · exact Or.inl (zcc (k := 58) n2 (by decide) q)
    exact zX_cv hck (zc71 (D := d + 15) IH hg hn he hI z hrd hs hok hck hdee hb4 hst (by omega) k0 (fun o s' d' q h' b' x1 x2 x3 x4 x5 => zKR_v (k1 o s' d' q h' b' x1 x2 x3 x4 x5)))
  · have z : eC e = 49 ∨ eC e = 50 ∨ eC e = 59 := by
      rcases z with q | q | q
      · exact Or.inl (zcc (k := 49) n2 (by decide) q)
      · exact Or.inr (Or.inl (zcc (k := 50) n2 (by decide) q))
      · exact Or.inr (Or.inr (zcc (k := 59) n2 (by decide) q))
    exact zX_cv hck (zc73 (D := d + 15) IH hg hn he hI z hrd hs hok hck hdee hb4 hst (by omega) k0 (fun o s' d' q h' b' x1 x2 x3 x4 x5 => zKR_v (k1 o s' d' q h' b' x1 x2 x3 x4 x5)))
  · have z : eC e = 60 ∨ eC e = 61 ∨ eC e = 62 ∨ eC e = 63 := by
      rcases z with q | q | q | q
      · exact Or.inl (zcc (k := 60) n2 (by decide) q)
      · exact Or.inr (Or.inl (zcc (k := 61) n2 (by decide) q))
      · exact Or.inr (Or.inr (Or.inl (zcc (k := 62) n2 (by decide) q)))
      · exact Or.inr (Or.inr (Or.inr (zcc (k := 63) n2 (by decide) q)))
    refine zNd_gC hn he ?_
    rw [if_pos i1]
    refine zX_cv hck (zc87 (d := d + 12) hs (by omega) z (fun h5 a5 e5 s5 => zKR_v (plain (by omega) (by omega) (by omega) (by omega) e5 ?_)))
    rw [if_neg (by omega)]; exact s5
  · obtain ⟨z1, z2, z3, z4, z5⟩ := z
    have n33 : eC e ≠ 33 := zcx (k := 33) z1
    have n34 : eC e ≠ 34 := zcx (k := 34) (fun q => z2 (Or.inl q))
    have n40 : eC e ≠ 40 := zcx (k := 40) (fun q => z2 (Or.inr (Or.inl q)))
    have n42 : eC e ≠ 42 := zcx (k := 42) (fun q => z2 (Or.inr (Or.inr (Or.inl q))))
    have n43 : eC e ≠ 43 := zcx (k := 43) (fun q => z2 (Or.inr (Or.inr (Or.inr (Or.inl q)))))
    have n45 : eC e ≠ 45 := zcx (k := 45) (fun q => z2 (Or.inr (Or.inr (Or.inr (Or.inr (Or.inl q))))))
    have n51 : eC e ≠ 51 := zcx (k := 51) (fun q => z2 (Or.inr (Or.inr (Or.inr (Or.inr (Or.inr q))))))
    have n41 : eC e ≠ 41 := zcx (k := 41) (fun q => z3 (Or.inl q))
    have n44 : eC e ≠ 44 := zcx (k := 44) (fun q => z3 (Or.inr (Or.inl q)))
    have n47 : eC e ≠ 47 := zcx (k := 47) (fun q => z3 (Or.inr (Or.inr (Or.inl q))))
    have n58 : eC e ≠ 58 := zcx (k := 58) (fun q => z3 (Or.inr (Or.inr (Or.inr q))))
    have n49 : eC e ≠ 49 := zcx (k := 49) (fun q => z4 (Or.inl q))
    have n50 : eC e ≠ 50 := zcx (k := 50) (fun q => z4 (Or.inr (Or.inl q)))
    have n59 : eC e ≠ 59 := zcx (k := 59) (fun q => z4 (Or.inr (Or.inr q)))
    have n60 : eC e ≠ 60 := zcx (k := 60) (fun q => z5 (Or.inl q))
    have n61 : eC e ≠ 61 := zcx (k := 61) (fun q => z5 (Or.inr (Or.inl q)))
    have n62 : eC e ≠ 62 := zcx (k := 62) (fun q => z5 (Or.inr (Or.inr (Or.inl q))))
    have n63 : eC e ≠ 63 := zcx (k := 63) (fun q => z5 (Or.inr (Or.inr (Or.inr q))))
    refine zNd_gC hn he ?_
    rw [if_pos i1]
    refine pk_lt (eC e) 68 (fun z => zNd_gC hn he ?_) (fun z => zNd_gC hn he ?_)
    · rw [if_pos i1]
      refine zX_cv hck (zc89 (d := d + 12) hs (by omega) (zkdp hok) n2 z (by omega) (fun h5 a5 e5 s5 => zKR_v (plain n33 (by omega) (by omega) (by omega) e5 ?_)))
      rw [if_neg (by omega)]; exact s5
    · rw [if_pos i1]
      exact zX_cv hck (zc90 (d := d + 12) hs (by omega) n2 z i3 (fun h5 a5 e5 s5 => zKR_v (plain n33 (by omega) (by omega) (by omega) e5 s5)))
end BLK3
/-! the deepest only grows -/
section CKM
variable {N : List zNt} {e : zNt} {st l : List Term} {held c i j a b : Nat}
def zkbm (N : List zNt) (i : Nat) : Prop := ∀ st held a b o a' b', zkbl N i st held a b = .inr (o, a', b') → b ≤ b' ∧ st.length + held ≤ b'
theorem zkE_m (IH : ∀ i, j < i → zkbm N i) {s : zkcs} (hE : zkE N (zkbl N) j e st held a b = .inr s) : b ≤ s.2.2 := by
  have hz := znx_ge (N := N) (i := j + 1)
  unfold zkE at hE
  split at hE
  · cases hb1 : zkbl N (j + 1) (st.drop 1) (held + 1) a b with
    | inl p => rw [hb1] at hE; cases hE
    | inr s1 =>
      obtain ⟨o1, a1, b1⟩ := s1
      rw [hb1] at hE
      have := (IH (j + 1) (by omega) _ _ _ _ _ _ _ hb1).1
      cases o1 with
      | none => cases hE
      | some l => cases hE; exact this
  · split at hE
    · cases hb1 : zkbl N (j + 1) (zkf1 (eC e) st) held a b with
      | inl p => rw [hb1] at hE; cases hE
      | inr s1 =>
        obtain ⟨o1, a1, b1⟩ := s1
        rw [hb1] at hE
        dsimp only at hE
        have h1 := (IH (j + 1) (by omega) _ _ _ _ _ _ _ hb1).1
        cases hb2 : zkbl N (znx N (j + 1)) (zkf2 (eC e) st) held a1 b1 with
        | inl p => rw [hb2] at hE; cases hE
        | inr s2 =>
          obtain ⟨o2, a2, b2⟩ := s2
          rw [hb2] at hE
          dsimp only at hE
          have h2 := (IH (znx N (j + 1)) (by omega) _ _ _ _ _ _ _ hb2).1
          unfold zkei at hE
          split at hE
          · cases hE; show b ≤ b2; omega
          · cases hE; show b ≤ b2; omega
          · split at hE
            · cases hE; show b ≤ b2; omega
            · cases hE
    · split at hE
      · cases hb1 : zkbl N (j + 1) (zkbg (eC e) st) held a b with
        | inl p => rw [hb1] at hE; cases hE
        | inr s1 =>
          obtain ⟨o1, a1, b1⟩ := s1
          rw [hb1] at hE
          dsimp only at hE
          have h1 := (IH (j + 1) (by omega) _ _ _ _ _ _ _ hb1).1
          unfold zkrp at hE
          cases o1 with
          | none => cases hE
          | some l =>
            dsimp only at hE
            by_cases h50 : eC e = 50
            · rw [if_pos h50] at hE
              split at hE
              · cases hE; exact h1
              · cases hE
            · rw [if_neg h50] at hE
              by_cases hl : l = (if eC e = 59 then st else st.drop 1)
              · rw [if_pos hl] at hE; cases hE; exact h1
              · rw [if_neg hl] at hE; cases hE
      · split at hE
        · cases ht : zkty N j (eC e) st with
          | inl p => rw [ht] at hE; cases hE
          | inr l => rw [ht] at hE; cases hE; exact Nat.le_refl _
        · split at hE
          · cases hE; exact Nat.le_refl _
          · cases hE; exact Nat.le_refl _
theorem zkin_m (IH : ∀ i, j < i → zkbm N i) {s s' : zkcs} (h : zkin N (zkbl N) held j s = .inr s') : s.2.2 ≤ s'.2.2 := by
  unfold zkin at h
  cases he : N[j]? with
  | none => rw [he] at h; cases h
  | some e =>
    rw [he] at h
    dsimp only at h
    obtain ⟨s1, s2, s3⟩ := s
    cases s1 with
    | none => cases h
    | some st =>
      dsimp only at h
      by_cases hir : (zkI e && zkrd (eC e) st held) = true
      · rw [if_pos hir] at h
        cases hE : zkE N (zkbl N) j e st held (s2 + 1) s3 with
        | inl p => rw [hE] at h; cases h
        | inr t =>
          rw [hE] at h
          dsimp only at h
          have := zkE_m IH hE
          obtain ⟨t1, t2, t3⟩ := t
          have : s3 ≤ t3 := this
          unfold zkpo at h
          cases t1 with
          | none => cases h; exact this
          | some l =>
            dsimp only at h
            split at h
            · cases h; show s3 ≤ max t3 _; omega
            · cases h
      · rw [if_neg hir] at h; cases h
theorem zkfo_m (IH : ∀ i, j < i → zkbm N i) : ∀ (l : List Nat) (s s' : zkcs), (∀ x, x ∈ l → j ≤ x) → zkfo (zkin N (zkbl N) held) l s = .inr s' → s.2.2 ≤ s'.2.2
  | [], s, s', _, h => by cases h; exact Nat.le_refl _
  | x :: l, s, s', hx, h => by
    rw [zkfo] at h
    cases hz : zkin N (zkbl N) held x s with
    | inl p => rw [hz] at h; cases h
    | inr t =>
      rw [hz] at h
      have hxx := hx x List.mem_cons_self
      exact Nat.le_trans (zkin_m (fun i hi => IH i (by omega)) hz) (zkfo_m IH l t s' (fun y hy => hx y (List.mem_cons_of_mem _ hy)) h)
theorem zkbl_m (hg : zGd N) : ∀ (n i : Nat), N.length ≤ n + i → zkbm N i
  | 0, i, hn => by
    intro st held a b o a' b' h
    rw [zkbl_eq hg.1.1] at h
    unfold zkB at h
    rw [List.getElem?_eq_none (by omega)] at h
    cases h
  | n + 1, i, hn => by
    intro st held a b o a' b' h
    rw [zkbl_eq hg.1.1] at h
    unfold zkB at h
    cases he : N[i]? with
    | none => rw [he] at h; cases h
    | some e =>
      rw [he] at h
      dsimp only at h
      split at h
      · have := zkfo_m (j := i) (fun i' hi => zkbl_m hg n i' (by omega)) _ _ _ (fun x hx => by have := zchn_ge _ _ _ hx; omega) h
        have : max b (st.length + held) ≤ b' := this
        omega
      · cases h
end CKM
section BLK4
variable {xs : List Value} {N : List zNt} {ck : Nat}
theorem zmx {x y : Nat} (hx : x < 2 ^ 30) (hy : y < 2 ^ 30) : (if nI x < nI y then nI y else nI x) = nI (max x y) := by
  by_cases h : x < y
  · rw [if_pos (nI_lt h (by omega)), show max x y = y by omega]
  · rw [if_neg (nI_nlt (by omega) (by omega)), show max x y = x by omega]
theorem zm1h {held : Nat} (h1 : held ≤ 12) : ¬ (12 : Int32) < -1 + nI held := by
  cases held with
  | zero => decide
  | succ n =>
    rw [show (-1 : Int32) + nI (n + 1) = nI n by rw [Int32.add_comm]; exact (Int32.sub_eq_add_neg ..).symm.trans (pk_sub (a := n + 1) (b := 1) (by omega))]
    exact fun z => absurd ((nI_ltI (a := 12) (b := n) (by omega) (by omega)).mp z) (by omega)
theorem zkaf_len (c : Nat) (st : List Term) : (zkaf c st).length ≤ st.length + 2 := by
  have zite : ∀ {c : Prop} [Decidable c] {a b : List Term}, a.length ≤ st.length + 2 → b.length ≤ st.length + 2 → (if c then a else b).length ≤ st.length + 2 := by
    intro c _ a b h1 h2
    by_cases hc : c
    · rw [if_pos hc]; exact h1
    · rw [if_neg hc]; exact h2
  have d1 : (st.drop 1).length = st.length - 1 := List.length_drop
  have d2 : (st.drop 2).length = st.length - 2 := List.length_drop
  have c0 : ∀ (T : Term), (T :: st).length ≤ st.length + 2 := fun T => by rw [List.length_cons]; omega
  have c1 : ∀ (T : Term), (T :: st.drop 1).length ≤ st.length + 2 := fun T => by rw [List.length_cons]; omega
  have c2 : ∀ (T : Term), (T :: st.drop 2).length ≤ st.length + 2 := fun T => by rw [List.length_cons]; omega
  unfold zkaf
  exact zite (c0 _) (zite (by rw [List.length_cons, List.length_cons]; omega) (zite (c0 _) (zite (c2 _) (zite (c1 _) (zite (c1 _) (zite (c1 _) (zite (c1 _) (zite (c2 _) (zite (by omega) (zite (c2 _) (zite (by omega) (zite (c2 _) (zite (c2 _) (zite (c1 _) (zite (c1 _) (zite (c2 _) (zite (c1 _) (by omega))))))))))))))))))
theorem zkty_len {N : List zNt} {j c : Nat} {st l : List Term} (hk : zkty N j c st = .inr l) : l.length ≤ st.length + 2 := by
  have d1 : (st.drop 1).length = st.length - 1 := List.length_drop
  unfold zkty at hk
  cases hT : zTy N (j + 1) 0 with
  | inl p => rw [hT] at hk; cases hk
  | inr T =>
    rw [hT] at hk
    dsimp only at hk
    split at hk
    · cases hm : zMi N (znx N (j + 1)) false T with
      | some p => rw [hm] at hk; cases hk
      | none => rw [hm] at hk; cases hk; rw [List.length_cons]; omega
    · split at hk
      · cases hk; rw [List.length_cons]; omega
      · split at hk
        · cases hk; rw [List.length_cons]; omega
        · split at hk
          · cases hk; rw [List.length_cons]; omega
          · split at hk
            · cases hk; rw [List.length_cons]; omega
            · split at hk
              · cases hU : zTy N (znx N (j + 1)) 0 with
                | inl p => rw [hU] at hk; cases hk
                | inr U => rw [hU] at hk; cases hk; rw [List.length_cons]; omega
              · cases hk
theorem zkE_len {N : List zNt} {e : zNt} {st l : List Term} {held j a b a' b' : Nat} (hg : zGd N) (he : N[j]? = some e) (hI : zkI e = true) (hrd : zkrd (eC e) st held = true) (hs : zkok held st) (hb : b ≤ 12) (hE : zkE N (zkbl N) j e st held a b = .inr (some l, a', b')) : l.length ≤ 20 := by
  have hl := hs.1
  obtain ⟨i1, i2, i3, i4⟩ := zkI_ok hI
  have hkk := zGd_k hg he
  have k1 : 0 < eM e → j + 1 < N.length := fun hm => by
    have := zchn_lt _ _ _ (j + 1) hkk (List.mem_of_getElem? (zchn_kid (N := N) (i := j) (k := 0) hm (by decide)))
    exact (zful_lt this.2.2.1).1
  have k2 : 1 < eM e → znx N (j + 1) < N.length := fun hm => by
    have := zchn_lt _ _ _ (znx N (j + 1)) hkk (List.mem_of_getElem? (zchn_kid (N := N) (i := j) (k := 1) hm (by decide)))
    exact (zful_lt this.2.2.1).1
  have B : ∀ i, i < N.length → zkbo N i := fun i hi => zkbl_ok hg N.length i (by omega) hi
  unfold zkE at hE
  split at hE
  · rename_i hc
    have q1 := k1 (by rw [i4, hc]; decide)
    rw [hc] at hrd
    have h0 : 1 ≤ st.length := of_decide_eq_true hrd
    cases hb1 : zkbl N (j + 1) (st.drop 1) (held + 1) a b with
    | inl p => rw [hb1] at hE; cases hE
    | inr s1 =>
      obtain ⟨o1, a1, b1⟩ := s1
      rw [hb1] at hE
      have r := B _ q1 (st.drop 1) (held + 1) a b o1 a1 b1 ⟨by rw [List.length_drop]; omega, fun T hT => hs.2 T (List.mem_of_mem_drop hT)⟩ hb hb1
      cases o1 with
      | none => cases hE
      | some l' => cases hE; have := (r.2.2.2 l' rfl).1; rw [List.length_cons]; omega
  · split at hE
    · rename_i hc
      have hm : 1 < eM e := by rw [i4]; rcases hc with q | q | q | q <;> rw [q] <;> decide
      obtain ⟨f1, f2⟩ := zkf1_ok hs hrd hc
      cases hb1 : zkbl N (j + 1) (zkf1 (eC e) st) held a b with
      | inl p => rw [hb1] at hE; cases hE
      | inr s1 =>
        obtain ⟨o1, a1, b1⟩ := s1
        rw [hb1] at hE
        dsimp only at hE
        have r := B _ (k1 (by omega)) _ held a b o1 a1 b1 f1 hb hb1
        cases hb2 : zkbl N (znx N (j + 1)) (zkf2 (eC e) st) held a1 b1 with
        | inl p => rw [hb2] at hE; cases hE
        | inr s2 =>
          obtain ⟨o2, a2, b2⟩ := s2
          rw [hb2] at hE
          dsimp only at hE
          have r2 := B _ (k2 hm) _ held a1 b1 o2 a2 b2 f2 r.1 hb2
          unfold zkei at hE
          split at hE
          · cases hE; have := (r2.2.2.2 l rfl).1; omega
          · cases hE; have := (r.2.2.2 l rfl).1; omega
          · split at hE
            · cases hE; have := (r.2.2.2 l rfl).1; omega
            · cases hE
    · split at hE
      · cases hb1 : zkbl N (j + 1) (zkbg (eC e) st) held a b with
        | inl p => rw [hb1] at hE; cases hE
        | inr s1 =>
          obtain ⟨o1, a1, b1⟩ := s1
          rw [hb1] at hE
          dsimp only at hE
          unfold zkrp at hE
          cases o1 with
          | none => cases hE
          | some l' =>
            dsimp only at hE
            by_cases h50 : eC e = 50
            · rw [if_pos h50] at hE
              split at hE
              · cases hE; rw [List.length_cons, List.length_drop]; omega
              · cases hE
            · rw [if_neg h50] at hE
              by_cases hl' : l' = (if eC e = 59 then st else st.drop 1)
              · rw [if_pos hl'] at hE; cases hE; rw [List.length_drop]; omega
              · rw [if_neg hl'] at hE; cases hE
      · split at hE
        · cases ht : zkty N j (eC e) st with
          | inl p => rw [ht] at hE; cases hE
          | inr l' => rw [ht] at hE; cases hE; have := zkty_len ht; omega
        · split at hE
          · cases hE
          · cases hE; have := zkaf_len (eC e) st; omega
theorem zkaf_hd {st : List Term} (h : ∀ T, T ∈ st → zTg1 T ∧ ztdep T ≤ 8) (c : Nat) : ztdep (zkat (zkaf c st) 0) ≤ 20 := by
  have zite : ∀ {c : Prop} [Decidable c] {a b : List Term}, ztdep (zkat a 0) ≤ 20 → ztdep (zkat b 0) ≤ 20 → ztdep (zkat (if c then a else b) 0) ≤ 20 := by
    intro c _ a b h1 h2
    by_cases hc : c
    · rw [if_pos hc]; exact h1
    · rw [if_neg hc]; exact h2
  have hd : ∀ k, ztdep (zkat (st.drop k) 0) ≤ 20 := fun k => by have := (zkat_in (fun T hT => h T (List.mem_of_mem_drop hT)) 0 (st := st.drop k)).2; omega
  have z0 := (zkat_in h 0).2
  have z1 := (zkat_in h 1).2
  have d1 := zt1_dep (T := zkat st 0)
  have d2 := zt2_dep (T := zkat st 0)
  have d3 := zt2_dep (T := zkat st 1)
  have sm : ztdep (zksm c st) = 1 := by unfold zksm; split <;> rfl
  have c0 : ∀ (T : Term) (r : List Term), ztdep T ≤ 20 → ztdep (zkat (T :: r) 0) ≤ 20 := fun T r h => h
  unfold zkaf
  exact zite (c0 _ _ (by omega)) (zite (c0 _ _ (by omega)) (zite (c0 _ _ (by show 1 ≤ 20; omega)) (zite (c0 _ _ (by show 1 + max _ _ ≤ 20; omega)) (zite (c0 _ _ (by omega)) (zite (c0 _ _ (by omega)) (zite (c0 _ _ (by show 1 + _ ≤ 20; omega)) (zite (c0 _ _ (by show 1 ≤ 20; omega)) (zite (c0 _ _ (by show 1 + _ ≤ 20; omega)) (zite (hd 2) (zite (c0 _ _ (by show 1 ≤ 20; omega)) (zite (by omega) (zite (c0 _ _ (by omega)) (zite (c0 _ _ (by show 1 + (1 + max (ztdep (zksm c st)) 1) ≤ 20; omega)) (zite (c0 _ _ (by show 1 ≤ 20; omega)) (zite (c0 _ _ (by show 1 + 1 ≤ 20; omega)) (zite (c0 _ _ (by show 1 ≤ 20; omega)) (zite (c0 _ _ (by show 1 ≤ 20; omega)) (hd 1))))))))))))))))))
theorem zkty_hd {N : List zNt} {j c : Nat} {st l : List Term} (hg : zGd N) (h : ∀ T, T ∈ st → zTg1 T ∧ ztdep T ≤ 8) (hk : zkty N j c st = .inr l) : ztdep (zkat l 0) ≤ 20 := by
  have z0 := (zkat_in h 0).2
  have ty : ∀ i T, zTy N i 0 = .inr T → ztdep T ≤ 7 := fun i T hT => (zTy_ok hg.1.1 N.length i 0 T (by omega) hT).2.1
  unfold zkty at hk
  cases hT : zTy N (j + 1) 0 with
  | inl p => rw [hT] at hk; cases hk
  | inr T =>
    have tt := ty _ T hT
    rw [hT] at hk
    dsimp only at hk
    split at hk
    · cases hm : zMi N (znx N (j + 1)) false T with
      | some p => rw [hm] at hk; cases hk
      | none => rw [hm] at hk; cases hk; show ztdep T ≤ 20; omega
    · split at hk
      · cases hk; show 1 + ztdep T ≤ 20; omega
      · split at hk
        · cases hk; show 1 + max _ _ ≤ 20; omega
        · split at hk
          · cases hk; show 1 + max _ _ ≤ 20; omega
          · split at hk
            · cases hk; show 1 + ztdep T ≤ 20; omega
            · split at hk
              · cases hU : zTy N (znx N (j + 1)) 0 with
                | inl p => rw [hU] at hk; cases hk
                | inr U => have := ty _ U hU; rw [hU] at hk; cases hk; show 1 + max _ _ ≤ 20; omega
              · cases hk
theorem zkE_hd {N : List zNt} {e : zNt} {st l : List Term} {held j a b a' b' : Nat} (hg : zGd N) (he : N[j]? = some e) (hI : zkI e = true) (hrd : zkrd (eC e) st held = true) (hs : zkok held st) (hb : b ≤ 12) (hE : zkE N (zkbl N) j e st held a b = .inr (some l, a', b')) : ztdep (zkat l 0) ≤ 20 := by
  have hl := hs.1
  obtain ⟨i1, i2, i3, i4⟩ := zkI_ok hI
  have hkk := zGd_k hg he
  have k1 : 0 < eM e → j + 1 < N.length := fun hm => by
    have := zchn_lt _ _ _ (j + 1) hkk (List.mem_of_getElem? (zchn_kid (N := N) (i := j) (k := 0) hm (by decide)))
    exact (zful_lt this.2.2.1).1
  have k2 : 1 < eM e → znx N (j + 1) < N.length := fun hm => by
    have := zchn_lt _ _ _ (znx N (j + 1)) hkk (List.mem_of_getElem? (zchn_kid (N := N) (i := j) (k := 1) hm (by decide)))
    exact (zful_lt this.2.2.1).1
  have B : ∀ i, i < N.length → zkbo N i := fun i hi => zkbl_ok hg N.length i (by omega) hi
  unfold zkE at hE
  split at hE
  · rename_i hc
    have q1 := k1 (by rw [i4, hc]; decide)
    rw [hc] at hrd
    have h0 : 1 ≤ st.length := of_decide_eq_true hrd
    cases hb1 : zkbl N (j + 1) (st.drop 1) (held + 1) a b with
    | inl p => rw [hb1] at hE; cases hE
    | inr s1 =>
      obtain ⟨o1, a1, b1⟩ := s1
      rw [hb1] at hE
      have r := B _ q1 (st.drop 1) (held + 1) a b o1 a1 b1 ⟨by rw [List.length_drop]; omega, fun T hT => hs.2 T (List.mem_of_mem_drop hT)⟩ hb hb1
      cases o1 with
      | none => cases hE
      | some l' => cases hE; have := (zkat_in hs.2 0).2; show ztdep (zkat st 0) ≤ 20; omega
  · split at hE
    · rename_i hc
      have hm : 1 < eM e := by rw [i4]; rcases hc with q | q | q | q <;> rw [q] <;> decide
      obtain ⟨f1, f2⟩ := zkf1_ok hs hrd hc
      cases hb1 : zkbl N (j + 1) (zkf1 (eC e) st) held a b with
      | inl p => rw [hb1] at hE; cases hE
      | inr s1 =>
        obtain ⟨o1, a1, b1⟩ := s1
        rw [hb1] at hE
        dsimp only at hE
        have r := B _ (k1 (by omega)) _ held a b o1 a1 b1 f1 hb hb1
        cases hb2 : zkbl N (znx N (j + 1)) (zkf2 (eC e) st) held a1 b1 with
        | inl p => rw [hb2] at hE; cases hE
        | inr s2 =>
          obtain ⟨o2, a2, b2⟩ := s2
          rw [hb2] at hE
          dsimp only at hE
          have r2 := B _ (k2 hm) _ held a1 b1 o2 a2 b2 f2 r.1 hb2
          unfold zkei at hE
          split at hE
          · cases hE; have := (zkat_in (r2.2.2.2 l rfl).2 0).2; omega
          · cases hE; have := (zkat_in (r.2.2.2 l rfl).2 0).2; omega
          · split at hE
            · cases hE; have := (zkat_in (r.2.2.2 l rfl).2 0).2; omega
            · cases hE
    · split at hE
      · rename_i hc
        have hm : 0 < eM e := by rw [i4]; rcases hc with q | q | q <;> rw [q] <;> decide
        cases hb1 : zkbl N (j + 1) (zkbg (eC e) st) held a b with
        | inl p => rw [hb1] at hE; cases hE
        | inr s1 =>
          obtain ⟨o1, a1, b1⟩ := s1
          rw [hb1] at hE
          dsimp only at hE
          have r := B _ (k1 hm) _ held a b o1 a1 b1 (zkbg_ok hs hrd hc).1 hb hb1
          unfold zkrp at hE
          cases o1 with
          | none => cases hE
          | some l' =>
            dsimp only at hE
            by_cases h50 : eC e = 50
            · rw [if_pos h50] at hE
              split at hE
              · cases hE; have := (zkat_in (r.2.2.2 l' rfl).2 0).2; show 1 + ztdep (zkat l' 0) ≤ 20; omega
              · cases hE
            · rw [if_neg h50] at hE
              by_cases hl' : l' = (if eC e = 59 then st else st.drop 1)
              · rw [if_pos hl'] at hE; cases hE; have := (zkat_in (fun T hT => hs.2 T (List.mem_of_mem_drop hT)) 0 (st := st.drop 1)).2; omega
              · rw [if_neg hl'] at hE; cases hE
      · split at hE
        · cases ht : zkty N j (eC e) st with
          | inl p => rw [ht] at hE; cases hE
          | inr l' => rw [ht] at hE; cases hE; have := zkty_hd hg hs.2 ht; omega
        · split at hE
          · cases hE
          · cases hE; have := zkaf_hd hs.2 (eC e); omega
theorem zm1d {held dd : Nat} (h2 : held ≤ dd) (h3 : dd ≤ 100) : (if nI dd < -1 + nI held then -1 + nI held else nI dd) = nI dd := by
  rw [if_neg]
  cases held with
  | zero => exact fun z => absurd (show nI dd < 0 from Int32.lt_trans z (by decide)) (nI_pos (by omega))
  | succ n =>
    rw [show (-1 : Int32) + nI (n + 1) = nI n by rw [Int32.add_comm]; exact (Int32.sub_eq_add_neg ..).symm.trans (pk_sub (a := n + 1) (b := 1) (by omega))]
    exact fun z => absurd ((nI_ltI (a := dd) (b := n) (by omega) (by omega)).mp z) (by omega)
theorem zc56s (hg : zGd N) (f : Nat) (hf : f + 1 ≤ 90) (IH : ∀ g, g ≤ f → zP56 xs N ck g) : zP56 xs N ck (f + 1) := by
    intro i a r b D st held s dee h Q w hn hD hs hok hr hck hdee hb4 k0 k1
    obtain ⟨e, ps, rr, pv, he, ho, hrr, hpl, hfu, hfus, hval, hch⟩ := zNd_at hn
    obtain ⟨n1, n2, n3, n4, _⟩ := hg.1.2 i e he
    obtain ⟨d, rfl⟩ : ∃ d, D = d + 18 := ⟨D - 18, by omega⟩
    have hl := hok.1
    have hiz := zful_lt hfu
    have hFp : zFp N i = eF e := by unfold zFp; rw [he]
    have spec := zkbl_eq hg.1.1 i
    have spec : zkbl N i st held s dee = zkB N (zkbl N) i st held s dee := by rw [spec]
    unfold zkB at spec
    rw [he] at spec
    dsimp only at spec
    have hle := zfuls_le _ _ _ hfus
    have hckne : ck ≠ r := fun z => by rw [← z, show zown h ck = _ from hck] at hr; cases hr
    have h4ne : (4 : Nat) ≠ ck := fun z => by
      obtain ⟨x, y, z', h4⟩ := hb4
      rw [z, show zown h ck = _ from hck] at h4
      cases h4
    refine zm_56
      (fun m l0 l1 l2 l4 l5 l6 h1 => ∃ k o s' d' bb ls pk, l0 = some ck ∧ l1 = some a ∧ l2 = some r ∧ l4 = nI held ∧ l5 = some bb ∧ l6 = nI k ∧ m = eM e - k ∧ k ≤ eM e ∧ eS e = 2 ∧ zkfo (zkin N (zkbl N) held) ((zchn N (eM e) (i + 1)).take k) (some st, s, max dee (st.length + held)) = .inr (o, s', d') ∧ (∀ l, o = some l → zkok held l) ∧ d' ≤ 12 ∧ held ≤ d' ∧ (zchn N (eM e + 1) (i + 1))[k]? = some pk ∧ i + 1 ≤ pk ∧ pk ≤ znx N i ∧ zCe [ck, r] h h1 (40 * (pk - (i + 1))) (300 * (pk - (i + 1))) ∧ zCko h1 ck s' d' ∧ zB4 h1 w ∧ zSto h1 o bb ∧ ls.length = k ∧ zown h1 r = some (.inl (7, ls.map Value.ref ++ List.replicate (eM e - k) .null)) ∧ zStL N (zStp (h.1.length + zK0) h1 N f) held ((zchn N (eM e) (i + 1)).take k) (some st, s, max dee (st.length + held)) ls)
      ?_ ?_
    · rintro m l0 l1 l2 l4 l5 l6 h1 ⟨k, o, s', d', bb, ls, pk, rfl, rfl, rfl, rfl, rfl, rfl, rfl, hk, hS, hfo, hoko, hd12, hhd, hpk, hpi, hpz, hx, hc1, hw1, ht1, hls, hr1, hL⟩
      have m1 : zKm h [ck, r] := fun k hk => by
        simp at hk
        rcases hk with rfl | rfl
        · exact Or.inr (Or.inl ⟨_, hck⟩)
        · exact Or.inr (Or.inr ⟨_, hr⟩)
      have hn1 := zNd_ce hx m1 hn
      rw [if_pos hS] at spec
      refine zNd_gN hn1 he (pk_lt k (eM e) (fun hlt => ?_) (fun hge => ?_))
      · -- one more instruction
        have hal : (ls.map Value.ref ++ List.replicate (eM e - k) Value.null).length = eM e := by simp; omega
        refine ⟨r, 7, _, rfl, zarr_own hr1, by decide, ?_⟩
        rw [hal]
        refine pk_lt k (eM e) (fun _ => ?_) (fun z => absurd z (by omega)) rfl rfl
        obtain ⟨fs1, ho1⟩ := zNd_own hn1
        refine zX_cv ho1 (zc46 (k := k) hn1 he hlt (by omega) (fun p j hj hp => zKR_v ?_))
        have hjm := List.mem_of_getElem? hj
        have hjp : j = pk := by
          rw [zchn_pre _ _ _ hlt, hj] at hpk
          exact Option.some.inj hpk
        subst hjp
        have hjl := zchn_lt _ _ _ j hfus hjm
        have hjf := zful_lt hjl.2.2.1
        obtain ⟨ej, hej⟩ : ∃ e, N[j]? = some e := ⟨_, List.getElem?_eq_getElem hjf.1⟩
        have hFj : zFp N j = eF ej := by unfold zFp; rw [hej]
        have tk : (zchn N (eM e) (i + 1)).take (k + 1) = (zchn N (eM e) (i + 1)).take k ++ [j] := by
          have hkl : k < (zchn N (eM e) (i + 1)).length := by rw [zchn_len]; exact hlt
          rw [List.take_succ_eq_append_getElem hkl]
          congr 2
          have := (List.getElem?_eq_some_iff.mp hj).2
          exact this
        have cut : zchn N (eM e) (i + 1) = ((zchn N (eM e) (i + 1)).take k ++ [j]) ++ (zchn N (eM e) (i + 1)).drop (k + 1) := by
          rw [← tk]; exact (List.take_append_drop _ _).symm
        have stepE : ∀ p, zkin N (zkbl N) held j (o, s', d') = .inl p → zkbl N i st held s dee = .inl p := by
          intro p hp
          rw [spec, cut, List.append_assoc, zkfo_app _ _ _ _ hfo]
          show zkfo _ (j :: _) _ = _
          rw [zkfo, hp]
        have bad : ∀ {K : zH → Prop} {h5 : zH} {c5 s5 : Nat}, zCe [ck, r] h1 h5 c5 s5 → zNd h5 N f j p → (∃ u v, zCko h5 ck u v) → zB4 h5 w → c5 + 1 ≤ 40 * (znx N j - j) → s5 + 6 ≤ 300 * (znx N j - j) → zkin N (zkbl N) held j (o, s', d') = .inl (eF ej) → zGI (some p) 4 0 h5 fun x1 => zCV xs (d + 18) 49 6 (some ck) [.int 0, .int x1] h5 (zKV K (fun e h => Q (.inr e) h)) := by
          rintro K h5 c5 s5 x5 hn5 ⟨u, v, hc5⟩ hw5 l1 l2 hp5
          refine zNd_gF hn5 (zX_cv hc5 (zc49f (by omega) (zCko_k hc5) hw5 (fun h6 x6 b6 => ?_)))
          rw [hFj] at b6
          exact k0 _ (stepE _ hp5) h6 (zCe_le (zCe_trans (U := [4, ck, r]) (zCe_trans (U := [ck, r]) hx x5 (fun k hk => hk) (fun k hk => Or.inl hk)) x6 (fun k hk => List.mem_cons_of_mem _ hk) (fun k hk => Or.inl (by simp at hk; simp [hk]))) (by omega) (by omega)) b6
        have ce1 : zCe [ck, r] h1 h1 0 0 := zCe_refl
        obtain ⟨fbb, hbbo⟩ := zSto_own ht1
        refine zX_cv hbbo (zc57 ht1 (fun L hL => by have := (hoko L hL).1; omega) (zKI_v ?_))
        cases o with
        | none =>
          refine ⟨fun z => absurd z (by decide), fun _ => bad ce1 hp ⟨_, _, hc1⟩ hw1 (by omega) (by omega) ?_⟩
          unfold zkin
          rw [hej]
        | some l =>
          refine ⟨fun _ => ?_, fun z => absurd rfl z⟩
          have hokl := hoko l rfl
          have hll := hokl.1
          have tl : zStk h1 l bb := ht1
          have zin : zkin N (zkbl N) held j (some l, s', d') = if (zkI ej && zkrd (eC ej) l held) = true then (match zkE N (zkbl N) j ej l held (s' + 1) d' with
              | .inl p => .inl p
              | .inr t => zkpo (eF ej) held t) else .inl (eF ej) := by
            unfold zkin
            rw [hej]
            first | done | rfl
          obtain ⟨fp, hpo⟩ := zNd_own hp
          refine zX_cv hpo (zc58 hg.1 hp hej (zKI_v ⟨fun z => ?_, fun z => ?_⟩))
          · refine bad ce1 hp ⟨_, _, hc1⟩ hw1 (by omega) (by omega) ?_
            rw [zin, zB_0.mp z]; rfl
          have hI := zBt z
          obtain ⟨q1, q2, q3, q4⟩ := zkI_ok hI
          obtain ⟨jn1, jn2, jn3, jn4, _⟩ := hg.1.2 j ej hej
          refine zNd_gC hp hej ?_
          rw [if_pos q1]
          refine zX_cv hc1 (zc59 (d := d + 2) (zCko_k hc1) tl (by omega) (by omega) (zkdp hokl) q2 q3 jn2 (fun h2 e2 => zKI_v ⟨fun z => ?_, fun z => ?_⟩))
          · refine bad (zCe_ex e2) (zNd_ex hp e2) ⟨_, _, zCko_ex hc1 e2⟩ (zB4_ex hw1 e2) (by omega) (by omega) ?_
            rw [zin, zB_0.mp z, Bool.and_false]; rfl
          have hrd := zBt z
          rw [hI, hrd, Bool.true_and, if_pos rfl] at zin
          cases f with
          | zero => exact hp.elim
          | succ f' =>
          have hp2 := zNd_ex hp e2
          have tl2 := zStk_ex tl e2
          refine zNd_gF hp2 (zX_cv (zCko_ex hc1 e2) (zc49t (zKV_v (zNO_i ?_))))
          have tl3 := zStk_ex tl2 (zEx_add (e := .inr (9, [.int 0, .int 0, .null, .null, .null])) (n := 5))
          obtain ⟨pb, qb, hbo⟩ := zStk_at tl3
          refine zX_cv hbo (zc60 (i := 2) (c := 10) (d := d + 15) tl3 (by decide) (by omega) (by decide) (zKI_v ?_))
          refine zc69 (d := d + 16) hg hp2 (by omega) hej hI (fun h3 v r1 r2 e3 ho9 hra hrb hA1 hA2 hV => ?_)
          have e13 := zEx_trans e2 e3
          have hr3 := e13.1 _ _ hr1
          have hrl : r < h.1.length + zK0 := zown_bd hr
          have hckl : ck < h.1.length + zK0 := zown_bd hck
          have l12 := e2.2.1
          have l01 := hx.2.1
          have vset : (ls.map Value.ref ++ List.replicate (eM e - k) Value.null).set k (zo (some (h2.1.length + zK0))) = (ls ++ [h2.1.length + zK0]).map Value.ref ++ List.replicate (eM e - (k + 1)) Value.null := by
            rw [List.set_append_right _ _ (by rw [List.length_map]; omega), List.length_map, hls, Nat.sub_self, List.map_append, List.append_assoc]
            congr 1
            rw [show eM e - k = (eM e - (k + 1)) + 1 by omega, List.replicate_succ]
            rfl
          refine ⟨r, 7, _, rfl, hr3, ⟨by decide, by decide⟩, nI_pos (by omega), by rw [nI_clamp (by omega), hal]; exact hlt, Or.inr ⟨_, 9, _, rfl, ho9, rfl⟩, ?_⟩
          rw [nI_clamp (by omega)]
          rw [vset]
          have hck3 : zown h3 ck = some (.inr (6, [.ref 4, .int (nI s'), .int (nI d')])) := zCko_ex hc1 e13
          have hckp := (zown_ne (e := .inl (7, (ls ++ [h2.1.length + zK0]).map Value.ref ++ List.replicate (eM e - (k + 1)) Value.null)) hr3 hckne).trans hck3
          refine zX_gi hckp rfl (zX_pf hckp (show 1 < 3 by decide) ?_)
          rw [nI_1]
          obtain ⟨h4, hh4⟩ : ∃ h4, zput (zput h3 r (.inl (7, (ls ++ [h2.1.length + zK0]).map Value.ref ++ List.replicate (eM e - (k + 1)) Value.null))) ck (.inr (6, [.ref 4, .int (nI s'), .int (nI d')].set 1 (.int (nI (s' + 1))))) = h4 := ⟨_, rfl⟩
          rw [hh4]
          have x34 : zCe [ck, r] h3 h4 0 0 := by
            rw [← hh4]
            exact zCe_trans (U := [ck, r]) (zCe_put hr3 (by simp)) (zCe_put hckp (by simp)) (fun k hk => hk) (fun k hk => Or.inl hk)
          have hck4 : zCko h4 ck (s' + 1) d' := by rw [← hh4]; exact zown_put hckp
          have hr4 : zown h4 r = some (.inl (7, (ls ++ [h2.1.length + zK0]).map Value.ref ++ List.replicate (eM e - (k + 1)) Value.null)) := by
            rw [← hh4, zown_ne hckp (fun z => hckne z.symm)]
            exact zown_put hr3
          have m3 : zKm h3 [ck, r] := fun k hk => by
            simp at hk
            rcases hk with rfl | rfl
            · exact Or.inr (Or.inl ⟨_, hck3⟩)
            · exact Or.inr (Or.inr ⟨_, hr3⟩)
          have hw4 : zB4 h4 w := by
            obtain ⟨x, y, z', q4⟩ := zB4_ex hw1 e13
            refine ⟨x, y, z', x34.1 _ _ (fun z => ?_) q4⟩
            simp at z
            rcases z with z | z
            · exact h4ne z
            · rw [z, hr3] at q4; cases q4
          have hp4 := zNd_ce x34 m3 (zNd_ex hp2 e3)
          have tl4 := zStk_ce x34 m3 (zStk_ex tl2 e3)
          have nw : ∀ q, h.1.length + zK0 ≤ q → q ∉ [ck, r] := fun q hq z => by
            simp at z
            rcases z with z | z <;> omega
          have hst : zStep h4 N j ej (h2.1.length + zK0) r1 r2 := ⟨⟨_, _, _, x34.1 _ _ (nw _ (by omega)) ho9⟩, by omega, fun hm => x34.1 _ _ (nw _ (by omega)) (hA1 hm), fun hm => x34.1 _ _ (nw _ (by omega)) (hA2 hm)⟩
          have x14 : zCe [ck, r] h1 h4 7 105 := zCe_le (zCe_trans (U := [ck, r]) (zCe_ex (S := []) e13) x34 (by simp) (fun k hk => Or.inl hk)) (by omega) (by omega)
          have x04 : zCe [ck, r] h h4 (40 * (j - (i + 1)) + 7) (300 * (j - (i + 1)) + 105) := zCe_trans (U := [ck, r]) hx x14 (fun k hk => hk) (fun k hk => Or.inl hk)
          have l14 := x14.2.1
          refine zX_cv hck4 (zc70 (D := d + 17) (IH f' (by omega)) hg (by omega) hp4 hej hI hrd tl4 hokl hck4 hd12 hw4 hst (by omega) (fun q hq h5 x5 b5 => ?_) (fun o2 s2 d2 hq h5 b2 x5 ck5 w5 t5 sb5 => zKR_v ?_))
          · refine k0 q (stepE q (by rw [zin, hq])) h5 (zCe_le (zCe_trans (U := [4, ck, r]) x04 x5 (fun k hk => List.mem_cons_of_mem _ hk) (fun k hk => ?_)) (by omega) (by omega)) b5
            simp at hk
            rcases hk with q | q | q | q
            · exact Or.inl (by simp [q])
            · exact Or.inl (by simp [q])
            · exact Or.inr (by omega)
            · exact Or.inr (by omega)
          have zin2 : zkin N (zkbl N) held j (some l, s', d') = zkpo (eF ej) held (o2, s2, d2) := by rw [zin, hq]
          have hdd : d' ≤ d2 := zkE_m (fun i' _ => zkbl_m hg N.length i' (by omega)) hq
          have x45 : zCe [ck, r] h1 h5 (7 + (40 * (znx N j - j) - 12)) (105 + (300 * (znx N j - j) - 130)) := zCe_trans (U := [ck, r]) x14 x5 (fun k hk => hk) (fun k hk => by
            simp at hk
            rcases hk with q | q | q
            · exact Or.inl (by simp [q])
            · exact Or.inr (by omega)
            · exact Or.inr (by omega))
          have m5 : zKm h1 [ck, r] := fun k hk => by
            simp at hk
            rcases hk with rfl | rfl
            · exact Or.inr (Or.inl ⟨_, hc1⟩)
            · exact Or.inr (Or.inr ⟨_, hr1⟩)
          have hp5 := zNd_ce x45 m5 hp
          obtain ⟨fb2, hb2o⟩ := zSto_own t5
          have hr5 : zown h5 r = some (.inl (7, (ls ++ [h2.1.length + zK0]).map Value.ref ++ List.replicate (eM e - (k + 1)) Value.null)) := x5.1 _ _ (fun z => by
            simp at z
            rcases z with z | z | z
            · exact hckne z.symm
            · omega
            · omega) hr4
          -- behind the tests
          have fin : ∀ {h6 : zH} (d3 : Nat) {sz : Int32} {fb : List Value}, zEx h5 h6 1 5 → zkpo (eF ej) held (o2, s2, d2) = .inr (o2, s2, d3) → zown h5 b2 = some (.inr (8, .int sz :: fb)) → (if nI d2 < sz + nI held then sz + nI held else nI d2) = nI d3 → zw_56_199 xs (d + 18) Q (fun l0 l1 l2 l4 l5 l6 h1_1 => ∃ n1, n1 < eM e - k ∧ ∃ k o s' d' bb ls pk, l0 = some ck ∧ l1 = some a ∧ l2 = some r ∧ l4 = nI held ∧ l5 = some bb ∧ l6 = nI k ∧ n1 = eM e - k ∧ k ≤ eM e ∧ eS e = 2 ∧ zkfo (zkin N (zkbl N) held) ((zchn N (eM e) (i + 1)).take k) (some st, s, max dee (st.length + held)) = .inr (o, s', d') ∧ (∀ l, o = some l → zkok held l) ∧ d' ≤ 12 ∧ held ≤ d' ∧ (zchn N (eM e + 1) (i + 1))[k]? = some pk ∧ i + 1 ≤ pk ∧ pk ≤ znx N i ∧ zCe [ck, r] h h1_1 (40 * (pk - (i + 1))) (300 * (pk - (i + 1))) ∧ zCko h1_1 ck s' d' ∧ zB4 h1_1 w ∧ zSto h1_1 o bb ∧ ls.length = k ∧ zown h1_1 r = some (.inl (7, ls.map Value.ref ++ List.replicate (eM e - k) .null)) ∧ zStL N (zStp (h.1.length + zK0) h1_1 N (f' + 1)) held ((zchn N (eM e) (i + 1)).take k) (some st, s, max dee (st.length + held)) ls) (some ck) (some a) (some r) (nI held) (some b2) (nI k) (some p) 1 (some ck) h6 := by
            intro h6 d3 sz fb e6 hpo hbs hmx
            have hck6 : zown h6 ck = _ := zCko_ex ck5 e6
            refine zNd_gF (zNd_ex hp5 e6) (zX_cv hck6 (zc49t (zKV_v (zX_gi hck6 rfl (zX_gi (e6.1 _ _ hbs) rfl (zX_pf hck6 (show 2 < 3 by decide) ?_))))))
            rw [hmx]
            intro x12 hx12
            subst hx12
            have hkin : zkin N (zkbl N) held j (some l, s', d') = .inr (o2, s2, d3) := by rw [zin2, hpo]
            obtain ⟨v1, v2, v3, v4⟩ := zkin_ok hg hej (fun i' h1 h2 => zkbl_ok hg N.length i' (by omega) h2) hokl hd12 hkin
            have hmono : d' ≤ d3 := zkin_m (fun i' _ => zkbl_m hg N.length i' (by omega)) hkin
            obtain ⟨h7, hh7⟩ : ∃ h7, zput h6 ck (.inr (6, [.ref 4, .int (nI s2), .int (nI d2)].set 2 (.int (nI d3)))) = h7 := ⟨_, rfl⟩
            rw [hh7]
            have x67 : zCe [ck, r] h6 h7 0 0 := by rw [← hh7]; exact zCe_put hck6 (by simp)
            have x57 : zCe [ck, r] h5 h7 1 5 := zCe_trans (U := [ck, r]) (zCe_ex (S := []) e6) x67 (by simp) (fun k hk => Or.inl hk)
            have x17 : zCe [ck, r] h1 h7 (7 + (40 * (znx N j - j) - 12) + 1) (105 + (300 * (znx N j - j) - 130) + 5) := zCe_trans (U := [ck, r]) x45 x57 (fun k hk => hk) (fun k hk => Or.inl hk)
            have hck7 : zCko h7 ck s2 d3 := by rw [← hh7]; exact zown_put hck6
            have hr7 : zown h7 r = some (.inl (7, (ls ++ [h2.1.length + zK0]).map Value.ref ++ List.replicate (eM e - (k + 1)) Value.null)) := by rw [← hh7, zown_ne hck6 (fun z => hckne z.symm)]; exact e6.1 _ _ hr5
            have m6 : zKm h6 [ck] := fun k hk => by
              simp at hk
              rw [hk]
              exact Or.inr (Or.inl ⟨_, hck6⟩)
            have x67' : zCe [ck] h6 h7 0 0 := by rw [← hh7]; exact zCe_put hck6 (by simp)
            have hw7 : zB4 h7 w := by
              obtain ⟨x, y, z', q4⟩ := zB4_ex w5 e6
              exact ⟨x, y, z', x67'.1 _ _ (fun z => by simp at z; exact h4ne z) q4⟩
            have t7 : zSto h7 o2 b2 := by
              have t6 : zSto h6 o2 b2 := zSto_fr (fun k fs q => e6.1 _ _ q) (fun k fs q => e6.1 _ _ q) o2 b2 t5
              exact zSto_ce x67' m6 t6
            have S17 : zSfr (h.1.length + zK0) h1 h7 := zSfr_ce x17 m5 (fun q hq vs hv => by
              simp at hq
              rcases hq with rfl | rfl <;> omega)
            have S57 : zSfr (h4.1.length + zK0) h5 h7 := ⟨fun q fs z => zCe_im x67' m6 _ _ (e6.1 _ _ z) rfl, fun q vs _ z => x67'.1 _ _ (fun y => by
                simp at y
                rw [y, show zown h5 ck = _ from ck5] at z; cases z) (e6.1 _ _ z), fun q e' z hv => zCe_im x67' m6 _ _ (e6.1 _ _ z) (zimm_nc (znc_v hv))⟩
            have arr : ∀ q vs, zown h5 q = some (.inl (7, vs)) → zown h7 q = some (.inl (7, vs)) := fun q vs z => x67'.1 _ _ (fun y => by
                simp at y
                rw [y, show zown h5 ck = _ from ck5] at z; cases z) (e6.1 _ _ z)
            refine ⟨_, by omega, k + 1, o2, s2, d3, b2, ls ++ [h2.1.length + zK0], znx N j, rfl, rfl, rfl, rfl, rfl, nI_1 k, rfl, by omega, hS, ?_, v4, v1, by omega, zchn_nxt _ _ _ _ hpk (by omega), by omega, hjl.2.2.2, zCe_le (zCe_trans (U := [ck, r]) hx x17 (fun k hk => hk) (fun k hk => Or.inl hk)) (by omega) (by omega), hck7, hw7, t7, by rw [List.length_append, hls]; rfl, hr7, ?_⟩
            · rw [tk, zkfo_app _ _ _ _ hfo]
              show zkfo _ [j] _ = _
              rw [zkfo, hkin]
              rfl
            · rw [tk]
              refine zStL_snoc _ _ _ (zStL_mono (fun j st held a b l' hq => zStp_fr S17 (Nat.le_refl _) _ _ _ _ _ _ _ hq) _ _ _ hL) hfo ?_
              have ho97 : zown h7 (h2.1.length + zK0) = some (.inr (9, [.int (nI (eC ej)), .int (zB (zkhs l 2 10)), .ref v, .ref r1, .ref r2])) := by
                have z4 := x34.1 _ _ (nw _ (by omega)) ho9
                have z5 := x5.1 _ _ (fun z => by
                  simp at z
                  rcases z with z | z | z
                  · rw [z, show zown h4 ck = _ from hck4] at z4; cases z4
                  · omega
                  · omega) z4
                exact x67'.1 _ _ (fun y => by
                  simp at y
                  rw [y, show zown h5 ck = _ from ck5] at z5; cases z5) (e6.1 _ _ z5)
              refine ⟨ej, v, r1, r2, hej, ho97, by omega, by omega, fun h34 => ?_, fun h33 => ?_, fun he4 => ?_, fun hr4' => ?_⟩
              · have hv3 := hV (by rw [q4, h34]; decide)
                have m4 : zKm h4 [ck, r1, r2] := fun k hk => by
                  simp at hk
                  rcases hk with rfl | rfl | rfl
                  · exact Or.inr (Or.inl ⟨_, hck4⟩)
                  · exact Or.inr (Or.inr ⟨_, hst.2.2.1 (by rw [q4, h34]; decide)⟩)
                  · exact Or.inr (Or.inr ⟨_, hst.2.2.2 (by rw [q4, h34]; decide)⟩)
                have hv4 := zVal_fr (fun q e' z hv => zCe_im x34 m3 _ _ z (zimm_nc (znc_v hv))) _ _ hv3
                have hv5 := zVal_fr (fun q e' z hv => zCe_im x5 m4 _ _ z (zimm_nc (znc_v hv))) _ _ hv4
                exact zVal_fr S57.2.2 _ _ hv5
              · exact zStR_f2 S57 (by omega) (arr r1) (sb5.1 h33)
              · exact ⟨zStR_f2 S57 (by omega) (arr r1) (sb5.2.1 he4).1, fun o1 a1 b1 hb1 => zStR_f2 S57 (by omega) (arr r2) ((sb5.2.1 he4).2 o1 a1 b1 hb1)⟩
              · exact zStR_f2 S57 (by omega) (arr r1) (sb5.2.2 hr4')
          have d12 : ∀ {o3 d3}, zkpo (eF ej) held (o2, s2, d2) = .inr (o3, s2, d3) → d3 ≤ 12 := fun hz => (zkin_ok hg hej (fun i' h1 h2 => zkbl_ok hg N.length i' (by omega) h2) hokl hd12 (by rw [zin2, hz])).1
          cases o2 with
          | none =>
            have t5' : zown h5 b2 = some (.inr (8, [.int (-1), .null, .null])) := t5
            have hz : zkpo (eF ej) held (none, s2, d2) = .inr (none, s2, d2) := rfl
            have := d12 hz
            exact zX_gi t5' rfl ⟨fun z => absurd z (zm1h (by omega)), fun _ => zX_cv t5' (zc61f (d := d + 16) t5 (fun h6 t e6 tt => zKR_v (zTyp_gd tt ⟨fun z => absurd z (by decide), fun _ => fin d2 e6 hz t5' (zm1d (by omega) (by omega))⟩)))⟩
          | some l2 =>
            have ts : zStk h5 l2 b2 := t5
            obtain ⟨pp, qq, ho5⟩ := zStk_at ts
            have hl2 := zkE_len hg hej hI hrd hokl hd12 hq
            have hzp : zkpo (eF ej) held (some l2, s2, d2) = if l2.length + held ≤ 12 ∧ ztdep (zkat l2 0) ≤ 8 then .inr (some l2, s2, max d2 (l2.length + held)) else .inl (eF ej) := rfl
            refine zX_gi ho5 rfl ?_
            rw [nI_add]
            refine pk_lt 12 (l2.length + held) (fun z => ?_) (fun z => ?_)
            · refine bad x45 hp5 ⟨_, _, ck5⟩ w5 (by omega) (by omega) ?_
              rw [zin2, hzp, if_neg (by omega)]
            · refine zatt (d := d + 16) 0 ts (by omega) (by decide) (fun h6 t e6 tt => zTyp_gd tt ?_)
              have hdp := zkE_hd hg hej hI hrd hokl hd12 hq
              refine pk_lt 8 (ztdep (zkat l2 0)) (fun z2 => ?_) (fun z2 => ?_)
              · refine bad (zCe_trans (U := [ck, r]) x45 (zCe_ex (S := []) e6) (fun k hk => hk) (by simp)) (zNd_ex hp5 e6) ⟨_, _, zCko_ex ck5 e6⟩ (zB4_ex w5 e6) (by omega) (by omega) ?_
                rw [zin2, hzp, if_neg (by omega)]
              · have hz : zkpo (eF ej) held (some l2, s2, d2) = .inr (some l2, s2, max d2 (l2.length + held)) := by rw [hzp, if_pos ⟨by omega, by omega⟩]
                have := d12 hz
                refine fin (max d2 (l2.length + held)) e6 hz ho5 ?_
                rw [nI_add]
                exact zmx (by omega) (by omega)
      · -- the end
        have hke : k = eM e := by omega
        subst hke
        have htk : (zchn N (eM e) (i + 1)).take (eM e) = zchn N (eM e) (i + 1) := List.take_of_length_le (by rw [zchn_len]; omega)
        rw [htk] at hfo hL
        rw [hfo] at spec
        refine k1 o s' d' spec h1 bb (zCe_le hx (by omega) (by omega)) hc1 hw1 ht1 ⟨e, ls, he, ?_, zStL_mono (zStp_up f) _ _ _ hL⟩
        rw [hr1, Nat.sub_self, List.replicate_zero, List.append_nil]
    · refine zNd_gS hn he ?_
      by_cases hS : eS e = 2
      · rw [if_pos hS] at spec
        rw [show (if eS e = 3 then 4 else eS e) = 2 by rw [hS]; rfl]
        obtain ⟨pb, qb, hbo⟩ := zStk_at hs
        have hck' : zown h ck = some (.inr (6, [.ref 4, .int (nI s), .int (nI dee)])) := hck
        refine ⟨fun _ => zNd_gF hn (zX_cv hck (zc49t (zKV_v (zX_gi hck' rfl (zX_gi hbo rfl (zX_pf hck' (show 2 < 3 by decide) ?_)))))), fun z => absurd rfl z⟩
        rw [nI_add, zmx (by omega) (by omega)]
        have hrs : zrsz N i = eM e := by unfold zrsz; rw [he]; dsimp only; rw [if_pos hS]
        have x0 : zCe [ck, r] h (zput h ck (.inr (6, [.ref 4, .int (nI s), .int (nI dee)].set 2 (.int (nI (max dee (st.length + held))))))) 0 0 := zCe_put hck' (by simp)
        have m0 : zKm h [ck] := fun k hk => by
          simp at hk
          rw [hk]
          exact Or.inr (Or.inl ⟨_, hck⟩)
        have x0' : zCe [ck] h (zput h ck (.inr (6, [.ref 4, .int (nI s), .int (nI dee)].set 2 (.int (nI (max dee (st.length + held))))))) 0 0 := zCe_put hck' (by simp)
        refine ⟨_, 0, some st, s, max dee (st.length + held), b, [], i + 1, rfl, rfl, rfl, rfl, rfl, rfl, rfl, Nat.zero_le _, hS, rfl, fun l hl => by cases hl; exact hok, by omega, by omega, rfl, Nat.le_refl _, by omega, zCe_le x0 (by omega) (by omega), zown_put hck', ?_, zStk_ce x0' m0 hs, rfl, ?_, rfl⟩
        · obtain ⟨x, y, z', q4⟩ := hb4
          exact ⟨x, y, z', x0'.1 _ _ (fun z => by simp at z; exact h4ne z) q4⟩
        · rw [x0'.1 _ _ (fun z => by simp at z; exact hckne z.symm) hr, hrs]
          rfl
      · rw [if_neg hS] at spec
        have hs3 := (hg.1.2 i e he).1
        refine pk_eq (if eS e = 3 then 4 else eS e) 2 (fun z => ?_) (fun z => ?_) rfl rfl (by split <;> omega)
        · exfalso
          split at z <;> omega
        · refine zNd_gF hn (zX_cv hck (zc49f (by omega) (zCko_k hck) hb4 (fun h6 x6 b6 => ?_)))
          rw [hFp] at b6
          exact k0 _ spec h6 (zCe_le (zCe_mono x6 (fun k hk => by simp at hk; simp [hk])) (by omega) (by omega)) b6
theorem zc56 (hg : zGd N) : ∀ n f, f ≤ n → f ≤ 90 → zP56 xs N ck f
  | _, 0, _, _ => fun i a r b D st held s dee h Q w hn => hn.elim
  | 0, f + 1, h1, _ => absurd h1 (by omega)
  | n + 1, f + 1, h1, h2 => zc56s hg f h2 (fun g hgf => zc56 hg n g (by omega) (by omega))
end BLK4
