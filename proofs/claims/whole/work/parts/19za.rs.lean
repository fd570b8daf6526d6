/-! values keep their types -/
def zCfo : List Term → List Term → Prop
  | [], [] => True
  | T :: l, V :: m => zVt T V ∧ zCfo l m
  | _, _ => False
/-- the longest row in a value -/
def zmr : Term → Nat
  | .rem x l => max (zmr x) (zmr l)
  | .old l => max (zels l).length (zmr l)
  | .length l => max (zels l).length (zmr l)
  | .sum l => max (zels l).length (zmr l)
  | .div _ v => zmr v
  | .add a b => max (zmr a) (zmr b)
  | _ => 0
section RS
variable {st vs vs' : List Term} {T U V C : Term} {held bits c B : Nat}
theorem zCfo_len : ∀ {st vs : List Term}, zCfo st vs → st.length = vs.length
  | [], [], _ => rfl
  | _ :: l, _ :: m, h => by rw [List.length_cons, List.length_cons, zCfo_len h.2]
  | [], _ :: _, h => h.elim
  | _ :: _, [], h => h.elim
theorem zCfo_drop : ∀ {st vs : List Term} (n : Nat), zCfo st vs → zCfo (st.drop n) (vs.drop n)
  | _, _, 0, h => h
  | [], [], _ + 1, _ => trivial
  | _ :: _, _ :: _, n + 1, h => zCfo_drop n h.2
  | [], _ :: _, _ + 1, h => h.elim
  | _ :: _, [], _ + 1, h => h.elim
theorem zCfo_at : ∀ {st vs : List Term} (i : Nat), zCfo st vs → i < st.length → zVt (zkat st i) (zkat vs i)
  | _ :: _, _ :: _, 0, h, _ => h.1
  | _ :: _, _ :: _, n + 1, h, hi => zCfo_at n h.2 (by rw [List.length_cons] at hi; omega)
  | [], _, _, _, hi => absurd hi (Nat.not_lt_zero _)
  | _ :: _, [], _, h, _ => h.elim
theorem zCfo_split : ∀ {st vs : List Term} (i : Nat), zCfo st vs → i < st.length → st.drop i = zkat st i :: st.drop (i + 1) ∧ vs.drop i = zkat vs i :: vs.drop (i + 1)
  | _ :: _, _ :: _, 0, _, _ => ⟨rfl, rfl⟩
  | _ :: _, _ :: _, n + 1, h, hi => zCfo_split n h.2 (by rw [List.length_cons] at hi; omega)
  | [], _, _, _, hi => absurd hi (Nat.not_lt_zero _)
  | _ :: _, [], _, h, _ => h.elim
theorem zVt_i0 : zVt (.arg 0) (.arg 20) := Or.inl ⟨rfl, rfl⟩
theorem zVt_i1 (b : Bool) : zVt (.arg 1) (ztr b) := Or.inr (Or.inl ⟨rfl, by cases b; exact Or.inl rfl; exact Or.inr rfl⟩)
theorem zVt_i2 {s : Bool} {n : Nat} (h : n < 2 ^ 120) (hs : s = true → n ≠ 0) : zVt (.arg 2) (zmn s n) := Or.inr (Or.inr (Or.inl ⟨Or.inl rfl, s, n, rfl, h, hs, fun z => by cases z⟩))
theorem zVt_i3 {n : Nat} (h : n < 2 ^ 120) : zVt (.arg 3) (zmn false n) := Or.inr (Or.inr (Or.inl ⟨Or.inr rfl, false, n, rfl, h, fun z => (by cases z), fun _ => rfl⟩))
theorem zVt_i4 {k w : Nat} (h : zTxo k w) : zVt (.arg 4) (.mul (.arg k) (.arg w)) := Or.inr (Or.inr (Or.inr ⟨rfl, k, w, rfl, h⟩))
theorem zVt_i5 {A B a b : Term} (h1 : zVt A a) (h2 : zVt B b) : zVt (.add (.div (.arg 5) A) B) (.add (.div (.arg 23) a) b) := by
  unfold zVt; exact Or.inl ⟨rfl, a, b, rfl, h1, h2⟩
theorem zVt_i6n : zVt (.div (.arg 6) T) (.arg 24) := by unfold zVt; exact Or.inl ⟨rfl, Or.inl rfl⟩
theorem zVt_i6 {v : Term} (h : zVt T v) : zVt (.div (.arg 6) T) (.div (.arg 25) v) := by unfold zVt; exact Or.inl ⟨rfl, Or.inr ⟨v, rfl, h⟩⟩
theorem zVt_i7l {v : Term} (h : zVt T v) : zVt (.add (.div (.arg 7) T) U) (.div (.arg 26) v) := by unfold zVt; exact Or.inr (Or.inl ⟨rfl, Or.inl ⟨v, rfl, h⟩⟩)
theorem zVt_i7r {v : Term} (h : zVt U v) : zVt (.add (.div (.arg 7) T) U) (.div (.arg 27) v) := by unfold zVt; exact Or.inr (Or.inl ⟨rfl, Or.inr ⟨v, rfl, h⟩⟩)
theorem zVt_i8 {L : List Term} (h : ∀ v ∈ L, zVt T v) : zVt (.div (.arg 8) T) (.old (zenc L)) := by unfold zVt; exact Or.inr ⟨rfl, L, rfl, h⟩
theorem zVt_i9 {es : List (Term × Term)} (h : ∀ e ∈ es, zVt T e.1 ∧ zVt U e.2) (hs : zSrt es) : zVt (.add (.div (.arg 9) T) U) (.length (zenc (es.map fun e => zent2 e.1 e.2))) := by unfold zVt; exact Or.inr (Or.inr (Or.inl ⟨rfl, es, rfl, h, hs⟩))
theorem zVt_i10 {L : List Term} (h : ∀ x ∈ L, ∃ k v, zVt T k ∧ ((x = zent2 k v ∧ zVt U v) ∨ x = .add (.div (.arg 29) k) k)) : zVt (.add (.div (.arg 10) T) U) (.sum (zenc L)) := by unfold zVt; exact Or.inr (Or.inr (Or.inr ⟨rfl, L, rfl, h⟩))
theorem zsg_mn (s : Bool) (n : Nat) : zsg (zmn s n) = s := by cases s <;> rfl
theorem zna_mn (s : Bool) (n : Nat) : zna (zmn s n) = n := rfl
/-- a number of a type of numbers, by its parts -/
theorem zVt_n (ht : zTok T) (hk : zkn T = true) (hv : zVt T V) : zna V < 2 ^ 120 ∧ (zsg V = true → zna V ≠ 0) ∧ (ztc T = 3 → zsg V = false) ∧ V = zmn (zsg V) (zna V) := by
  have hc : ztc T = 2 ∨ ztc T = 3 := by unfold zkn at hk; simpa using hk
  obtain ⟨s, n, rfl, h1, h2, h3⟩ := zVt_num ht hc hv
  rw [zsg_mn, zna_mn]
  exact ⟨h1, h2, h3, rfl⟩
theorem zkn_at (h : zkn (zkat st c) = true) : c < st.length := by
  by_cases hi : c < st.length
  · exact hi
  · exfalso
    have : zkat st c = .arg 0 := by unfold zkat; rw [List.getD_eq_getElem?_getD, List.getElem?_eq_none (by omega)]; rfl
    rw [this] at h; cases h
theorem zkm_at (h : zkm (zkat st c) = true) : c < st.length := by
  by_cases hi : c < st.length
  · exact hi
  · exfalso
    have : zkat st c = .arg 0 := by unfold zkat; rw [List.getD_eq_getElem?_getD, List.getElem?_eq_none (by omega)]; rfl
    rw [this] at h; cases h
theorem zp120 (h : bits ≤ 120) {n : Nat} (hn : n < 2 ^ bits) : n < 2 ^ 120 := Nat.lt_of_lt_of_le hn (Nat.pow_le_pow_right (by decide) h)
theorem zsum_ok {s : Bool} {n : Nat} {t : Bool} {m : Nat} : ((zsum s n t m).1 = true → (zsum s n t m).2 ≠ 0) ∧ (s = false → t = false → (zsum s n t m).1 = false) := by
  unfold zsum
  refine ⟨fun z => ?_, fun h1 h2 => ?_⟩
  · split at z
    · rename_i q; rw [if_pos q]; simp at z; simpa using z.2
    · rename_i q; rw [if_neg q]
      split at z
      · rename_i q2; rw [if_pos q2]; simp at z; exact fun y => by have : m - n = 0 := y; omega
      · rename_i q2; rw [if_neg q2]; simp at z; exact fun y => by have : n - m = 0 := y; omega
  · rw [h1, h2, if_pos rfl]; rfl
theorem zquo_ok {s : Bool} {n : Nat} {t : Bool} {m : Nat} : ((zquo s n t m).1.1 = true → (zquo s n t m).1.2 ≠ 0) ∧ (s = false → t = false → (zquo s n t m).1.1 = false) := by
  unfold zquo
  refine ⟨fun z => ?_, fun h1 h2 => ?_⟩
  · split at z
    · rename_i q; rw [if_pos q]; exact Nat.succ_ne_zero _
    · rename_i q; rw [if_neg q]; simp at z; intro y
      have y : n / m = 0 := y
      rw [Nat.div_eq_zero_iff] at y
      omega
  · rw [h1, h2, if_neg (fun z => by cases z.1)]; rfl
end RS
/-! a text behind a text -/
section RS2
theorem zTxo_cat {k l w v : Nat} (h1 : zTxo k w) (h2 : zTxo l v) (hk : k + l ≤ 8) : zTxo (k + l) (w + v / 2 ^ (8 * k)) := by
  obtain ⟨a1, a2, a3, a4⟩ := h1
  obtain ⟨b1, b2, b3, b4⟩ := h2
  have hA : w = 2 ^ (8 * (8 - k)) * (w / 2 ^ (8 * (8 - k))) := by
    have := Nat.div_add_mod w (2 ^ (8 * (8 - k)))
    omega
  generalize hq : w / 2 ^ (8 * (8 - k)) = q at hA
  have hB : v = 2 ^ (8 * (8 - l)) * (v / 2 ^ (8 * (8 - l))) := by
    have := Nat.div_add_mod v (2 ^ (8 * (8 - l)))
    omega
  generalize hp : v / 2 ^ (8 * (8 - l)) = p at hB
  have hy : v / 2 ^ (8 * k) < 2 ^ (8 * (8 - k)) := by
    refine Nat.div_lt_of_lt_mul ?_
    rw [← Nat.pow_add, show 8 * k + 8 * (8 - k) = 64 by omega]
    exact Nat.lt_trans b2 (by decide)
  generalize hyy : v / 2 ^ (8 * k) = y at hy ⊢
  have hpos : ∀ n : Nat, 0 < 2 ^ n := fun n => Nat.pow_pos (by decide)
  refine ⟨hk, ?_, ?_, fun i hi => ?_⟩
  · by_cases k0 : k = 0
    · subst k0
      have : q = 0 := by
        rcases Nat.eq_zero_or_pos q with z | z
        · exact z
        · exfalso
          have : (2 : Nat) ^ (8 * (8 - 0)) * 1 ≤ 2 ^ (8 * (8 - 0)) * q := Nat.mul_le_mul_left _ z
          have e : (2 : Nat) ^ (8 * (8 - 0)) = 18446744073709551616 := by decide
          rw [← hA, e] at this
          omega
      rw [this] at hA
      have hv : v / 2 ^ (8 * 0) = v := by rw [show 8 * 0 = 0 from rfl, Nat.pow_zero, Nat.div_one]
      rw [hv] at hyy
      omega
    · have e : (2 : Nat) ^ 63 = 2 ^ (8 * (8 - k)) * 2 ^ (8 * k - 1) := by rw [← Nat.pow_add]; congr 1; omega
      have hq2 : q < 2 ^ (8 * k - 1) := by
        rw [hA, e] at a2
        exact Nat.lt_of_mul_lt_mul_left a2
      have : 2 ^ (8 * (8 - k)) * (q + 1) ≤ 2 ^ (8 * (8 - k)) * 2 ^ (8 * k - 1) := Nat.mul_le_mul_left _ hq2
      rw [← e, Nat.mul_add, Nat.mul_one, ← hA] at this
      exact Nat.lt_of_lt_of_le (Nat.add_lt_add_left hy w) this
  · have e1 : (2 : Nat) ^ (8 * (8 - k)) = 2 ^ (8 * (8 - (k + l))) * 2 ^ (8 * l) := by rw [← Nat.pow_add]; congr 1; omega
    have e2 : (2 : Nat) ^ (8 * (8 - l)) = 2 ^ (8 * k) * 2 ^ (8 * (8 - (k + l))) := by rw [← Nat.pow_add]; congr 1; omega
    have hy2 : y = 2 ^ (8 * (8 - (k + l))) * p := by
      rw [← hyy, hB, e2, Nat.mul_assoc, Nat.mul_div_cancel_left _ (hpos _)]
    rw [hA, hy2, e1, Nat.mul_assoc, ← Nat.mul_add]
    exact Nat.mul_mod_right _ _
  · by_cases hik : i < k
    · have e : (2 : Nat) ^ (8 * (7 - i)) = 2 ^ (8 * (8 - k)) * 2 ^ (8 * (k - 1 - i)) := by rw [← Nat.pow_add]; congr 1; omega
      have hw : (w + y) / 2 ^ (8 * (7 - i)) = w / 2 ^ (8 * (7 - i)) := by
        rw [e, ← Nat.div_div_eq_div_mul, ← Nat.div_div_eq_div_mul, hA, Nat.mul_add_div (hpos _), Nat.div_eq_of_lt hy, Nat.mul_div_cancel_left _ (hpos _), Nat.add_zero]
      rw [hw]
      exact a4 i hik
    · have e : (2 : Nat) ^ (8 * (8 - k)) = 2 ^ (8 * (7 - i)) * (256 * 2 ^ (8 * (i - k))) := by
        rw [show (256 : Nat) = 2 ^ 8 from rfl, ← Nat.pow_add, ← Nat.pow_add]; congr 1; omega
      have hw : (w + y) / 2 ^ (8 * (7 - i)) % 256 = v / 2 ^ (8 * (7 - (i - k))) % 256 := by
        rw [hA, e, Nat.mul_assoc, Nat.mul_add_div (hpos _), Nat.mul_assoc, Nat.mul_add_mod, ← hyy, Nat.div_div_eq_div_mul, ← Nat.pow_add]
        congr 3
        omega
      rw [hw]
      exact b4 (i - k) (by omega)
end RS2
/-! the plain instructions keep types -/
section RS3
variable {st vs vs' : List Term} {T U V C : Term} {held bits c B : Nat}
theorem zCfo_c {l m : List Term} (h : zVt T V) (h2 : zCfo l m) : zCfo (T :: l) (V :: m) := ⟨h, h2⟩
theorem zkat_g (hg : ∀ T, T ∈ st → zTg1 T) (i : Nat) (hi : i < st.length) : zTg1 (zkat st i) := by
  rw [zkat_lt hi]; exact hg _ (List.getElem_mem hi)
theorem zs_pair (hg : zTg1 T) (hc : ztc T = 5) (hv : zVt T V) : zVt (zt1 T) (zv1 V) ∧ zVt (zt2 T) (zv2 V) := by
  obtain ⟨a, b, rfl, h1, h2⟩ := zVt_pair hg.1 hc hv
  exact ⟨h1, h2⟩
theorem zs_cons (hg : zTg1 U) (hc : ztc U = 8) (hv : zVt (zt1 U) T) (hl : zVt U V) : zVt U (zcons T V) := by
  obtain ⟨L, rfl, h1⟩ := zVt_list hg.1 hc hl
  rw [zsh1 hg.1 (Or.inr hc), hc]
  exact zVt_i8 (L := T :: L) (fun v hv' => by
    rcases List.mem_cons.mp hv' with rfl | z
    · exact hv
    · exact h1 v z)
theorem zget_t {es : List (Term × Term)} (h : ∀ e ∈ es, zVt U e.2) (key : Term) : zVt (.div (.arg 6) U) (zget key es) := by
  unfold zget
  split
  · rename_i q
    unfold zka at q
    split at q
    · rename_i e he
      rw [he]
      exact zVt_i6 (h e (List.mem_of_getElem? he))
    · cases q
  · exact zVt_i6n
theorem zfd_t {K : Term} : ∀ {L : List Term} (h : ∀ x ∈ L, ∃ k v, zVt K k ∧ ((x = zent2 k v ∧ zVt U v) ∨ x = .add (.div (.arg 29) k) k)) (key : Term), zVt (.div (.arg 6) U) (zfd key L)
  | [], _, _ => zVt_i6n
  | x :: L, h, key => by
    unfold zfd
    obtain ⟨k, v, _, hx⟩ := h x List.mem_cons_self
    split
    · rcases hx with ⟨rfl, hv⟩ | rfl
      · exact zVt_i6 hv
      · exact zVt_i6n
    · exact zfd_t (fun y hy => h y (List.mem_cons_of_mem _ hy)) key
theorem zgt_ty (hg : zTg1 T) (hm : zkm T = true) (hv : zVt T V) (key : Term) : zVt (.div (.arg 6) (zt2 T)) (zgt key V) := by
  have hc : ztc T = 9 ∨ ztc T = 10 := by unfold zkm at hm; simpa using hm
  rcases hc with hc | hc
  · obtain ⟨es, rfl, h1, _⟩ := zVt_map hg.1 hc hv
    show zVt _ (zget key _)
    rw [zels_enc, zpr_map]
    exact zget_t (fun e he => (h1 e he).2) key
  · obtain ⟨L, rfl, h1⟩ := zVt_big hg.1 hc hv
    show zVt _ (zfd key _)
    rw [zels_enc]
    exact zfd_t h1 key
theorem zud_ty {k o : Term} (hg : zTg1 T) (hm : zkm T = true) (hv : zVt T V) (hk : zVt (zt1 T) k) (ho : zVt (.div (.arg 6) (zt2 T)) o) : zVt T (zud k o V) := by
  have hc : ztc T = 9 ∨ ztc T = 10 := by unfold zkm at hm; simpa using hm
  have ho' := zVt_opt (T := .div (.arg 6) (zt2 T)) ⟨Or.inl rfl, (zTg1_2 hg).1⟩ rfl ho
  have hsim : ztsim (zt1 T) = true := by
    have := hg.2
    rw [zsh2 hg.1 (by omega)] at this
    exact this.1 hc
  rcases hc with hc | hc
  · obtain ⟨es, rfl, h1, h2⟩ := zVt_map hg.1 hc hv
    have e : zud k o (.length (zenc (es.map fun e => zent2 e.1 e.2))) = .length (zenc ((zupl k o es).map fun e => zent2 e.1 e.2)) := by
      show Term.length _ = _
      rw [zels_enc, zpr_map]
    rw [e, zsh2 hg.1 (by omega), hc]
    refine zVt_i9 (fun x hx => ?_) (zupl_srt (zTg1_1 hg).1 hsim hk es (fun e he => (h1 e he).1) h2)
    rcases zupl_in es x hx with z | z
    · exact h1 x z
    · obtain ⟨z1, c, z2⟩ := zopl_in z
      rw [z1]
      refine ⟨hk, ?_⟩
      rcases ho' with rfl | ⟨v, rfl, hv'⟩
      · cases z2
      · cases z2; exact hv'
  · obtain ⟨L, rfl, h1⟩ := zVt_big hg.1 hc hv
    rw [zsh2 hg.1 (by omega), hc]
    rcases ho' with rfl | ⟨v, rfl, hv'⟩
    · exact zVt_i10 (L := .add (.div (.arg 29) k) k :: L) (fun x hx => by
        rcases List.mem_cons.mp hx with rfl | z
        · exact ⟨k, k, hk, Or.inr rfl⟩
        · exact h1 x z)
    · exact zVt_i10 (L := zent2 k v :: L) (fun x hx => by
        rcases List.mem_cons.mp hx with rfl | z
        · exact ⟨k, v, hk, Or.inl ⟨rfl, hv'⟩⟩
        · exact h1 x z)
theorem zszd_t {r : Bool × Nat} (hb : bits ≤ 120) (h : zszd bits r = some V) : V = zmn r.1 r.2 ∧ r.2 < 2 ^ 120 := by
  unfold zszd at h
  split at h
  · rename_i q; cases h; exact ⟨rfl, zp120 hb q⟩
  · cases h
theorem zsm_t {s : Bool} {n : Nat} (hn : n < 2 ^ 120) (h0 : s = true → n ≠ 0) (h3 : c ≠ 61 → zkhs st 0 3 = true → zkhs st 1 3 = true → s = false) : zVt (zksm c st) (zmn s n) := by
  unfold zksm
  split
  · rename_i q; rw [h3 q.1 q.2.1 q.2.2]; exact zVt_i3 hn
  · exact zVt_i2 hn h0
theorem zcpn_t {r : Int32} : zVt (.arg 2) (zcpn r) := by
  unfold zcpn
  split
  · exact zVt_i2 (by decide) (fun z => by cases z)
  · split
    · exact zVt_i2 (by decide) (fun _ => by decide)
    · exact zVt_i2 (by decide) (fun z => by cases z)
theorem zsize_le : zsize V ≤ max 8 (zmr V) ∨ ∃ k w, V = .mul (.arg k) w := by
  unfold zsize
  split
  · exact Or.inr ⟨_, _, rfl⟩
  · unfold zrws
    split
    · left; rw [zmr]; omega
    · left; rw [zmr]; omega
    · left; rw [zmr]; omega
    · left; simp
end RS3
section RS4
variable {st vs vs' : List Term} {T U V C : Term} {held bits c B : Nat}
/-- a plain instruction: no type, no row of code, not FAIL -/
def zpln (c : Nat) : Prop := 30 ≤ c ∧ c ≤ 75 ∧ c ≠ 33 ∧ c ≠ 58 ∧ c ≠ 41 ∧ c ≠ 44 ∧ c ≠ 47 ∧ c ≠ 49 ∧ c ≠ 50 ∧ c ≠ 59 ∧ c ≠ 34 ∧ c ≠ 40 ∧ c ≠ 42 ∧ c ≠ 43 ∧ c ≠ 45 ∧ c ≠ 51
def zSo (bits : Nat) (C : Term) (st vs : List Term) (held c : Nat) : Prop := (∀ T, T ∈ st → zTg1 T) → zCfo st vs → bits ≤ 120 → (∀ v ∈ vs, zmr v ≤ 400) → zkrd c st held = true → ∀ vs', zop bits c vs C = some vs' → zCfo (zkaf c st) vs'
theorem zs30 : zSo bits C st vs held 30 := fun _ hv _ _ _ vs' ho => by cases ho; exact zCfo_drop 1 hv
theorem zs31 : zSo bits C st vs held 31 := fun _ hv _ _ hr vs' ho => by cases ho; exact ⟨zCfo_at 0 hv (of_decide_eq_true hr), hv⟩
theorem zs32 : zSo bits C st vs held 32 := fun _ hv _ _ hr vs' ho => by
  have hr : 2 ≤ st.length := of_decide_eq_true hr
  cases ho; exact ⟨zCfo_at 1 hv hr, zCfo_at 0 hv (by omega), zCfo_drop 2 hv⟩
theorem zs35 : zSo bits C st vs held 35 := fun _ hv _ _ hr vs' ho => by cases ho; exact ⟨zVt_i0, hv⟩
theorem zs36 : zSo bits C st vs held 36 := fun _ hv _ _ hr vs' ho => by
  have hr : 2 ≤ st.length := of_decide_eq_true hr
  cases ho; exact ⟨zVt_i5 (zCfo_at 0 hv (by omega)) (zCfo_at 1 hv hr), zCfo_drop 2 hv⟩
theorem zs37 : zSo bits C st vs held 37 := fun hg hv _ _ hr vs' ho => by
  have hr := zkhs_c (k := 0) (c := 5) hr
  cases ho; exact ⟨(zs_pair (zkat_g hg 0 hr.1) hr.2 (zCfo_at 0 hv hr.1)).1, zCfo_drop 1 hv⟩
theorem zs38 : zSo bits C st vs held 38 := fun hg hv _ _ hr vs' ho => by
  have hr := zkhs_c (k := 0) (c := 5) hr
  cases ho; exact ⟨(zs_pair (zkat_g hg 0 hr.1) hr.2 (zCfo_at 0 hv hr.1)).2, zCfo_drop 1 hv⟩
theorem zs39 : zSo bits C st vs held 39 := fun hg hv _ _ hr vs' ho => by
  cases ho; exact ⟨zVt_i6 (zCfo_at 0 hv (of_decide_eq_true hr)), zCfo_drop 1 hv⟩
theorem zs46 : zSo bits C st vs held 46 := fun hg hv _ _ hr vs' ho => by
  have hr : (zkhs st 1 8 && zt1 (zkat st 1) == zkat st 0) = true := hr
  simp only [Bool.and_eq_true, beq_iff_eq] at hr
  have h1 := zkhs_c hr.1
  cases ho
  have e := (zCfo_split 1 hv h1.1).1
  show zCfo (st.drop 1) _
  rw [e]
  exact ⟨zs_cons (zkat_g hg 1 h1.1) h1.2 (by rw [hr.2]; exact zCfo_at 0 hv (by omega)) (zCfo_at 1 hv h1.1), zCfo_drop 2 hv⟩
theorem zs48 : zSo bits C st vs held 48 := fun hg hv _ hm hr vs' ho => by
  have hr : (zkhs st 0 8 || zkhs st 0 9 || zkhs st 0 4) = true := hr
  simp only [Bool.or_eq_true] at hr
  have h0 : 0 < st.length := by
    rcases hr with (z | z) | z <;> exact (zkhs_c z).1
  cases ho
  refine ⟨zVt_i3 ?_, zCfo_drop 1 hv⟩
  rcases zsize_le (V := zkat vs 0) with z | ⟨k, w, z⟩
  · have hl := zCfo_len hv
    have := hm (zkat vs 0) (by rw [zkat_lt (by omega)]; exact List.getElem_mem _)
    have e : (400 : Nat) < 2 ^ 120 := by decide
    omega
  · rcases hr with (y | y) | y
    · obtain ⟨L, e, _⟩ := zVt_list (zkat_g hg 0 h0).1 (zkhs_c y).2 (zCfo_at 0 hv h0)
      rw [e] at z; cases z
    · obtain ⟨L, e, _⟩ := zVt_map (zkat_g hg 0 h0).1 (zkhs_c y).2 (zCfo_at 0 hv h0)
      rw [e] at z; cases z
    · obtain ⟨k, w, e, ht⟩ := zVt_text (zkat_g hg 0 h0).1 (zkhs_c y).2 (zCfo_at 0 hv h0)
      rw [e]
      show k < 2 ^ 120
      have := ht.1
      have e : (8 : Nat) < 2 ^ 120 := by decide
      omega
theorem zs52 : zSo bits C st vs held 52 := fun hg hv _ _ hr vs' ho => by
  have hr : (zkm (zkat st 1) && zt1 (zkat st 1) == zkat st 0) = true := hr
  simp only [Bool.and_eq_true, beq_iff_eq] at hr
  have h1 := zkm_at hr.1
  cases ho
  exact ⟨zgt_ty (zkat_g hg 1 h1) hr.1 (zCfo_at 1 hv h1) _, zCfo_drop 2 hv⟩
theorem zs53 : zSo bits C st vs held 53 := fun hg hv _ _ hr vs' ho => by
  have hr : (zkm (zkat st 2) && zt1 (zkat st 2) == zkat st 0 && zkhs st 1 6 && zt2 (zkat st 2) == zt1 (zkat st 1)) = true := hr
  simp only [Bool.and_eq_true, beq_iff_eq] at hr
  have h1 := zkm_at hr.1.1.1
  have h6 := zkhs_c hr.1.2
  cases ho
  have e := (zCfo_split 2 hv h1).1
  show zCfo (st.drop 2) _
  rw [e]
  refine ⟨zud_ty (zkat_g hg 2 h1) hr.1.1.1 (zCfo_at 2 hv h1) (by rw [hr.1.1.2]; exact zCfo_at 0 hv (by omega)) ?_, zCfo_drop 3 hv⟩
  have := zCfo_at 1 hv h6.1
  rw [zsh1 (zkat_g hg 1 h6.1).1 (Or.inl h6.2), h6.2] at this
  rw [hr.2]
  exact this
theorem zs54 : zSo bits C st vs held 54 := fun hg hv _ _ hr vs' ho => by cases ho; exact ⟨zVt_i1 _, zCfo_drop 2 hv⟩
theorem ztok_a {k : Nat} (h : zTok T) (hc : ztc T = k) (hk : k ≤ 4) : T = .arg k := by
  unfold zTok at h
  split at h
  · exact congrArg _ hc
  · rename_i x y
    have hc : x = k := hc
    have := h.1
    omega
  · rename_i x y z
    have hc : x = k := hc
    have := h.1
    omega
  · exact h.elim
theorem zs_bb (hg : ∀ T, T ∈ st → zTg1 T) (h : (zkhs st 0 1 && zkhs st 1 1) = true) : st.drop 1 = .arg 1 :: st.drop 2 := by
  simp only [Bool.and_eq_true] at h
  have h1 := zkhs_c h.2
  have e : st.drop 1 = zkat st 1 :: st.drop 2 := by rw [zkat_lt h1.1]; exact List.drop_eq_getElem_cons h1.1
  rw [e]
  congr 1
  exact ztok_a (zkat_g hg 1 h1.1).1 h1.2 (by decide)
theorem zs55 : zSo bits C st vs held 55 := fun hg hv _ _ hr vs' ho => by
  cases ho
  show zCfo (st.drop 1) _
  rw [zs_bb hg hr]; exact ⟨zVt_i1 _, zCfo_drop 2 hv⟩
theorem zs56 : zSo bits C st vs held 56 := fun hg hv _ _ hr vs' ho => by
  cases ho
  show zCfo (st.drop 1) _
  rw [zs_bb hg hr]; exact ⟨zVt_i1 _, zCfo_drop 2 hv⟩
theorem zs57 : zSo bits C st vs held 57 := fun hg hv _ _ hr vs' ho => by
  have hr := zkhs_c (k := 0) (c := 1) hr
  cases ho
  show zCfo st _
  have e := (zCfo_split 0 hv hr.1).1
  rw [List.drop_zero, ztok_a (zkat_g hg 0 hr.1).1 hr.2 (by decide)] at e
  rw [e]; exact ⟨zVt_i1 _, zCfo_drop 1 hv⟩
theorem zs_nn (hg : ∀ T, T ∈ st → zTg1 T) (hv : zCfo st vs) (h : (zkn (zkat st 0) && zkn (zkat st 1)) = true) : (zkhs st 0 3 = true → zsg (zkat vs 0) = false) ∧ (zkhs st 1 3 = true → zsg (zkat vs 1) = false) := by
  simp only [Bool.and_eq_true] at h
  have a0 := zkn_at h.1
  have a1 := zkn_at h.2
  have n0 := zVt_n (zkat_g hg 0 a0).1 h.1 (zCfo_at 0 hv a0)
  have n1 := zVt_n (zkat_g hg 1 a1).1 h.2 (zCfo_at 1 hv a1)
  exact ⟨fun z => n0.2.2.1 (zkhs_c z).2, fun z => n1.2.2.1 (zkhs_c z).2⟩
theorem zs60 : zSo bits C st vs held 60 := fun hg hv hb _ hr vs' ho => by
  have n := zs_nn hg hv hr
  have ho : (zszd bits (zsum (zsg (zkat vs 0)) (zna (zkat vs 0)) (zsg (zkat vs 1)) (zna (zkat vs 1)))).map (fun v => v :: vs.drop 2) = some vs' := ho
  obtain ⟨V, e1, rfl⟩ := Option.map_eq_some_iff.mp ho
  obtain ⟨rfl, h2⟩ := zszd_t hb e1
  exact ⟨zsm_t h2 zsum_ok.1 (fun _ a b => zsum_ok.2 (n.1 a) (n.2 b)), zCfo_drop 2 hv⟩
theorem zs61 : zSo bits C st vs held 61 := fun hg hv hb _ hr vs' ho => by
  have ho : (zszd bits (zsum (zsg (zkat vs 0)) (zna (zkat vs 0)) (!(zsg (zkat vs 1))) (zna (zkat vs 1)))).map (fun v => v :: vs.drop 2) = some vs' := ho
  obtain ⟨V, e1, rfl⟩ := Option.map_eq_some_iff.mp ho
  obtain ⟨rfl, h2⟩ := zszd_t hb e1
  exact ⟨zsm_t h2 zsum_ok.1 (fun z => absurd rfl z), zCfo_drop 2 hv⟩
theorem zs62 : zSo bits C st vs held 62 := fun hg hv hb _ hr vs' ho => by
  have n := zs_nn hg hv hr
  have ho : (zszd bits ((zsg (zkat vs 0) != zsg (zkat vs 1)) && (zna (zkat vs 0) * zna (zkat vs 1) != 0), zna (zkat vs 0) * zna (zkat vs 1))).map (fun v => v :: vs.drop 2) = some vs' := ho
  obtain ⟨V, e1, rfl⟩ := Option.map_eq_some_iff.mp ho
  obtain ⟨rfl, h2⟩ := zszd_t hb e1
  refine ⟨zsm_t h2 (fun z => ?_) (fun _ a b => ?_), zCfo_drop 2 hv⟩
  · simp only [Bool.and_eq_true, bne_iff_ne] at z; exact z.2
  · show ((zsg (zkat vs 0) != zsg (zkat vs 1)) && _) = false
    rw [n.1 a, n.2 b]; rfl
theorem zs63 : zSo bits C st vs held 63 := fun hg hv hb _ hr vs' ho => by
  have n := zs_nn hg hv hr
  generalize hq : zquo (zsg (zkat vs 0)) (zna (zkat vs 0)) (zsg (zkat vs 1)) (zna (zkat vs 1)) = q
  have ho : (if zna (zkat vs 1) = 0 then some (.arg 24) else
    if (zquo (zsg (zkat vs 0)) (zna (zkat vs 0)) (zsg (zkat vs 1)) (zna (zkat vs 1))).1.2 < 2 ^ bits ∧ (zquo (zsg (zkat vs 0)) (zna (zkat vs 0)) (zsg (zkat vs 1)) (zna (zkat vs 1))).2 < 2 ^ bits then some (.div (.arg 25) (.add (.div (.arg 23) (zmn (zquo (zsg (zkat vs 0)) (zna (zkat vs 0)) (zsg (zkat vs 1)) (zna (zkat vs 1))).1.1 (zquo (zsg (zkat vs 0)) (zna (zkat vs 0)) (zsg (zkat vs 1)) (zna (zkat vs 1))).1.2)) (zmn false (zquo (zsg (zkat vs 0)) (zna (zkat vs 0)) (zsg (zkat vs 1)) (zna (zkat vs 1))).2))) else none).map (fun v => v :: vs.drop 2) = some vs' := ho
  have k := zquo_ok (s := zsg (zkat vs 0)) (n := zna (zkat vs 0)) (t := zsg (zkat vs 1)) (m := zna (zkat vs 1))
  rw [hq] at ho k
  obtain ⟨V, e1, rfl⟩ := Option.map_eq_some_iff.mp ho
  refine ⟨?_, zCfo_drop 2 hv⟩
  split at e1
  · cases e1; exact zVt_i6n
  · split at e1
    · rename_i z
      cases e1
      exact zVt_i6 (zVt_i5 (zsm_t (zp120 hb z.1) k.1 (fun _ a b => k.2 (n.1 a) (n.2 b))) (zVt_i3 (zp120 hb z.2)))
    · cases e1
theorem zs64 : zSo bits C st vs held 64 := fun hg hv hb _ hr vs' ho => by
  have a := zkn_at (c := 0) hr
  have n := zVt_n (zkat_g hg 0 a).1 hr (zCfo_at 0 hv a)
  cases ho
  exact ⟨zVt_i2 n.1 (fun z => by simp only [Bool.and_eq_true, bne_iff_ne] at z; exact z.2), zCfo_drop 1 hv⟩
theorem zs_n2 (hg : ∀ T, T ∈ st → zTg1 T) (hv : zCfo st vs) (h : zkhs st 0 2 = true) : zna (zkat vs 0) < 2 ^ 120 ∧ (zsg (zkat vs 0) = true → zna (zkat vs 0) ≠ 0) ∧ (ztc (zkat st 0) = 3 → zsg (zkat vs 0) = false) ∧ zkat vs 0 = zmn (zsg (zkat vs 0)) (zna (zkat vs 0)) := by
  have a := zkhs_c h
  exact zVt_n (zkat_g hg 0 a.1).1 (by unfold zkn; rw [a.2]; rfl) (zCfo_at 0 hv a.1)
theorem zs65 : zSo bits C st vs held 65 := fun hg hv hb _ hr vs' ho => by
  cases ho; exact ⟨zVt_i3 (zs_n2 hg hv hr).1, zCfo_drop 1 hv⟩
theorem zs66 : zSo bits C st vs held 66 := fun hg hv hb _ hr vs' ho => by
  have n := zs_n2 hg hv hr
  cases ho
  refine ⟨?_, zCfo_drop 1 hv⟩
  split
  · exact zVt_i6n
  · rename_i z
    refine zVt_i6 ?_
    rw [n.2.2.2, show zsg (zkat vs 0) = false by simpa using z]
    exact zVt_i3 n.1
theorem zs67 : zSo bits C st vs held 67 := fun hg hv hb _ hr vs' ho => by
  have a := zkhs_c (k := 0) (c := 3) hr
  have n := zVt_n (zkat_g hg 0 a.1).1 (by unfold zkn; rw [a.2]; rfl) (zCfo_at 0 hv a.1)
  cases ho
  refine ⟨?_, zCfo_drop 1 hv⟩
  rw [n.2.2.2]
  exact zVt_i2 n.1 n.2.1
theorem zs68 : zSo bits C st vs held 68 := fun hg hv hb _ hr vs' ho => by cases ho; exact ⟨zcpn_t, zCfo_drop 2 hv⟩
theorem zs69 : zSo bits C st vs held 69 := fun hg hv hb _ hr vs' ho => by cases ho; exact ⟨zVt_i1 _, zCfo_drop 1 hv⟩
theorem zs70 : zSo bits C st vs held 70 := fun hg hv hb _ hr vs' ho => by cases ho; exact ⟨zVt_i1 _, zCfo_drop 1 hv⟩
theorem zs71 : zSo bits C st vs held 71 := fun hg hv hb _ hr vs' ho => by cases ho; exact ⟨zVt_i1 _, zCfo_drop 1 hv⟩
theorem zs72 : zSo bits C st vs held 72 := fun hg hv hb _ hr vs' ho => by cases ho; exact ⟨zVt_i1 _, zCfo_drop 1 hv⟩
theorem zs73 : zSo bits C st vs held 73 := fun hg hv hb _ hr vs' ho => by cases ho; exact ⟨zVt_i1 _, zCfo_drop 1 hv⟩
theorem zs74 : zSo bits C st vs held 74 := fun hg hv hb _ hr vs' ho => by cases ho; exact ⟨zVt_i1 _, zCfo_drop 1 hv⟩
theorem zs75 : zSo bits C st vs held 75 := fun hg hv hb _ hr vs' ho => by
  have hr : (zkhs st 0 4 && zkhs st 1 4) = true := hr
  simp only [Bool.and_eq_true] at hr
  have a0 := zkhs_c hr.1
  have a1 := zkhs_c hr.2
  obtain ⟨k, w, e0, t0⟩ := zVt_text (zkat_g hg 0 a0.1).1 a0.2 (zCfo_at 0 hv a0.1)
  obtain ⟨l, v, e1, t1⟩ := zVt_text (zkat_g hg 1 a1.1).1 a1.2 (zCfo_at 1 hv a1.1)
  have ho : (if ztk (zkat vs 0) + ztk (zkat vs 1) ≤ 8 then some (Term.mul (.arg (ztk (zkat vs 0) + ztk (zkat vs 1))) (.arg (ztw (zkat vs 0) + ztw (zkat vs 1) / 2 ^ (8 * ztk (zkat vs 0))))) else none).map (fun v => v :: vs.drop 2) = some vs' := ho
  rw [e0, e1] at ho
  obtain ⟨V, e2, rfl⟩ := Option.map_eq_some_iff.mp ho
  show zCfo (st.drop 1) _
  rw [(zCfo_split 1 hv a1.1).1, ztok_a (zkat_g hg 1 a1.1).1 a1.2 (by decide)]
  split at e2
  · rename_i q
    cases e2
    exact ⟨zVt_i4 (zTxo_cat t0 t1 q), zCfo_drop 2 hv⟩
  · cases e2
theorem zop_s (hc : zpln c) : zSo bits C st vs held c := by
  obtain ⟨h1, h2, hh⟩ := hc
  rcases (by omega : c = 30 ∨ c = 31 ∨ c = 32 ∨ c = 35 ∨ c = 36 ∨ c = 37 ∨ c = 38 ∨ c = 39 ∨ c = 46 ∨ c = 48 ∨ c = 52 ∨ c = 53 ∨ c = 54 ∨ c = 55 ∨ c = 56 ∨ c = 57 ∨ c = 60 ∨ c = 61 ∨ c = 62 ∨ c = 63 ∨ c = 64 ∨ c = 65 ∨ c = 66 ∨ c = 67 ∨ c = 68 ∨ c = 69 ∨ c = 70 ∨ c = 71 ∨ c = 72 ∨ c = 73 ∨ c = 74 ∨ c = 75) with rfl | rfl | rfl | rfl | rfl | rfl | rfl | rfl | rfl | rfl | rfl | rfl | rfl | rfl | rfl | rfl | rfl | rfl | rfl | rfl | rfl | rfl | rfl | rfl | rfl | rfl | rfl | rfl | rfl | rfl | rfl | rfl
  all_goals first | exact zs30 | exact zs31 | exact zs32 | exact zs35 | exact zs36 | exact zs37 | exact zs38 | exact zs39 | exact zs46 | exact zs48 | exact zs52 | exact zs53 | exact zs54 | exact zs55 | exact zs56 | exact zs57 | exact zs60 | exact zs61 | exact zs62 | exact zs63 | exact zs64 | exact zs65 | exact zs66 | exact zs67 | exact zs68 | exact zs69 | exact zs70 | exact zs71 | exact zs72 | exact zs73 | exact zs74 | exact zs75
end RS4
