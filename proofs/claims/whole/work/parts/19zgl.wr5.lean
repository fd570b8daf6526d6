/-! what is written of a value: a big is shown as the number of its keys, or stored with its entries -/
def zshw : Term → Term
  | .rem x l => .rem (zshw x) (zshw l)
  | .old l => .old (zshw l)
  | .length l => .length (zshw l)
  | .sum l => .sub (.arg 0) (.arg (zlen2 l))
  | .div c v => .div c (zshw v)
  | .add a b => .add (zshw a) (zshw b)
  | t => t
def zsw (st : Bool) (V : Term) : Term := if st then znm V else zshw (znm V)
/-- how many nodes; a row that is too long counts 1000 -/
def znd : Term → Nat
  | .rem v l => znd v + znd l
  | .old l => (if 40 < zlen2 l then 1000 else 1) + znd l
  | .length l => (if 40 < zlen2 l then 1000 else 1) + znd l
  | .sum l => (if 40 < zlen2 l then 1000 else 1) + znd l
  | .div (.arg _) v => 1 + znd v
  | .add (.div (.arg _) v) w => 1 + (znd v + znd w)
  | .null => 0
  | _ => 1
/-- how many cells it takes to settle a value's bigs -/
def zbw : Term → Nat
  | .rem x l => zbw x + zbw l
  | .old l => zbw l
  | .length l => zbw l
  | .sum l => 1 + (zbm (zels l)).length
  | .div _ v => zbw v
  | .add a b => zbw a + zbw b
  | _ => 0
/-- types without a big -/
def zNob : Term → Prop
  | .div (.arg _) a => zNob a
  | .add (.div (.arg c) a) b => c ≠ 10 ∧ zNob a ∧ zNob b
  | _ => True
/-- types whose bigs have none inside -/
def zBgt : Term → Prop
  | .div (.arg _) a => zBgt a
  | .add (.div (.arg c) a) b => (c = 10 → zNob a ∧ zNob b) ∧ zBgt a ∧ zBgt b
  | _ => True
def zTy3 (T : Term) : Prop := zTg1 T ∧ zBgt T ∧ ztdep T ≤ 8
section WR5
variable {T U K V a b : Term} {st : Bool} {L : List Term} {es : List (Term × Term)}
theorem zNob_bgt : ∀ (T : Term), zNob T → zBgt T := by
  intro T
  fun_induction zNob T with
  | case1 c a ih => exact ih
  | case2 c a b ih1 ih2 => exact fun h => ⟨fun z => absurd z h.1, ih1 h.2.1, ih2 h.2.2⟩
  | case3 T h1 h2 =>
    intro _
    unfold zBgt
    split
    · rename_i c a; exact absurd rfl (h1 c a)
    · rename_i c a b; exact absurd rfl (h2 c a b)
    · trivial
theorem zTy3_1 (h : zTy3 T) (hc : 5 ≤ ztc T) : zTy3 (zt1 T) ∧ ztdep (zt1 T) + 1 ≤ ztdep T := by
  have h4 := zTg1_1 h.1
  obtain ⟨⟨h1, h1s⟩, h2, h3⟩ := h
  unfold zTok at h1
  split at h1
  · rename_i c; exact absurd (show c ≤ 4 from h1) (by have : 5 ≤ c := hc; omega)
  · rename_i c a
    have h3 : 1 + ztdep a ≤ 8 := h3
    exact ⟨⟨h4, h2, by show ztdep a ≤ 8; omega⟩, by show ztdep a + 1 ≤ 1 + ztdep a; omega⟩
  · rename_i c a b
    have h3 : 1 + max (ztdep a) (ztdep b) ≤ 8 := h3
    exact ⟨⟨h4, h2.2.1, by show ztdep a ≤ 8; omega⟩, by show ztdep a + 1 ≤ 1 + max (ztdep a) (ztdep b); omega⟩
  · exact h1.elim
theorem zTy3_2 (h : zTy3 T) (hc : ztc T = 5 ∨ ztc T = 7 ∨ ztc T = 9 ∨ ztc T = 10) : zTy3 (zt2 T) ∧ ztdep (zt2 T) + 1 ≤ ztdep T := by
  have e := zsh2 h.1.1 hc
  obtain ⟨h1, h2, h3⟩ := h
  have h4 := zTg1_2 h1
  generalize zt2 T = b at *
  generalize zt1 T = a at *
  rw [e] at h2 h3 ⊢
  have h3 : 1 + max (ztdep a) (ztdep b) ≤ 8 := h3
  exact ⟨⟨h4, h2.2.2, by omega⟩, by show ztdep b + 1 ≤ 1 + max (ztdep a) (ztdep b); omega⟩
theorem zTy3_b (h : zTy3 T) (hc : ztc T = 10) : zNob (zt1 T) ∧ zNob (zt2 T) := by
  have e := zsh2 h.1.1 (Or.inr (Or.inr (Or.inr hc)))
  have h2 := h.2.1
  rw [e] at h2
  exact h2.1 hc
theorem zbw_enc : ∀ L : List Term, zbw (zenc L) = (L.map zbw).sum
  | [] => rfl
  | v :: L => by rw [zenc, zbw, zbw_enc L, List.map_cons, List.sum_cons]
theorem zsum0 {α : Type} {f : α → Nat} : ∀ L : List α, (∀ v ∈ L, f v = 0) → (L.map f).sum = 0
  | [], _ => rfl
  | v :: L, h => by rw [List.map_cons, List.sum_cons, h v List.mem_cons_self, zsum0 L (fun x hx => h x (List.mem_cons_of_mem _ hx))]
theorem zbw_0 : ∀ (T : Term), zNob T → ∀ V, zVt T V → zbw V = 0 := by
  intro T
  fun_induction zNob T with
  | case1 c a ih =>
    intro h V hv
    rcases hv with ⟨_, rfl | ⟨v, rfl, hv⟩⟩ | ⟨_, L, rfl, hL⟩
    · rfl
    · exact ih h v hv
    · show zbw (zenc L) = 0
      rw [zbw_enc]
      exact zsum0 L (fun v hv => ih h v (hL v hv))
  | case2 c a b ih1 ih2 =>
    rintro ⟨h0, h1, h2⟩ V hv
    rcases hv with ⟨_, x, y, rfl, q1, q2⟩ | ⟨_, ⟨v, rfl, hv⟩ | ⟨v, rfl, hv⟩⟩ | ⟨_, es, rfl, hL, _⟩ | ⟨z, _⟩
    · show zbw x + zbw y = 0
      rw [ih1 h1 x q1, ih2 h2 y q2]
    · exact ih1 h1 v hv
    · exact ih2 h2 v hv
    · show zbw (zenc _) = 0
      rw [zbw_enc]
      refine zsum0 _ (fun v hv => ?_)
      obtain ⟨e, he, rfl⟩ := List.mem_map.mp hv
      show zbw e.1 + zbw e.2 = 0
      rw [ih1 h1 _ (hL e he).1, ih2 h2 _ (hL e he).2]
    · exact absurd z h0
  | case3 T h1 h2 =>
    intro _ V hv
    unfold zVt at hv
    split at hv
    · rcases hv with ⟨_, rfl⟩ | ⟨_, rfl | rfl⟩ | ⟨_, s, n, rfl, _⟩ | ⟨_, k, w, rfl, _⟩ <;> rfl
    · rename_i T' c a; exact absurd rfl (h1 c a)
    · rename_i T' c a b; exact absurd rfl (h2 c a b)
    · exact hv.elim
theorem zlen2_enc (L : List Term) : zlen2 (zenc L) = L.length := by rw [← zels_len, zels_enc]
theorem zshw_enc : ∀ L : List Term, zshw (zenc L) = zenc (L.map zshw)
  | [] => rfl
  | v :: L => by rw [zenc, zshw, zshw_enc L]; rfl
theorem znd_enc : ∀ L : List Term, znd (zenc L) = (L.map znd).sum
  | [] => rfl
  | v :: L => by rw [zenc, znd, znd_enc L, List.map_cons, List.sum_cons]
theorem zsw_old : zsw st (.old (zenc L)) = .old (zenc (L.map (zsw st))) := by
  unfold zsw
  cases st with
  | true =>
    show Term.old (znm (zenc L)) = _
    rw [znm_enc]
    rfl
  | false =>
    show Term.old (zshw (znm (zenc L))) = .old (zenc (L.map fun v => zshw (znm v)))
    rw [znm_enc, zshw_enc, List.map_map]
    rfl
theorem zsw_len : zsw st (.length (zenc (es.map fun e => zent2 e.1 e.2))) = .length (zenc (es.map fun e => zent2 (zsw st e.1) (zsw st e.2))) := by
  unfold zsw
  cases st with
  | true =>
    show Term.length (znm (zenc _)) = _
    rw [znm_enc, List.map_map]
    rfl
  | false =>
    show Term.length (zshw (znm (zenc _))) = .length (zenc (es.map fun e => zent2 (zshw (znm e.1)) (zshw (znm e.2))))
    rw [znm_enc, zshw_enc, List.map_map, List.map_map]
    rfl
theorem zsw_div {c : Nat} : zsw st (.div (.arg c) V) = .div (.arg c) (zsw st V) := by unfold zsw; cases st <;> rfl
theorem zsw_add {c : Nat} : zsw st (.add (.div (.arg c) a) b) = .add (.div (.arg c) (zsw st a)) (zsw st b) := by unfold zsw; cases st <;> rfl
theorem zsw_arg {c : Nat} : zsw st (.arg c) = .arg c := by unfold zsw; cases st <;> rfl
theorem zsw_num {s : Bool} {n : Nat} : zsw st (zmn s n) = zmn s n := by unfold zsw; cases st <;> rfl
theorem zsw_txt {k w : Nat} : zsw st (.mul (.arg k) (.arg w)) = .mul (.arg k) (.arg w) := by unfold zsw; cases st <;> rfl
theorem zbm_nm (hk : zTok K) (hs : ztsim K = true) : ∀ (L : List Term), (∀ x ∈ L, zbt K x) → zbm (L.map znm) = (zbm L).map znp
  | [], _ => rfl
  | x :: L, h => by
    obtain ⟨h1, h2, h3, h4⟩ := zBc_nm hk hs (h x List.mem_cons_self)
    rw [List.map_cons, zbm, zbm, zbm_nm hk hs L (fun y hy => h y (List.mem_cons_of_mem _ hy)), znm_upl _ (by split; exact Or.inl rfl; exact Or.inr ⟨_, rfl⟩), h2, h3]
    by_cases hg : zgo x = 1
    · rw [if_pos hg, if_pos hg]; rfl
    · have hg0 : zgo x = 0 := by have := zgo_le x; omega
      rw [if_neg hg, if_neg hg, h4 hg0]; rfl
theorem zsw_key (hk : zTok K) (hs : ztsim K = true) (hv : zVt K V) : zsw true V = V := znm_s K V hk hs hv
theorem zsw_sum1 (hk : zTok K) (hs : ztsim K = true) (hL : ∀ x ∈ L, zbt K x) : zsw true (.sum (zenc L)) = .sum (zenc ((zbm L).map fun e => zent2 (zsw true e.1) (zsw true e.2))) := by
  show znm (.sum (zenc L)) = _
  rw [znm_sum, zbm_nm hk hs L hL, List.map_map]
  congr 2
  refine List.map_congr_left (fun e he => ?_)
  show zent2 e.1 (znm e.2) = zent2 (znm e.1) (znm e.2)
  rw [znm_s K e.1 hk hs ((zbm_ok hk hs L hL).1 e he)]
theorem zsw_sum0 (hk : zTok K) (hs : ztsim K = true) (hL : ∀ x ∈ L, zbt K x) : zsw false (.sum (zenc L)) = .sub (.arg 0) (.arg (zbm L).length) := by
  show zshw (znm (.sum (zenc L))) = _
  rw [znm_sum, zbm_nm hk hs L hL]
  show Term.sub (.arg 0) (.arg (zlen2 (zenc _))) = _
  rw [zlen2_enc, List.length_map, List.length_map]
/-- the entries of a big are typed, and no longer than the big was -/
theorem zbm_ent {R : Term × Term → Prop} : ∀ (L : List Term), (∀ x ∈ L, zgo x ≠ 1 → R (zv1 x, zv2 x)) → ∀ e ∈ zbm L, R e
  | [], _, e, he => by cases he
  | x :: L, h, e, he => by
    rw [zbm] at he
    rcases zupl_in _ e he with z | z
    · exact zbm_ent L (fun y hy => h y (List.mem_cons_of_mem _ hy)) e z
    · obtain ⟨z1, c, z2⟩ := zopl_in z
      by_cases hg : zgo x = 1
      · rw [if_pos hg] at z2; cases z2
      · rw [if_neg hg] at z2
        injection z2 with _ z2
        have := h x List.mem_cons_self hg
        rw [← z1, z2] at this
        exact this
end WR5
