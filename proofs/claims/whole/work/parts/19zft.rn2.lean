/-! the reference at work: the row that MAP makes; its last link is masked: no value goes through it -/
def zmK : Nat := 4294967296
def zCv : Term → Prop
  | .div (.arg x) v => x < 1000 ∧ zCv v
  | .add (.div (.arg _) v) w => zCv v ∧ zCv w
  | .old l => zCv l
  | .length l => zCv l
  | .sum l => zCv l
  | .rem v l => zCv v ∧ zCv l
  | _ => True
section RN2
variable {N : List zNt} {M M' : Nat → zE} {F : Nat → Value} {ce ce' : List (Nat × Nat × Nat)} {lo : List (Nat × Nat)} {t w a b w' : Nat} {T V : Term} {c' : Nat × Nat × Nat}
theorem zCv_enc : ∀ (L : List Term), (∀ v ∈ L, zCv v) → zCv (zenc L)
  | [], _ => trivial
  | v :: L, h => ⟨h v List.mem_cons_self, zCv_enc L (fun x hx => h x (List.mem_cons_of_mem _ hx))⟩
theorem zCv_t : ∀ (T : Term), zTok T → ∀ V, zVt T V → zCv V := by
  intro T
  fun_induction zTok T with
  | case1 c =>
    intro _ V hv
    rcases hv with ⟨_, rfl⟩ | ⟨_, rfl | rfl⟩ | ⟨_, s, n, rfl, _⟩ | ⟨_, k, w, rfl, _⟩ <;> trivial
  | case2 c a ih =>
    intro ht V hv
    rcases hv with ⟨_, rfl | ⟨v, rfl, hv⟩⟩ | ⟨_, L, rfl, hL⟩
    · trivial
    · exact ⟨by decide, ih ht.2 v hv⟩
    · exact zCv_enc L (fun v hv => ih ht.2 v (hL v hv))
  | case3 c a b ih1 ih2 =>
    intro ht V hv
    rcases hv with ⟨_, x, y, rfl, h1, h2⟩ | ⟨_, ⟨v, rfl, hv⟩ | ⟨v, rfl, hv⟩⟩ | ⟨_, es, rfl, hL, _⟩ | ⟨_, L, rfl, hL⟩
    · exact ⟨ih1 ht.2.1 x h1, ih2 ht.2.2 y h2⟩
    · exact ⟨by decide, ih1 ht.2.1 v hv⟩
    · exact ⟨by decide, ih2 ht.2.2 v hv⟩
    · exact zCv_enc _ (fun x hx => by
        obtain ⟨e, he, rfl⟩ := List.mem_map.mp hx
        exact ⟨ih1 ht.2.1 _ (hL e he).1, ih2 ht.2.2 _ (hL e he).2⟩)
    · exact zCv_enc _ (fun x hx => by
        obtain ⟨k, v, hk, hx'⟩ := hL x hx
        rcases hx' with ⟨rfl, hv⟩ | rfl
        · exact ⟨ih1 ht.2.1 _ hk, ih2 ht.2.2 _ hv⟩
        · exact ⟨ih1 ht.2.1 _ hk, ih1 ht.2.1 _ hk⟩)
  | case4 => exact fun h => h.elim
theorem zCv_wd {c : Nat} (hc : c < 1000) {l : List Term} (h : ∀ v ∈ l, zCv v) : zCv (zwd c l) := by
  unfold zwd
  split
  · trivial
  · exact ⟨hc, h _ List.mem_cons_self⟩
  · exact ⟨h _ List.mem_cons_self, h _ (List.mem_cons_of_mem _ List.mem_cons_self)⟩
theorem zCv_tv (hg : zGd N) : ∀ (n i : Nat) (kd : Bool) (T : Term), N.length ≤ n + i → zCv (ztv N i kd T)
  | 0, i, kd, T, hn => by
    rw [ztv_eq hg.1.1, ztvB, List.getElem?_eq_none (by omega)]
    trivial
  | n + 1, i, kd, T, hn => by
    rw [ztv_eq hg.1.1, ztvB]
    cases he : N[i]? with
    | none => trivial
    | some e =>
      have hz := znx_ge (N := N) (i := i + 1)
      have hc : eC e < 1000 := by have := (hg.1.2 i e he).2.1; omega
      have ch : ∀ (g : Nat → Bool × Term), ∀ v ∈ (zchn N (eM e) (i + 1)).map fun j => ztv N j (g j).1 (g j).2, zCv v := fun g v hv => by
        obtain ⟨j, hj, rfl⟩ := List.mem_map.mp hv
        have := zchn_ge _ _ _ hj
        exact zCv_tv hg n j _ _ (by omega)
      dsimp only
      split
      · exact ⟨zCv_tv hg n (i + 1) _ _ (by omega), zCv_tv hg n (znx N (i + 1)) _ _ (by omega)⟩
      · split
        · exact zCv_enc _ (ch (fun _ => (false, zt1 T)))
        · split
          · exact zCv_enc _ (ch (fun _ => (true, T)))
          · split
            · exact zCv_enc _ (ch (fun _ => (true, T)))
            · split
              · trivial
              · split
                · trivial
                · exact zCv_wd hc (ch (fun j => zpt false T e (j == i + 1)))
theorem zCv_pcn (hg : zGd N) (j : Nat) : zCv (zpcn N j) := by
  unfold zpcn
  split
  · exact zCv_tv hg N.length _ _ _ (by omega)
  · trivial
theorem zPo_kind (hp : zPo M F ce lo) (hi : ce[t]? = some (w, a, b)) (hw : nI w' = nI w) : zPo M F (ce.set t (w', a, b)) lo := by
  obtain ⟨a1, a2, a3, a4, a5, a6, W, H, B, U, L, b1, b2, b3, b4, b5, b6, b7, b8, b9, b10, b11, b12⟩ := hp
  have hil := (List.getElem?_eq_some_iff.mp hi).1
  refine ⟨a1, a2, by rw [List.length_set]; exact a3, a4, by rw [List.length_set]; exact a5, a6, W, H, B, U, L, b1, b2, b3, b4, b5, b6, b7, b8, b9, b10, fun j e hj => ?_, b12⟩
  by_cases hji : j = t
  · subst hji
    rw [List.getElem?_set_self hil] at hj
    cases hj
    obtain ⟨c1, c2, c3⟩ := b11 j _ hi
    exact ⟨c1.trans (by rw [hw]), c2, c3⟩
  · rw [List.getElem?_set_ne (Ne.symm hji)] at hj
    exact b11 j e hj
theorem zmK_n (w : Nat) : nI (w + zmK) = nI w := by
  apply Int32.toBitVec_inj.mp
  show BitVec.ofNat 32 (w + 4294967296) = BitVec.ofNat 32 w
  apply BitVec.eq_of_toNat_eq
  rw [BitVec.toNat_ofNat, BitVec.toNat_ofNat]
  omega
theorem zRc_set (ht : ce[t]? = some (w, a, b)) (hw : zmK ≤ w) : ∀ (V : Term) (x : Nat ⊕ (Nat × Nat)), zCv V → (∀ c k, x = .inr (c, k) → k < 1000) → zRc ce lo V x → zRc (ce.set t c') lo V x := by
  have g : ∀ {c k x y : Nat}, ce[c]? = some (k, x, y) → k < 3000 → (ce.set t c')[c]? = some (k, x, y) := fun {c k x y} h1 h2 => by
    have hne : c ≠ t := fun z => by
      rw [z, ht] at h1
      cases h1
      unfold zmK at hw
      omega
    rw [List.getElem?_set_ne (Ne.symm hne)]; exact h1
  have zw : ∀ x, zwc x < 3000 := fun x => by unfold zwc; split; decide; split; decide; split <;> decide
  intro V x
  fun_induction zRc ce lo V x with
  | case1 s n c => rintro _ _ ⟨⟨j, h1, h2⟩, h3⟩; exact ⟨⟨j, g h1 (by decide), h2⟩, h3⟩
  | case2 k w c => rintro _ _ ⟨⟨j, h1, h2⟩, h3⟩; exact ⟨⟨j, g h1 (by decide), h2⟩, h3⟩
  | case3 x c => rintro _ _ ⟨a, b, h1⟩; exact ⟨a, b, g h1 (zw x)⟩
  | case4 x v c ih => rintro hv _ ⟨j, b, h1, h2⟩; exact ⟨j, b, g h1 (by have := hv.1; omega), ih j hv.2 (fun _ _ z => by cases z) h2⟩
  | case5 x v w c ih1 ih2 => rintro hv _ ⟨j, k, h1, h2, h3⟩; exact ⟨j, k, g h1 (by decide), ih1 j hv.1 (fun _ _ z => by cases z) h2, ih2 k hv.2 (fun _ _ z => by cases z) h3⟩
  | case6 l c ih => intro hv _ h; exact ih hv (fun _ _ z => by cases z; decide) h
  | case7 l c ih => intro hv _ h; exact ih hv (fun _ _ z => by cases z; decide) h
  | case8 l c ih => intro hv _ h; exact ih hv (fun _ _ z => by cases z; decide) h
  | case9 c k => rintro _ hk ⟨a, b, h1⟩; exact ⟨a, b, g h1 (by have := hk c k rfl; omega)⟩
  | case10 v l c k ih1 ih2 =>
    rintro hv hk ⟨hd, bd, h1, h2, h3⟩
    have := hk c k rfl
    have := zgo_le v
    exact ⟨hd, bd, g h1 (by omega), ih1 hd hv.1 (fun _ _ z => by cases z) h2, ih2 bd hv.2 (fun _ _ z => by cases z; omega) h3⟩
  | case11 => exact fun _ _ h => h.elim
theorem zCr_set {x : Int32} (ht : ce[t]? = some (w, a, b)) (hw : zmK ≤ w) (hv : zCv V) (hx : zCr ce lo x V) : zCr (ce.set t c') lo x V := by
  obtain ⟨c, h1, h2⟩ := hx
  exact ⟨c, h1, zRc_set ht hw V _ hv (fun _ _ z => by cases z) h2⟩
theorem zWS_set {M0 : Nat → zE} {F0 : Nat → Value} {Ts vs : List Term} {most p : Nat} {pd : List Int32} {S : List Nat} (hg : zGd N) (hs : zWS N M0 M F0 F Ts vs most pd p ce lo) (hvs : ∀ v ∈ vs, zCv v) (hM : zSm S M M') (hS : (S.all fun q => [32].contains q) = true) (hp : zPo M' F (ce.set t c') lo) (ht : ce[t]? = some (w, a, b)) (hw : zmK ≤ w) : zWS N M0 M' F0 F Ts vs most pd p (ce.set t c') lo := by
  obtain ⟨a1, a2, a3, a4, a5, a6, a7, a8, a9, a10, a11, a12⟩ := hs
  have hS1 : ∀ k, k ∈ S → k = 32 := fun k hk => by
    have := List.all_eq_true.mp hS k hk
    simpa using this
  have sM : zSm [32] M M' := zSm_mono hM (fun k hk => by rw [hS1 k hk]; decide)
  refine ⟨hp, zSm_trans a2 sM (fun _ z => z) (fun k hk => by rw [List.mem_singleton.mp hk]; decide), a3, zTbl_sm a4 sM rfl (by decide), ?_, a6, a7, zSc4_sm a8 sM (by decide), zFw_sm a9 sM (by decide), (sM 52 (by decide)).trans a10, a11, fun j x hj => ?_⟩
  · obtain ⟨b1, b2, b3, b4, Sk, b5, b6, b7⟩ := a5
    refine ⟨b1, b2, b3, b4, Sk, (sM 48 (by decide)).trans b5, b6, fun k T hk => ?_⟩
    obtain ⟨x, c1, c2⟩ := b7 k T hk
    exact ⟨x, c1, zCr_set ht hw (hvs T (List.mem_of_getElem? hk)) c2⟩
  · rcases a12 j x hj with z | z
    · exact Or.inl z
    · exact Or.inr (zCr_set ht hw (zCv_pcn hg j) z)
/-- the links so far -/
def zMch (ce : List (Nat × Nat × Nat)) (lo : List (Nat × Nat)) (b0 z0 : Nat) (acc : List Term) (ts : List Nat) : Prop := ts.length = acc.length ∧ ts.Pairwise (· < ·) ∧ (∀ t ∈ ts, b0 ≤ t ∧ t < ce.length) ∧ b0 ≤ z0 ∧ (∃ x y, ce[z0]? = some (10, x, y)) ∧ ∀ i v t, acc[i]? = some v → ts[i]? = some t → ∃ hd, ce[t]? = some (if i + 1 = ts.length then 11 + zmK else 11, hd, (ts[i + 1]?).getD z0) ∧ zRc ce lo v (.inl hd)
def zMhd (z0 : Nat) (ts : List Nat) : Int32 := nI ((ts[0]?).getD z0)
def zMtl (ts : List Nat) : Int32 := match ts[ts.length - 1]? with
  | some t => nI t
  | none => -1
variable {b0 z0 : Nat} {acc : List Term} {ts : List Nat}
theorem zMch_app {X : List (Nat × Nat × Nat)} {Y : List (Nat × Nat)} (h : zMch ce lo b0 z0 acc ts) : zMch (ce ++ X) (lo ++ Y) b0 z0 acc ts := by
  obtain ⟨h1, h2, h3, h4, ⟨x, y, h5⟩, h6⟩ := h
  refine ⟨h1, h2, fun t ht => ⟨(h3 t ht).1, by rw [List.length_append]; have := (h3 t ht).2; omega⟩, h4, ⟨x, y, zget_app h5⟩, fun i v t hi ht => ?_⟩
  obtain ⟨hd, g1, g2⟩ := h6 i v t hi ht
  exact ⟨hd, zget_app g1, zRc_app _ _ g2⟩
/-- the first link -/
theorem zMch_one {cv : Nat} (h : zMch ce lo b0 z0 [] []) (hb : b0 ≤ ce.length) (hv : zRc ce lo V (.inl cv)) : zMch (ce ++ [(11 + zmK, cv, z0)]) lo b0 z0 [V] [ce.length] := by
  obtain ⟨h1, h2, h3, h4, ⟨x, y, h5⟩, h6⟩ := h
  refine ⟨rfl, List.pairwise_singleton _ _, fun t ht => ?_, h4, ⟨x, y, zget_app h5⟩, fun i v t hi ht => ?_⟩
  · rw [List.mem_singleton.mp ht, List.length_append]
    exact ⟨hb, Nat.lt_succ_self _⟩
  · cases i with
    | zero =>
      cases hi
      cases ht
      exact ⟨cv, zget_new, zRc_up1 hv⟩
    | succ i => cases hi
end RN2
