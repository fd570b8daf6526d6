/-! ADEQUACY, third part: what the tables say holds where a method begins; the steps on the heap -/
/-- words that stay true as the tables warm -/
def zkw (w : Cond) : Bool := match w with
  | .fieldLinkNest _ _ _ _ _ _ => true
  | .methodLinkNest _ _ _ _ => true
  | .declares _ => true
  | .castable _ _ => true
  | .arrayOver (.object _) => true
  | w => goodWord w
theorem zkw_at {args a' : Array Value} {s U : State} (hW : s.WarmedH U.vm) {w : Cond} (hg : zkw w = true) (h : w.before args s = true) : w.before a' U = true := by
  unfold zkw at hg
  split at hg
  · exact va_Nw.use rfl (va_Nw.warmF hW (va_Nw.of rfl h))
  · exact va_Nw.use rfl (va_Nw.warmM hW (va_Nw.of rfl h))
  · exact va_Nw.use rfl (va_Nw.warmD hW (va_Nw.of rfl h))
  · exact va_Nw.use rfl (va_Nw.warmC hW (va_Nw.of rfl h))
  · exact va_AO.use (va_AO.moved hW.alike (va_AO.of h))
  · exact word_at hW (good_of_word hg) h
def zTl : List Cond := lw_tbl.filter zkw
theorem zTl_in {w : Cond} (h : w ∈ lw_tbl) (hk : zkw w = true) : w ∈ zTl := List.mem_filter.mpr ⟨h, hk⟩
theorem zTl_at {args a' : Array Value} {s U : State} (hW : s.WarmedH U.vm) (h : ∀ w ∈ zTl, w.before args s = true) : ∀ w ∈ zTl, w.before a' U = true :=
  fun w hw => zkw_at hW (List.mem_filter.mp hw).2 (h w hw)
theorem zlw_kw (own : String) (q : Nat × Nat × Nat × Nat) : ∀ w ∈ zlw own q, zkw w = true := by
  intro w hw
  unfold zlw at hw
  split at hw <;> simp only [List.mem_cons, List.not_mem_nil, or_false] at hw
  all_goals first | (rcases hw with rfl | rfl | rfl | rfl <;> rfl) | (rcases hw with rfl | rfl | rfl <;> rfl) | (rcases hw with rfl | rfl <;> rfl) | (subst hw; rfl) | exact hw.elim
theorem zlink_mem {mi x t a b : Nat} (h : zlink mi x = some (t, a, b)) : (x, t, a, b) ∈ z_link.getD (z_mc.getD mi 0) [] := by
  unfold zlink at h
  cases hf : (z_link.getD (z_mc.getD mi 0) []).find? (fun q => q.1 == x) with
  | none => rw [hf] at h; cases h
  | some q =>
    rw [hf] at h
    have h1 := List.mem_of_find?_eq_some hf
    have h2 := List.find?_some hf
    simp only [beq_iff_eq] at h2
    obtain ⟨y, z⟩ := q
    have h3 : z = (t, a, b) := Option.some.inj h
    subst h3
    subst h2
    exact h1
def zOwn (mi : Nat) : String := zCn (z_mc.getD mi 0)
theorem zlt {args : Array Value} {s : State} (hts : ∀ w ∈ zTl, w.before args s = true) {mi x t a b : Nat} (h : zlink mi x = some (t, a, b)) : ∀ w ∈ zlw (zOwn mi) (x, t, a, b), w.before args s = true :=
  fun w hw => hts w (zTl_in (z_lw (z_mc.getD mi 0) w (List.mem_flatMap.mpr ⟨_, zlink_mem h, hw⟩)) (zlw_kw _ _ w hw))
theorem zuw {c : Nat} (h : c < 13) : ∀ w ∈ u_ws (zCn c) (zTt c) (zNn c), w ∈ zTl := by
  intro w hw
  refine zTl_in (z_uw c h w hw) ?_
  obtain ⟨k, -, rfl⟩ := List.mem_map.mp hw
  unfold u_lay
  split <;> rfl
/-- a link to a field is to a field that is there -/
def zlf (q : Nat × Nat × Nat × Nat) : Bool := match q with
  | (_, t, a, b) => if t < 2 then decide (a < 13 ∧ b < zNn a) else if t = 2 then decide (a < 13) else if t = 3 then decide (5 ≤ a ∧ a < z_aty.length ∧ z_acl.getD a 0 < 13) else true
set_option maxRecDepth 100000 in
theorem zlf_all : z_link.all (fun l => l.all zlf) = true := by decide +kernel
theorem zlf_of {mi x t a b : Nat} (h : zlink mi x = some (t, a, b)) : zlf (x, t, a, b) = true := by
  have h1 := zlink_mem h
  rw [List.getD_eq_getElem?_getD] at h1
  cases hc : z_link[z_mc.getD mi 0]? with
  | none => rw [hc] at h1; exact absurd h1 List.not_mem_nil
  | some l =>
    rw [hc] at h1
    exact List.all_eq_true.mp (List.all_eq_true.mp zlf_all l (List.mem_of_getElem? hc)) _ h1
def zFt (a k : Nat) : FieldType := (z_fty.getD a []).getD k .int
set_option maxRecDepth 100000 in
theorem zft_ok : ∀ a, a < 13 → ∀ k, k < zNn a → parseFieldDescriptor (zTt a k).2.2.1 = some (zFt a k) := by decide +kernel
set_option maxRecDepth 100000 in
theorem zfn_ok : ∀ c, c < 13 → ∀ a, a < zNn c → ∀ b, b < zNn c → a ≠ b → (zTt c a).2.1 ≠ (zTt c b).2.1 := by decide +kernel
set_option maxRecDepth 100000 in
theorem zff_ok : ∀ a, a < 13 → ∀ k, k < zNn a → (zTt a k).2.2.2 = (z_fin.getD a []).getD k true ∧ (zTt a k).1 = zCn a := by decide +kernel
set_option maxRecDepth 100000 in
theorem zdf_ok : ∀ a, a < 13 → (z_def.getD a []).length = zNn a ∧ ∀ k, k < zNn a → defaultValue (zFt a k) = vp_V (z_def.getD a []) k := by decide +kernel
set_option maxRecDepth 100000 in
theorem zdf_nr : z_def.all (fun l => l.all (fun v => match v with | .ref _ => false | _ => true)) = true := by decide +kernel
theorem zfits_ok {ad : Nat → Nat} {ty : FieldType} {v : Value} (h : zfits ty v = true) : narrow ty (zcv ad v) = zcv ad v ∧ fits ty (zcv ad v) = true := by
  unfold zfits at h
  split at h
  all_goals first | cases h; done | exact ⟨rfl, rfl⟩ | skip
  rcases of_decide_eq_true h with rfl | rfl <;> exact ⟨rfl, rfl⟩
