/-! writeValue(): what is to do -/
abbrev zIm := (Term × Term) ⊕ ((Nat × Term × Term × List (Term × Term)) ⊕ (Term × List Term))
def zib (st : Bool) : zIm → List Nat
  | .inl (_, V) => zser (zsw st V)
  | .inr (.inl (_, _, _, es)) => es.flatMap fun e => 6 :: 28 :: (zser (zsw st e.1) ++ zser (zsw st e.2))
  | .inr (.inr (_, L)) => L.flatMap fun v => zser (zsw st v)
def zic (st : Bool) : zIm → Nat
  | .inl (_, V) => znd (zsw st V)
  | .inr (.inl (_, _, _, es)) => (es.map fun e => 1 + (znd (zsw st e.1) + znd (zsw st e.2))).sum
  | .inr (.inr (_, L)) => (L.map fun v => znd (zsw st v)).sum
def ziw : zIm → Nat
  | .inl (_, V) => zbw V
  | .inr (.inl (_, _, _, es)) => (es.map fun e => zbw e.1 + zbw e.2).sum
  | .inr (.inr (_, L)) => (L.map zbw).sum
def zih : zIm → Nat
  | .inl (T, _) => 1 + 2 * ztdep T
  | .inr (.inl (_, K, U, _)) => 3 + 2 * max (ztdep K) (ztdep U)
  | .inr (.inr (U, _)) => 2 + 2 * ztdep U
def ziv : zIm → Nat
  | .inl _ => 1
  | _ => 0
def zIok (cX : List (Nat × Nat × Nat)) (lo : List (Nat × Nat)) (st : Bool) (x : Int32) : zIm → Prop
  | .inl (T, V) => ∃ c, x = nI c ∧ zTy3 T ∧ zVt T V ∧ zmr V ≤ 190 ∧ zRc cX lo V (.inl c)
  | .inr (.inl (k, K, U, es)) => ∃ c, x = -1 - nI c ∧ (k = 12 ∨ k = 14 ∧ st = true) ∧ zTy3 K ∧ zTy3 U ∧ (∀ e ∈ es, (zVt K e.1 ∧ zmr e.1 ≤ 190) ∧ zVt U e.2 ∧ zmr e.2 ≤ 190) ∧ zRc cX lo (zenc (es.map fun e => zent2 e.1 e.2)) (.inr (c, k))
  | .inr (.inr (U, L)) => ∃ c, x = -1 - nI c ∧ zTy3 U ∧ (∀ v ∈ L, zVt U v ∧ zmr v ≤ 190) ∧ zRc cX lo (zenc L) (.inr (c, 10))
def zIts (cX : List (Nat × Nat × Nat)) (lo : List (Nat × Nat)) (st : Bool) : List Int32 → List zIm → Prop
  | [], [] => True
  | x :: td, i :: its => zIok cX lo st x i ∧ its.length + zih i ≤ 58 ∧ zIts cX lo st td its
  | _, _ => False
section WR6
variable {xs : List Value} {d : Nat} {h : zH} {M M1 M' M2 : Nat → zE} {F F1 F' F2 : Nat → Value} {Q : zO → zH → Prop} {ce cX X : List (Nat × Nat × Nat)} {lo : List (Nat × Nat)} {O O1 O2 B : List Nat} {b n c cn limit t k0 : Nat} {td : List Int32} {J : zP → Int32 → Int32 → Int32 → Int32 → zH → Prop} {sI : Int32} {st : Bool} {its : List zIm} {K U T V : Term}
theorem zIts_len : ∀ {td : List Int32} {its : List zIm}, zIts cX lo st td its → td.length = its.length
  | [], [], _ => rfl
  | _ :: td, _ :: its, h => by rw [List.length_cons, List.length_cons, zIts_len h.2.2]
  | [], _ :: _, h => h.elim
  | _ :: _, [], h => h.elim
theorem zIok_up {x : Int32} : ∀ {i : zIm}, zIok cX lo st x i → zIok (cX ++ X) lo st x i
  | .inl (T, V), ⟨c, h1, h2, h3, h4, h5⟩ => ⟨c, h1, h2, h3, h4, zRc_upX h5⟩
  | .inr (.inl (k, K, U, es)), ⟨c, h1, h2, h3, h4, h5, h6⟩ => ⟨c, h1, h2, h3, h4, h5, zRc_upX h6⟩
  | .inr (.inr (U, L)), ⟨c, h1, h2, h3, h4⟩ => ⟨c, h1, h2, h3, zRc_upX h4⟩
theorem zIts_up : ∀ {td : List Int32} {its : List zIm}, zIts cX lo st td its → zIts (cX ++ X) lo st td its
  | [], [], _ => trivial
  | _ :: td, _ :: its, h => ⟨zIok_up h.1, h.2.1, zIts_up h.2.2⟩
  | [], _ :: _, h => h.elim
  | _ :: _, [], h => h.elim
/-- what comes of a row: what was done, and what is to do -/
def zKk (st : Bool) (M : Nat → zE) (F : Nat → Value) (h : zH) (cX : List (Nat × Nat × Nat)) (lo : List (Nat × Nat)) (O : List Nat) (cn : Nat) (td : List Int32) (B : List Nat) (C W : Nat) (G : Int32 → zH → Prop) : Prop := ∀ (M2 : Nat → zE) (F2 : Nat → Value) (O2 : List Nat) (cn2 : Nat) (pt : List Int32) (pi : List zIm), zY2 M F M2 F2 cX lo O2 cn2 (pt ++ td) → (∀ its, zIts cX lo st td its → zIts cX lo st (pt ++ td) (pi ++ its)) → O2 ++ pi.flatMap (zib st) = O ++ B → cn2 + (pi.map (zic st)).sum = cn + C → (pi.map ziw).sum ≤ W → O2.length + 19 * cn ≤ O.length + 19 * cn2 → pt.length + 2 * cn ≤ 2 * cn2 + 2 * (pi.map ziv).sum → cn2 ≤ cn + 1 → G (nI (pt ++ td).length) (zov h M2)
/-- the links of a list -/
theorem zlks10 {L : List Term} (hl : 50 ≤ h.1.length) (hs : zY2 M F M1 F1 cX lo O cn td) (hr : zRc cX lo (zenc L) (.inr (c, 10))) (hU : zTy3 U) (hL : ∀ v ∈ L, zVt U v ∧ zmr v ≤ 190) (hn : td.length + (2 + 2 * ztdep U) ≤ 58) (hk0 : 10 ≤ k0 ∧ k0 < 100) (kk : zKk st M F h cX lo O cn td (L.flatMap fun v => zser (zsw st v)) (L.map fun v => znd (zsw st v)).sum (L.map zbw).sum (fun x h' => J (some 10) (nI limit) sI x (nI (t + 1)) h')) : zw_208_243 xs (d + 1) Q J (some 10) (nI limit) sI (nI td.length) (nI t) (nI c) (nI k0) (zov h M1) := by
  cases L with
  | nil =>
    obtain ⟨a, b, hc⟩ := hr
    exact zt243e hl hs hc rfl (by decide) hk0 (kk M1 F1 O cn [] [] hs (fun _ z => z) rfl rfl (Nat.le_refl _) (Nat.le_refl _) (Nat.le_of_eq (Nat.zero_add _)) (Nat.le_succ _))
  | cons v L =>
    obtain ⟨a, b, hc, hv, hr⟩ := hr
    have hg : zgo v = 0 := zgo_t hU.1.1 (hL v List.mem_cons_self).1
    rw [hg] at hc
    refine zt243c hl hs (by omega) hc hk0 (fun M2 s2 => ?_)
    refine kk M2 F1 O cn [nI a, -1 - nI b] [.inl (U, v), .inr (.inr (U, L))] s2 (fun its hi => ?_) ?_ ?_ ?_ (Nat.le_refl _) (Nat.le_of_eq (Nat.add_comm _ _)) (Nat.le_succ _)
    · have := zIts_len hi
      refine ⟨⟨a, rfl, hU, (hL v List.mem_cons_self).1, (hL v List.mem_cons_self).2, hv⟩, ?_, ⟨b, rfl, hU, fun w hw => hL w (List.mem_cons_of_mem _ hw), hr⟩, ?_, hi⟩
      · show its.length + 1 + (1 + 2 * ztdep U) ≤ 58; omega
      · show its.length + (2 + 2 * ztdep U) ≤ 58; omega
    · show O ++ (zser (zsw st v) ++ ((L.flatMap fun v => zser (zsw st v)) ++ [])) = O ++ ((v :: L).flatMap fun v => zser (zsw st v))
      rw [List.append_nil, List.flatMap_cons]
    · show cn + (znd (zsw st v) + ((L.map fun v => znd (zsw st v)).sum + 0)) = cn + ((v :: L).map fun v => znd (zsw st v)).sum
      rw [List.map_cons, List.sum_cons]; rfl
    · show zbw v + ((L.map zbw).sum + 0) ≤ ((v :: L).map zbw).sum
      rw [List.map_cons, List.sum_cons]; exact Nat.le_refl _
/-- the links of a map, of a big that was settled -/
theorem zlks12 {kb : Nat} {es : List (Term × Term)} (hl : 50 ≤ h.1.length) (hs : zY2 M F M1 F1 cX lo O cn td) (hkb : kb = 12 ∨ kb = 14 ∧ st = true) (hr : zRc cX lo (zenc (es.map fun e => zent2 e.1 e.2)) (.inr (c, kb))) (hK : zTy3 K) (hU : zTy3 U) (hL : ∀ e ∈ es, (zVt K e.1 ∧ zmr e.1 ≤ 190) ∧ zVt U e.2 ∧ zmr e.2 ≤ 190) (hn : td.length + (3 + 2 * max (ztdep K) (ztdep U)) ≤ 58) (hk0 : 10 ≤ k0 ∧ k0 < 100) (hO : O.length + 2 ≤ 2800) (kk : zKk st M F h cX lo O cn td (es.flatMap fun e => 6 :: 28 :: (zser (zsw st e.1) ++ zser (zsw st e.2))) (es.map fun e => 1 + (znd (zsw st e.1) + znd (zsw st e.2))).sum (es.map fun e => zbw e.1 + zbw e.2).sum (fun x h' => J (some 10) (nI limit) sI x (nI (t + 1)) h')) : zw_208_243 xs (d + 1) Q J (some 10) (nI limit) sI (nI td.length) (nI t) (nI c) (nI k0) (zov h M1) := by
  have h14 : kb = 12 ∨ kb = 14 := by rcases hkb with z | z; exact Or.inl z; exact Or.inr z.1
  cases es with
  | nil =>
    obtain ⟨a, b, hc⟩ := hr
    exact zt243e hl hs hc (by rcases h14 with rfl | rfl <;> rfl) (by omega) hk0 (kk M1 F1 O cn [] [] hs (fun _ z => z) rfl rfl (Nat.le_refl _) (Nat.le_refl _) (Nat.le_of_eq (Nat.zero_add _)) (Nat.le_succ _))
  | cons e es =>
    obtain ⟨a, b, hc, ⟨j, k2, hj, hv1, hv2⟩, hr⟩ := hr
    refine zt243p hl hs (by omega) hc (show kb + 1 + 0 = 13 ∨ kb + 1 + 0 = 15 by omega) hj hO hk0 (fun M2 F2 s2 => ?_)
    obtain ⟨⟨q1, q2⟩, q3, q4⟩ := hL e List.mem_cons_self
    refine kk M2 F2 (O ++ [6, 28]) (cn + 1) [nI j, nI k2, -1 - nI b] [.inl (K, e.1), .inl (U, e.2), .inr (.inl (kb, K, U, es))] s2 (fun its hi => ?_) ?_ ?_ ?_ ?_ ?_ (Nat.le_refl _)
    · have := zIts_len hi
      refine ⟨⟨j, rfl, hK, q1, q2, hv1⟩, ?_, ⟨k2, rfl, hU, q3, q4, hv2⟩, ?_, ⟨b, rfl, hkb, hK, hU, fun w hw => hL w (List.mem_cons_of_mem _ hw), hr⟩, ?_, hi⟩
      · show its.length + 1 + 1 + (1 + 2 * ztdep K) ≤ 58; omega
      · show its.length + 1 + (1 + 2 * ztdep U) ≤ 58; omega
      · show its.length + (3 + 2 * max (ztdep K) (ztdep U)) ≤ 58; omega
    · show O ++ [6, 28] ++ (zser (zsw st e.1) ++ (zser (zsw st e.2) ++ ((es.flatMap fun e => 6 :: 28 :: (zser (zsw st e.1) ++ zser (zsw st e.2))) ++ []))) = O ++ ((e :: es).flatMap fun e => 6 :: 28 :: (zser (zsw st e.1) ++ zser (zsw st e.2)))
      rw [List.append_nil, List.flatMap_cons, List.append_assoc]
      show O ++ (6 :: 28 :: (zser (zsw st e.1) ++ (zser (zsw st e.2) ++ _))) = O ++ (6 :: 28 :: ((zser (zsw st e.1) ++ zser (zsw st e.2)) ++ _))
      rw [List.append_assoc]
    · show cn + 1 + (znd (zsw st e.1) + (znd (zsw st e.2) + ((es.map fun e => 1 + (znd (zsw st e.1) + znd (zsw st e.2))).sum + 0))) = cn + ((e :: es).map fun e => 1 + (znd (zsw st e.1) + znd (zsw st e.2))).sum
      rw [List.map_cons, List.sum_cons]; omega
    · show zbw e.1 + (zbw e.2 + ((es.map fun e => zbw e.1 + zbw e.2).sum + 0)) ≤ ((e :: es).map fun e => zbw e.1 + zbw e.2).sum
      rw [List.map_cons, List.sum_cons]; omega
    · rw [List.length_append]; show O.length + 2 + 19 * cn ≤ _; omega
    · show 3 + 2 * cn ≤ 2 * (cn + 1) + 2 * (1 + (1 + (0 + 0))); omega
end WR6
