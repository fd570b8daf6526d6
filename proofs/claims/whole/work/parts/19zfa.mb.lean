/-! the class's machine does a run: depth, room, results -/
section MB0
variable {xs : List Value} {d : Nat} {f : zF} {h : zH} {Q : zO → zH → Prop}
theorem zrun_dep : ∀ (n d : Nat) (f : zF) (h : zH) (o : zO) (h' : zH), zrun xs n d f h = some (o, h') → ∀ d2, d ≤ d2 → zrun xs n d2 f h = some (o, h')
  | 0, d, f, h, o, h', hz, d2, hd => by cases hz
  | n + 1, d, f, h, o, h', hz, d2, hd => by
    rw [zrun] at hz ⊢
    split at hz
    · rename_i i len mt hf hm
      (try rw [hf]); (try rw [hm]); (try dsimp only)
      cases h1 : zstp xs mt.2.2.1 i len f h with
      | some a =>
        obtain ⟨f', h1'⟩ := a
        rw [h1] at hz
        exact zrun_dep n d f' h1' o h' hz d2 hd
      | none =>
        rw [h1] at hz
        dsimp only at hz ⊢
        cases h2 : zret mt.2.2.2.1 i f.2.2.2 with
        | some v => rw [h2] at hz; exact hz
        | none =>
          rw [h2] at hz
          dsimp only at hz ⊢
          cases h3 : zthr f.1 f.2.1 i f.2.2.2 with
          | some ex =>
            rw [h3] at hz
            dsimp only at hz ⊢
            split at hz
            · rename_i q; rw [if_pos (by omega)]; exact hz
            · cases hz
          | none =>
            rw [h3] at hz
            dsimp only at hz ⊢
            cases h4 : zcall f.1 i f.2.2.2 h with
            | none => rw [h4] at hz; cases hz
            | some c =>
              obtain ⟨j, as, rest⟩ := c
              rw [h4] at hz
              cases d with
              | zero => cases hz
              | succ d' =>
                obtain ⟨d3, rfl⟩ : ∃ k, d2 = k + 1 := ⟨d2 - 1, by omega⟩
                dsimp only at hz ⊢
                split at hz
                · cases hz
                · rename_i q
                  rw [if_neg q]
                  cases h5 : zrun xs n d' (j, 0, lv_args 0 as, []) h with
                  | none => rw [h5] at hz; cases hz
                  | some r =>
                    obtain ⟨o1, h1'⟩ := r
                    rw [zrun_dep n d' _ h o1 h1' h5 d3 (by omega)]
                    rw [h5] at hz
                    cases o1 with
                    | inl v => exact zrun_dep n (d' + 1) _ h1' o h' hz (d3 + 1) hd
                    | inr ex =>
                      dsimp only at hz ⊢
                      split at hz
                      · cases hz
                      · rename_i q2
                        rw [if_neg q2]
                        cases h6 : zcat f.1 f.2.1 ex with
                        | some p =>
                          obtain ⟨pc, kk⟩ := p
                          rw [h6] at hz
                          dsimp only at hz ⊢
                          split at hz
                          · rename_i q3
                            rw [if_pos q3]
                            exact zrun_dep n (d' + 1) _ h1' o h' hz (d3 + 1) hd
                          · cases hz
                        | none =>
                          rw [h6] at hz
                          exact hz
    · cases hz
theorem zG_dep {d2 : Nat} (g : zG xs d f h Q) (hd : d ≤ d2) : zG xs d2 f h Q := by
  obtain ⟨n, o, h', hr, hq⟩ := g
  exact ⟨n, o, h', zrun_dep n d f h o h' hr d2 hd, hq⟩
end MB0
def zph : Nat → Nat
  | 0 => 0
  | p + 1 => zph p + (61 + p)
theorem zph_mono : ∀ {p q : Nat}, p ≤ q → zph p ≤ zph q := by
  intro p q
  induction q with
  | zero => intro h; rw [Nat.le_zero.mp h]; exact Nat.le_refl _
  | succ q ih =>
    intro h
    rcases Nat.lt_or_ge p (q + 1) with z | z
    · have := ih (by omega); rw [zph]; omega
    · rw [show p = q + 1 by omega]; exact Nat.le_refl _
theorem zph_lt {p q : Nat} (h : p < q) : zph p + (60 + q) ≤ zph q := by
  obtain ⟨k, rfl⟩ : ∃ k, q = k + 1 := ⟨q - 1, by omega⟩
  have := zph_mono (show p ≤ k by omega)
  rw [zph]; omega
def zPf (h : zH) (m sk : Nat) (v : Term) (c s : Nat) (Q : zO → zH → Prop) : Prop := ∀ h' S', zCe [m, 7, 8] h h' c s → zown h' sk = some zHid → zOut h' (zser v) → Q (.inr 2) (zrh h' sk S')
/-- what a run's result wants of Q -/
def zRR (h : zH) (m sk bits bound p c0 s0 : Nat) (R : zro) (Q : zO → zH → Prop) : Prop :=
  (∀ vs' p', R = .inr (vs', p') → p ≤ p' → ∀ h' S', zCe [m] h h' (12 * (p' - p) + c0) (zph p' - zph p + s0) → zMa h' m sk bits bound (vs'.map znm) S' p' → Q (.inl none) (zrh h' sk S')) ∧
  (∀ x, R = .inl (2, x) → zPx h m sk 1 (12 * (bound - p) + 1 + c0) (zph bound - zph p + 6 + s0) Q) ∧
  (∀ x, R = .inl (3, x) → zPx h m sk 3 (12 * (bound - p) + 1 + c0) (zph bound - zph p + 6 + s0) Q) ∧
  (∀ v, R = .inl (4, v) → zPf h m sk v (12 * (bound - p) + 1 + c0) (zph bound - zph p + 6 + s0) Q)
section MB
variable {xs : List Value} {N : List zNt} {d D m sk bits bound p p1 a b i j l lb f held r r1 r2 c s c0 s0 c1 s1 k cl : Nat} {h h' h1 : zH} {S : List Value} {st vs W L : List Term} {v : Term} {e : zNt} {Q : zO → zH → Prop} {x : zkcs} {R R1 : zro}
theorem zRR_mv (g : zRR h m sk bits bound p c0 s0 R Q) (hc : zCe [m] h h1 c s) (h2 : p ≤ p1) (h3 : p1 ≤ bound) (h4 : c + c1 ≤ 12 * (p1 - p) + c0) (h5 : s + s1 + zph p ≤ zph p1 + s0) : zRR h1 m sk bits bound p1 c1 s1 R Q := by
  have m1 := zph_mono h2
  have m2 := zph_mono h3
  refine ⟨fun vs' p' hR hp h' S' hc' hm' => g.1 vs' p' hR (by omega) h' S' (zCe_le (zce_t hc hc') (by omega) ?_) hm', fun x hR h' S' hc' hs' => g.2.1 x hR h' S' (zCe_le (zce_t hc hc') (by omega) (by omega)) hs', fun x hR h' S' hc' hs' => g.2.2.1 x hR h' S' (zCe_le (zce_t hc hc') (by omega) (by omega)) hs', fun v hR h' S' hc' hs' ho => g.2.2.2 v hR h' S' (zCe_le (zCe_trans (U := [m, 7, 8]) hc hc' (fun k hk => by simp at hk; simp [hk]) (fun k hk => Or.inl hk)) (by omega) (by omega)) hs' ho⟩
  have := zph_mono hp
  omega
theorem zRR_kv (g : zRR h m sk bits bound p c0 s0 R Q) : zRR h m sk bits bound p c0 s0 R (zKV (fun h => Q (.inl none) h) (fun e h => Q (.inr e) h)) :=
  ⟨fun vs' p' hR hp h' S' hc hm => g.1 vs' p' hR hp h' S' hc hm, fun x hR h' S' hc hs => g.2.1 x hR h' S' hc hs, fun x hR h' S' hc hs => g.2.2.1 x hR h' S' hc hs, fun v hR h' S' hc hs ho => g.2.2.2 v hR h' S' hc hs ho⟩
theorem zRR_bind {K : zH → Prop} (g : zRR h m sk bits bound p c0 s0 R Q) (he : ∀ e, R1 = .inl e → R = .inl e) (k : ∀ vs' p', R1 = .inr (vs', p') → p ≤ p' → ∀ h' S', zCe [m] h h' (12 * (p' - p) + c0) (zph p' - zph p + s0) → zMa h' m sk bits bound (vs'.map znm) S' p' → K (zrh h' sk S')) : zRR h m sk bits bound p c0 s0 R1 (zKV K (fun e h => Q (.inr e) h)) :=
  ⟨fun vs' p' hR hp h' S' hc hm => k vs' p' hR hp h' S' hc hm, fun x hR h' S' hc hs => g.2.1 x (he _ hR) h' S' hc hs, fun x hR h' S' hc hs => g.2.2.1 x (he _ hR) h' S' hc hs, fun v hR h' S' hc hs ho => g.2.2.2 v (he _ hR) h' S' hc hs ho⟩
theorem zMa_k {fs : List Value} (hm : zMa h m sk bits bound W S p) (hc : zCe [m] h h' c s) (hk : zown h k = some (.inr (cl, fs))) (hn : cl ≠ 11) : zown h' k = some (.inr (cl, fs)) := by
  obtain ⟨no, h2⟩ := hm.2.1
  exact hc.1 k _ (fun z => by rw [List.mem_singleton.mp z, h2] at hk; cases hk; exact hn rfl) hk
theorem zSfr_ma (hm : zMa h m sk bits bound W S p) (hc : zCe [m] h h' c s) : zSfr lb h h' := by
  obtain ⟨no, h2⟩ := hm.2.1
  have K : ∀ k e, zown h k = some e → (∀ fs, e ≠ .inr (11, fs)) → zown h' k = some e := fun k e hk hn => hc.1 k e (fun z => by rw [List.mem_singleton.mp z, h2] at hk; cases hk; exact hn _ rfl) hk
  exact ⟨fun k fs hk => K k _ hk (fun fs z => by cases z), fun k vs _ hk => K k _ hk (fun fs z => by cases z), fun k e hk hv => K k e hk (fun fs z => by subst z; cases hv)⟩
theorem zStR_ma (hm : zMa h m sk bits bound W S p) (hc : zCe [m] h h' c s) (hs : zStR h N (zStp lb h N f) i st held a b r) : zStR h' N (zStp lb h' N f) i st held a b r :=
  zStR_f2 (zSfr_ma hm hc) (Nat.le_refl _) (fun vs hk => (zSfr_ma (lb := 0) hm hc).2.1 r vs (Nat.zero_le _) hk) hs
/-- a row of code -/
def zP99 (xs : List Value) (N : List zNt) (bits bound m sk f : Nat) : Prop := ∀ (i : Nat) (st : List Term) (held a b r : Nat) (vs : List Term) (p lb : Nat) (h : zH) (S : List Value) (x : zkcs) (Q : zO → zH → Prop) (D : Nat), 40 + 4 * f ≤ D → zStR h N (zStp lb h N f) i st held a b r → zkok held st → b ≤ 12 → zSs bound st vs p → zkbl N i st held a b = .inr x → zMa h m sk bits bound (vs.map znm) S p → zOut h [] → zRR h m sk bits bound p 0 0 (zrbl N bits bound i (vs, p)) Q → zG xs D (99, 0, lv_args 0 [zo (some m), zo (some r)], []) (zrh h sk S) Q
def zP100 (xs : List Value) (N : List zNt) (bits bound m sk f : Nat) : Prop := ∀ (j : Nat) (st : List Term) (held a b l : Nat) (vs : List Term) (p lb : Nat) (h : zH) (S : List Value) (x : zkcs) (Q : zO → zH → Prop) (D : Nat), 38 + 4 * f ≤ D → zStp lb h N f j st held a b l → zkok held st → b ≤ 12 → zSs bound st vs p → zkin N (zkbl N) held j (some st, a, b) = .inr x → zMa h m sk bits bound (vs.map znm) S p → zOut h [] → zRR h m sk bits bound p 0 0 (zrst N bits bound (zrbl N bits bound) j (vs, p)) Q → zG xs D (100, 0, lv_args 0 [zo (some m), zo (some l)], []) (zrh h sk S) Q
theorem zmk109 (hl : zVal h (.old (zenc (v :: L))) (.inl a)) : zMkv xs (d + 2) 109 [zo (some a)] h (.old (zenc L)) 2 (L.length + 7) := fun R g => by
  obtain ⟨is, h1, h2⟩ := zRv_val.mp hl
  cases is with
  | nil => exact absurd h2.1 (by simp)
  | cons b is =>
    have hln : is.length = L.length := by have := h2.1; simpa using this
    exact zc109 h1 (fun h' e1 r1 => g h' _ (hln ▸ e1) (zRv_val.mpr ⟨is, r1, zVs_ex e1.1 (zVs_drop (k := 1) h2)⟩))
theorem zmk15 (hl : zVal h (.old (zenc L)) (.inl a)) (hi : L[i]? = some v) : zMkv xs d 15 [zo (some a), .int (nI i)] h v 0 0 := fun R g => by
  obtain ⟨is, h1, h2⟩ := zRv_val.mp hl
  have hil := (List.getElem?_eq_some_iff.mp hi).1
  have hb : is[i]? = some (is[i]'(by rw [h2.1]; exact hil)) := List.getElem?_eq_getElem _
  exact zc15 h1 hb (g h _ (zEx_refl h) (h2.2 i v _ hi hb))
end MB
