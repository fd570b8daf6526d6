/-! ADEQUACY, fourth part: one instruction on the heap -/
theorem zown_at {h : zH} {k : Nat} {e : zE} (hk : zown h k = some e) {ad : Nat → Nat} {tys : List (ClassId × FieldType)} : (zws ad tys h.1)[k - zK0]? = some (ad k, zcE ad tys e) ∧ h.1[k - zK0]? = some e ∧ k - zK0 + zK0 = k := by
  unfold zown at hk
  split at hk
  · cases hk
  · rename_i hn
    have e1 : k - zK0 + zK0 = k := by omega
    have h1 := zws_at (ad := ad) (tys := tys) hk
    rw [e1] at h1
    exact ⟨h1, hk, e1⟩
theorem zown_wf {h : zH} {k : Nat} {e : zE} (hk : zown h k = some e) (hw : zwH h.1) : zwE (h.1.length + zK0) e := by
  obtain ⟨-, h1, -⟩ := zown_at hk (ad := id) (tys := [])
  exact hw e (List.mem_of_getElem? h1)
theorem ztys {tys : List (ClassId × FieldType)} (hty : tys.map (fun q => q.2) = z_aty) {t : Nat} {ty : FieldType} (ht : z_aty[t]? = some ty) : tys[t]? = some (zty tys t, ty) := by
  have h1 : (tys.map (fun q => q.2))[t]? = some ty := by rw [hty]; exact ht
  rw [List.getElem?_map] at h1
  unfold zty
  rw [List.getD_eq_getElem?_getD]
  cases hq : tys[t]? with
  | none => rw [hq] at h1; cases h1
  | some q =>
    rw [hq] at h1
    obtain ⟨a, b⟩ := q
    cases h1
    rfl
section ZH
variable {p : Program} {l : Launch} {e : Env} {R : Room} {s : State} {m : MethodId} {args : Array Value} {below : List Frame} {meth : Method} {c : Code} {H : Heap} {locs : List Loc} {cells slots : Nat} {Q : State → Prop}
variable {cc : ByteArray} {pc : Nat} {ls : Array Slot} {rest : List Value} {ad : Nat → Nat} {B : Nat} {D : va_G} {tys : List (ClassId × FieldType)} {h : zH} {mi : Nat} {H0 : Heap}
theorem zW_set {k : Nat} {e0 e1 : zE} {H1 : Heap} (hW : zW B D tys ad h s H) (hk : zown h k = some e0) (he : zwE (h.1.length + zK0) e1) (hP : va_P D z_cls ((zws ad tys h.1).set (k - zK0) (ad k, zcE ad tys e1)) H1) (hD : va_D (fun q => B ≤ q) ((zws ad tys h.1).set (k - zK0) (ad k, zcE ad tys e1))) (hz : B ≤ H1.size) : zW B D tys ad (zput h k e1) s H1 := by
  obtain ⟨-, -, e2⟩ := zown_at hk (ad := ad) (tys := tys)
  have h3 : (zws ad tys h.1).set (k - zK0) (ad k, zcE ad tys e1) = zws ad tys (h.1.set (k - zK0) e1) := by
    have h4 := zws_set (ad := ad) (tys := tys) (h := h.1) (k := k - zK0) (e := e1)
    rw [e2] at h4
    exact h4
  rw [h3] at hP hD
  exact ⟨hP, hD, hW.2.2.1, zwH_set hW.2.2.2.1 he, hz⟩
theorem zW_push {e1 : zE} {q n : Nat} {H1 : Heap} (hW : zW B D tys ad h s H) (he : zwE (h.1.length + zK0) e1) (hP : va_P D z_cls (zws ad tys h.1 ++ [(q, zcE (zad ad (h.1.length + zK0) q) tys e1)]) H1) (hD : va_D (fun q => B ≤ q) (zws ad tys h.1 ++ [(q, zcE (zad ad (h.1.length + zK0) q) tys e1)])) (hz : B ≤ H1.size) : zW B D tys (zad ad (h.1.length + zK0) q) (zadd h e1 n) s H1 := by
  rw [zws_push hW.2.2.2.1] at hP hD
  exact ⟨hP, hD, hW.2.2.1, zwH_push hW.2.2.2.1 he, hz⟩
theorem za_get {x t ci j k : Nat} {fs : List Value} {v : Value} (hx : p.tables.exec = Jvm.exec) (hb : c.code = cc) (hown : s.vm.findClass (zOwn mi) = some m.cls) (hts : ∀ w ∈ zTl, w.before args s = true) (hW : zW B D tys ad h s H)
    (hl : zlink mi x = some (t, ci, j)) (hk : zown h k = some (.inr (ci, fs))) (ht : t < 2) (hv : fs[j]? = some v) (hd : decode cc pc = .ok (.getfield x, 3))
    (kk : W p l e R s m args below meth c H locs cells slots Q (F0 m (pc + 3) ls (zcv ad v :: rest))) : W p l e R s m args below meth c H locs cells slots Q (F0 m pc ls (.ref (ad k) :: rest)) := by
  obtain ⟨h1, -, -⟩ := zown_at hk (ad := ad) (tys := tys)
  have hf := zlf_of hl
  unfold zlf at hf
  simp only [ht, if_true] at hf
  have hf := of_decide_eq_true hf
  have hlt := zlt hts hl
  have hv' : (fs.map (zcv ad))[j]? = some (zcv ad v) := by rw [List.getElem?_map, hv]; rfl
  have ht2 : t = 0 ∨ t = 1 := by omega
  rcases ht2 with rfl | rfl
  · exact va_get (D := D) (ci := ci) hx hb hts (zuw hf.1) hown hW.2.2.1 hW.1 (k - zK0) h1 (z_clq ci hf.1) j hf.2 (hlt _ List.mem_cons_self) (fun _ h9 => h9) hv' hd kk
  · exact va_getN (D := D) (ci := ci) hx hb hts (zuw hf.1) hown hW.2.2.1 hW.1 (k - zK0) h1 (z_clq ci hf.1) j hf.2 (hlt _ List.mem_cons_self) (fun _ h9 => h9) hv' hd kk
theorem za_put {x t ci j k : Nat} {fs : List Value} {v : Value} (hx : p.tables.exec = Jvm.exec) (hb : c.code = cc) (hown : s.vm.findClass (zOwn mi) = some m.cls) (hts : ∀ w ∈ zTl, w.before args s = true) (hin : z_ini.getD mi false = true → meth.name = "<init>") (hW : zW B D tys ad h s H) (hS : va_S (fun q => B ≤ q) H0 H locs) (hwv : zwv (h.1.length + zK0) v)
    (hl : zlink mi x = some (t, ci, j)) (hk : zown h k = some (.inr (ci, fs))) (ht : t < 2) (hj : j < fs.length) (hfit : zfits (zFt ci j) v = true) (hfin : (z_fin.getD ci []).getD j true = false ∨ (t = 0 ∧ z_ini.getD mi false = true ∧ z_mc.getD mi 0 = ci)) (hd : decode cc pc = .ok (.putfield x, 3))
    (kk : ∀ (H1 : Heap) (locs1 : List Loc), zW B D tys ad (zput h k (.inr (ci, fs.set j v))) s H1 → va_S (fun q => B ≤ q) H0 H1 locs1 → W p l e R s m args below meth c H1 locs1 cells slots Q (F0 m (pc + 3) ls rest)) : W p l e R s m args below meth c H locs cells slots Q (F0 m pc ls (zcv ad v :: .ref (ad k) :: rest)) := by
  obtain ⟨h1, -, -⟩ := zown_at hk (ad := ad) (tys := tys)
  have hf := zlf_of hl
  unfold zlf at hf
  simp only [ht, if_true] at hf
  have hf := of_decide_eq_true hf
  have hlt := zlt hts hl
  obtain ⟨hn1, hn2⟩ := zfits_ok (ad := ad) hfit
  obtain ⟨hfa, hfb⟩ := zff_ok ci hf.1 j hf.2
  have hwf : zwE (h.1.length + zK0) (.inr (ci, fs.set j v)) := by
    intro z hz
    rcases List.mem_or_eq_of_mem_set hz with h9 | h9
    · exact zown_wf hk hW.2.2.2.1 z h9
    · rw [h9]; exact hwv
  have fin : ∀ (H1 : Heap) (locs1 : List Loc), va_P D z_cls ((zws ad tys h.1).set (k - zK0) (ad k, .inr (ci, (fs.map (zcv ad)).set j (zcv ad v)))) H1 → va_D (fun q => B ≤ q) ((zws ad tys h.1).set (k - zK0) (ad k, .inr (ci, (fs.map (zcv ad)).set j (zcv ad v)))) → va_S (fun q => B ≤ q) H0 H1 locs1 → H.size ≤ H1.size ∨ B ≤ H1.size → W p l e R s m args below meth c H1 locs1 cells slots Q (F0 m (pc + 3) ls rest) := by
    intro H1 locs1 q1 q2 q3 q4
    have hz : B ≤ H1.size := by
      rcases q4 with q4 | q4
      · exact Nat.le_trans hW.2.2.2.2 q4
      · exact q4
    have e1 : (Sum.inr (ci, (fs.map (zcv ad)).set j (zcv ad v)) : va_E) = zcE ad tys (.inr (ci, fs.set j v)) := by
      show Sum.inr _ = Sum.inr (ci, (fs.set j v).map (zcv ad))
      rw [List.map_set]
    rw [e1] at q1 q2
    exact kk H1 locs1 (zW_set hW hk hwf q1 q2 hz) q3
  have lt : ∀ (H1 : Heap), va_P D z_cls ((zws ad tys h.1).set (k - zK0) (ad k, .inr (ci, (fs.map (zcv ad)).set j (zcv ad v)))) H1 → va_D (fun q => B ≤ q) ((zws ad tys h.1).set (k - zK0) (ad k, .inr (ci, (fs.map (zcv ad)).set j (zcv ad v)))) → B ≤ H1.size := by
    intro H1 q1 q2
    have hlen : k - zK0 < (zws ad tys h.1).length := (List.getElem?_eq_some_iff.mp h1).1
    have h9 := List.getElem?_set_self (a := (ad k, (Sum.inr (ci, (fs.map (zcv ad)).set j (zcv ad v)) : va_E))) hlen
    exact Nat.le_trans (q2.2 _ _ h9) (Nat.le_of_lt (q1 _ _ h9).lt)
  have ht2 : t = 0 ∨ t = 1 := by omega
  by_cases hfi : (z_fin.getD ci []).getD j true = false
  · rcases ht2 with rfl | rfl
    · exact va_put (D := D) (ci := ci) hx hb hts (zuw hf.1) (zFt ci) (zft_ok ci hf.1) (zfn_ok ci hf.1) hown hW.2.2.1 hW.1 hW.2.1 hS (k - zK0) h1 (z_clq ci hf.1) j hf.2 (hlt _ List.mem_cons_self) (fun _ h9 => h9) (hfa.trans hfi) (zft_ok ci hf.1 j hf.2) hn1 hn2 (by rw [List.length_map]; exact hj) hd (fun H1 l1 q1 q2 q3 => fin H1 l1 q1 q2 q3 (Or.inr (lt H1 q1 q2)))
    · exact va_putN (D := D) (ci := ci) hx hb hts (zuw hf.1) (zFt ci) (zft_ok ci hf.1) (zfn_ok ci hf.1) hown hW.2.2.1 hW.1 hW.2.1 hS (k - zK0) h1 (z_clq ci hf.1) j hf.2 (hlt _ List.mem_cons_self) (fun _ h9 => h9) (hfa.trans hfi) (zft_ok ci hf.1 j hf.2) hn1 hn2 (by rw [List.length_map]; exact hj) hd (fun H1 l1 q1 q2 q3 => fin H1 l1 q1 q2 q3 (Or.inr (lt H1 q1 q2)))
  · rcases hfin with hz | ⟨rfl, hini, hci⟩
    · exact absurd hz hfi
    · have hfi2 : (z_fin.getD ci []).getD j true = true := by simpa using hfi
      exact va_putF (D := D) (ci := ci) hx hb hts (zuw hf.1) (zFt ci) (zft_ok ci hf.1) (zfn_ok ci hf.1) hown hW.2.2.1 hW.1 hW.2.1 hS (k - zK0) h1 (z_clq ci hf.1) j hf.2 (hlt _ List.mem_cons_self) (fun _ h9 => h9) (hfa.trans hfi2) (hin hini) (hfb.trans (by unfold zOwn; rw [hci])) (zft_ok ci hf.1 j hf.2) hn1 hn2 (by rw [List.length_map]; exact hj) hd (fun H1 l1 q1 q2 q3 => fin H1 l1 q1 q2 q3 (Or.inr (lt H1 q1 q2)))
end ZH
