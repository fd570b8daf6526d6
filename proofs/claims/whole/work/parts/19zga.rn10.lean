/-! the reference at work: ITER, MAP, LOOP -/
def zQx (xs : List Value) (d : Nat) (h : zH) (N : List zNt) (M0 : Nat → zE) (F0 : Nat → Value) (Q : zO → zH → Prop) (j D stop t : Nat) (Q0 : zO → zH → Prop) : Prop := ∀ (row : Int32) (M' : Nat → zE) (F' : Nat → Value) (Ts' vs' : List Term) (most' : Nat) (pd' : List Int32) (p' : Nat) (ce' : List (Nat × Nat × Nat)) (lo' : List (Nat × Nat)), zWS N M0 M' F0 F' Ts' vs' most' pd' p' ce' lo' → zAt M' 38 D = some (nI j) → zAt M' 39 D = some (nI stop) → zw_201_225 xs (d + 9) Q (zC22 xs (d + 9) Q) (some 10) (nI D) (nI (znx N j)) (nI stop) (nI t) row (zov h M') → Q0 (.inl (some (.int row))) (zov h M')
section RN10
variable {xs : List Value} {d : Nat} {h : zH} {N : List zNt} {M0 M M1 : Nat → zE} {F0 F F1 : Nat → Value} {Q Q0 : zO → zH → Prop} {ce X : List (Nat × Nat × Nat)} {lo Y : List (Nat × Nat)} {Ts vs st l0 : List Term} {pd : List Int32} {most p p1 bits bound j fr D t stop held a b g at_ k : Nat} {e : zNt} {A : List Nat} {x1 : zkcs} {R : zro} {a41 a42 a43 : Int32} {U : Term}
theorem zCv_s (hok : zkok held st) (hs : zSs bound st vs p) : ∀ v ∈ vs, zCv v := fun v hv => by
  obtain ⟨i, hi, rfl⟩ := List.getElem_of_mem hv
  have hl := zCfo_len hs.1
  have := zCfo_at i hs.1 (by omega)
  rw [zkat_lt hi] at this
  exact zCv_t _ (zkat_g (zkok_g hok) i (by omega)).1 _ this
/-- LOOP, from more() on -/
theorem zwlp (hl : 50 ≤ h.1.length) (hw : zWC N fr bits bound M0 F0) (hb2 : bits ≤ 120) (hbd : bound ≤ 150) (IH : ∀ i, zWb xs d h N bits bound M0 F0 Q A g i) (hD : D + (g + 1) ≤ 12) (he : N[j]? = some e) (hc : eC e = 59) (hrin : zRin N A g (j + 1)) (hj1 : j + 1 < N.length) (hok : zkok held st) (k1 : zkok held (st.drop 1)) (k2 : 0 < st.length) (hbt : ztc (zkat st 0) = 1) (hb : b ≤ 12) (hk1 : zkbl N (j + 1) (st.drop 1) held a b = .inr x1) (hx1 : x1.1 = some st) (hrs : zRs N A Ts ce lo pd p) (kE : zErw xs d h N M0 F0 Q R) (kC : zCow xs (d + 9) h N M0 F0 Q A R D (znx N j) stop M Ts ce lo pd p) :
    ∀ (n : Nat) (V : Term) (w1 : List Term) (p1 : Nat) (M1 : Nat → zE) (F1 : Nat → Value) (Ts1 : List Term) (most1 : Nat) (pd1 : List Int32) (X : List (Nat × Nat × Nat)) (Y : List (Nat × Nat)) (t1 : Nat) (a41 a42 a43 : Int32) (Q0 : zO → zH → Prop), R = zlpl (zrbl N bits bound (j + 1)) bound n (V :: w1, p1) → 152 ≤ p1 + n → p ≤ p1 → zWS N M0 M1 F0 F1 Ts1 (V :: w1) most1 pd1 p1 (ce ++ X) (lo ++ Y) → zGw N A Ts ce lo pd p Ts1 (ce ++ X) (lo ++ Y) pd1 p1 → zFq D M M1 → zFr M1 D (nI j) (nI stop) a41 a42 a43 → t1 + (D + 1) ≤ 2 * p1 → zSs bound st (V :: w1) p1 → zQx xs d h N M0 F0 Q j D stop t1 Q0 → zG xs (d + 7) (203, 0, lv_args 0 [zo (some 10), .int (nI D)], []) (zov h M1) (zKq Q0)
  | 0, V, w1, p1, M1, F1, Ts1, most1, pd1, X, Y, t1, a41, a42, a43, Q0, _, hn, _, _, _, _, _, _, hs1, _ => absurd hs1.2.2 (by omega)
  | n + 1, V, w1, p1, M1, F1, Ts1, most1, pd1, X, Y, t1, a41, a42, a43, Q0, hR, hn, hp, ws, gw, fq, hf, ht, hs1, hQ0 => by
    have hg := hw.2.2.1
    have hjl := (List.getElem?_eq_some_iff.mp he).1
    have htk := zkat_g (zkok_g hok) 0 k2
    have hV : V = .arg 21 ∨ V = .arg 22 := zVt_bool htk.1 hbt (zCfo_at 0 hs1.1 k2)
    have hpb := hs1.2.2
    rw [zlpl, show zkat (V :: w1, p1).fst 0 = V from rfl, show (V :: w1, p1).snd = p1 from rfl, show (V :: w1, p1).fst.drop 1 = w1 from rfl] at hR
    refine zc203l (d := d + 5) hl hw ws (by omega) he hc hf hV ⟨hbd, by omega⟩ (fun hv M' F' ws' fq' => zKI_v ?_) (fun hv hn' M' F' ws' fq' => zKI_v ?_) (fun hv hle M' F' ws' fq' => zKI_v ?_)
    · rw [if_neg (show ¬ V = .arg 22 by rw [hv]; intro z; injection z with z; exact absurd z (by decide))] at hR
      have fr' := zFr_q hf fq'
      refine hQ0 (-1) M' F' _ _ _ _ _ _ _ ws' fr'.1 fr'.2.1 (zg225n ?_)
      exact kC w1 p1 hR hp M' F' Ts1 _ pd1 X Y (t1 + 1) ws' gw (zFq_t fq (zFq_le fq' (by omega))) (by omega)
    · rw [if_pos (show V = .arg 22 from hv), if_neg hn'] at hR
      exact hQ0 (-2) M' F' _ _ _ _ _ _ _ ws' (zFr_q hf fq').1 (zFr_q hf fq').2.1 (zg225x (kE.1 _ hR M' F' _ _ _ _ _ _ _ ws'))
    · rw [if_pos (show V = .arg 22 from hv), if_pos hle] at hR
      have fr' := zFr_q hf fq'
      refine hQ0 (nI (j + 1)) M' F' _ _ _ _ _ _ _ ws' fr'.1 fr'.2.1 ?_
      refine zrow hl hw hb2 hbd (IH (j + 1)) hrin hj1 (by omega) k1 hb (zSs_up (zSs_drop 1 hs1) (by omega) hle) hk1 ws' (zRs_up (zGw_r gw hrs) (by omega)) (by omega) (zErw_of kE (fun e he => by rw [hR]; show (match zrbl N bits bound (j + 1) (w1, p1 + 1) with | .inl e => _ | .inr s' => _) = _; rw [show zrbl N bits bound (j + 1) (w1, p1 + 1) = _ from he])) fr' hjl ?_
      intro vs' p' st' hR2 ho hs' hp' M3 F3 Ts3 most3 pd3 X3 Y3 t3 ws3 gw3 fq3 fr3 ht3 Q1 hQ1
      rw [hx1] at ho
      cases ho
      obtain ⟨V3, w3, rfl⟩ := zvs1 hs'.1 k2
      rw [List.append_assoc, List.append_assoc] at ws3 gw3
      have hR3 : R = zlpl (zrbl N bits bound (j + 1)) bound n (V3 :: w3, p') := by
        rw [hR]
        show (match zrbl N bits bound (j + 1) (w1, p1 + 1) with | .inl e => _ | .inr s' => _) = _
        rw [show zrbl N bits bound (j + 1) (w1, p1 + 1) = _ from hR2]
      exact zc202r (d := d + 5) hl hw ws3 (by omega) he (Or.inr hc) fr3 (zwlp hl hw hb2 hbd IH hD he hc hrin hj1 hok k1 k2 hbt hb hk1 hx1 hrs kE kC n V3 w3 p' M3 F3 Ts3 most3 pd3 (X ++ X3) (Y ++ Y3) t3 a41 a42 a43 Q1 hR3 (by omega) (by omega) ws3 (zGw_t gw (zGw_t (zGw_p (by omega)) gw3)) (zFq_t fq (zFq_le (zFq_t fq' fq3) (by omega))) fr3 ht3 hs' hQ1)
end RN10
