section RN11
variable {xs : List Value} {d : Nat} {h : zH} {N : List zNt} {M0 M M1 : Nat → zE} {F0 F F1 : Nat → Value} {Q Q0 : zO → zH → Prop} {ce X : List (Nat × Nat × Nat)} {lo Y : List (Nat × Nat)} {Ts vs st l0 : List Term} {pd : List Int32} {most p p1 bits bound j fr D t stop held a b g at_ k pz : Nat} {e : zNt} {A : List Nat} {x1 : zkcs} {R : zro} {a41 a42 a43 : Int32} {U T : Term} {f : Term → Term}
/-- ITER, from more() on -/
theorem zwit (hl : 50 ≤ h.1.length) (hw : zWC N fr bits bound M0 F0) (hb2 : bits ≤ 120) (hbd : bound ≤ 150) (IH : ∀ i, zWb xs d h N bits bound M0 F0 Q A g i) (hD : D + (g + 1) ≤ 12) (he : N[j]? = some e) (hc : eC e = 49) (hrin : zRin N A g (j + 1)) (hj1 : j + 1 < N.length) (k1 : zkok held (U :: st)) (hb : b ≤ 12) (hk1 : zkbl N (j + 1) (U :: st) held a b = .inr x1) (hx1 : x1.1 = some st) (hrs : zRs N A Ts ce lo pd p) (kE : zErw xs d h N M0 F0 Q R) (kC : zCow xs (d + 9) h N M0 F0 Q A R D (znx N j) stop M Ts ce lo pd p) :
    ∀ (L : List Term) (at_ : Nat) (w1 : List Term) (p1 : Nat) (M1 : Nat → zE) (F1 : Nat → Value) (Ts1 : List Term) (most1 : Nat) (pd1 : List Int32) (X : List (Nat × Nat × Nat)) (Y : List (Nat × Nat)) (t1 : Nat) (a42 a43 : Int32) (Q0 : zO → zH → Prop), R = zit (zrbl N bits bound (j + 1)) bound (L.map f) (w1, p1) → zRk k L → zRc ce lo (zenc L) (.inr (at_, k)) → (∀ v ∈ L, (zVt U (f v) ∧ zmr (f v) ≤ 40 + pz) ∧ ∀ ce lo x, zRc ce lo v (.inl x) → zRc ce lo (f v) (.inl x)) → p ≤ p1 → pz ≤ p1 → zWS N M0 M1 F0 F1 Ts1 w1 most1 pd1 p1 (ce ++ X) (lo ++ Y) → zGw N A Ts ce lo pd p Ts1 (ce ++ X) (lo ++ Y) pd1 p1 → zFq D M M1 → zFr M1 D (nI j) (nI stop) (nI at_) a42 a43 → t1 + (D + 1) ≤ 2 * p1 → zSs bound st w1 p1 → zQx xs d h N M0 F0 Q j D stop t1 Q0 → zG xs (d + 7) (203, 0, lv_args 0 [zo (some 10), .int (nI D)], []) (zov h M1) (zKq Q0)
  | [], at_, w1, p1, M1, F1, Ts1, most1, pd1, X, Y, t1, a42, a43, Q0, hR, hrk, ⟨ca, cb, hch⟩, hfi, hp, hpz, ws, gw, fq, hf, ht, hs1, hQ0 => by
    obtain ⟨q1, q2⟩ := zRk_0 hrk
    have hln := zCfo_len hs1.1
    have hl1 : st.length + 1 + held ≤ 12 := k1.1
    refine zc203e (d := d + 5) hl hw ws (by omega) he (Or.inl hc) hf (zget_app hch) q1 q2 (by omega) (fun _ => zKI_v ?_) (fun z => absurd z (by omega))
    refine hQ0 (-1) M1 F1 _ _ _ _ _ _ _ ws hf.1 hf.2.1 (zg225n ?_)
    exact kC w1 p1 hR hp M1 F1 Ts1 _ pd1 X Y (t1 + 1) ws gw fq (by omega)
  | v :: L, at_, w1, p1, M1, F1, Ts1, most1, pd1, X, Y, t1, a42, a43, Q0, hR, hrk, ⟨hd, bd, hch, hch1, hch2⟩, hfi, hp, hpz, ws, gw, fq, hf, ht, hs1, hQ0 => by
    have hg := hw.2.2.1
    have hjl := (List.getElem?_eq_some_iff.mp he).1
    obtain ⟨q1, q2, q3⟩ := zRk_1 hrk
    have hln := zCfo_len hs1.1
    have hl1 : st.length + 1 + held ≤ 12 := k1.1
    have hpb := hs1.2.2
    obtain ⟨⟨u1, u2⟩, u3⟩ := hfi v List.mem_cons_self
    rw [List.map_cons, zit] at hR
    refine zc203i (d := d + 5) (V := f v) hl hw ws (by omega) he (Or.inl hc) hf (zget_app hch) q1 q2 (zRc_app _ _ (u3 _ _ _ hch1)) (by omega) ⟨hbd, by omega⟩ (fun hn' M' F' ws' fq' => zKI_v ?_) (fun hle M' F' most' ws' fq' fr' => zKI_v ?_)
    · rw [if_neg hn'] at hR
      exact hQ0 (-2) M' F' _ _ _ _ _ _ _ ws' (zFr_q hf fq').1 (zFr_q hf fq').2.1 (zg225x (kE.1 _ hR M' F' _ _ _ _ _ _ _ ws'))
    · rw [if_pos hle] at hR
      have hR : R = (match zrbl N bits bound (j + 1) (f v :: w1, p1 + 1) with
        | .inl e => .inl e
        | .inr s' => zit (zrbl N bits bound (j + 1)) bound (L.map f) s') := hR
      refine hQ0 (nI (j + 1)) M' F' _ _ _ _ _ _ _ ws' fr'.1 fr'.2.1 ?_
      refine zrow hl hw hb2 hbd (IH (j + 1)) hrin hj1 (by omega) k1 hb (zSs_cons (zSs_up hs1 (by omega) hle) u1 (by omega)) hk1 ws' (zRs_up (zGw_r gw hrs) (by omega)) (by omega) (zErw_of kE (fun e he => by rw [hR, he])) fr' hjl ?_
      intro vs' p' st' hR2 ho hs' hp' M3 F3 Ts3 most3 pd3 X3 Y3 t3 ws3 gw3 fq3 fr3 ht3 Q1 hQ1
      rw [hx1] at ho
      cases ho
      rw [List.append_assoc, List.append_assoc] at ws3 gw3
      rw [hR2] at hR
      exact zc202r (d := d + 5) hl hw ws3 (by omega) he (Or.inl hc) fr3 (zwit hl hw hb2 hbd IH hD he hc hrin hj1 k1 hb hk1 hx1 hrs kE kC L bd vs' p' M3 F3 Ts3 most3 pd3 (X ++ X3) (Y ++ Y3) t3 a42 a43 Q1 hR q3 hch2 (fun v hv => hfi v (List.mem_cons_of_mem _ hv)) (by omega) (by omega) ws3 (zGw_t gw (zGw_t (zGw_p (by omega)) gw3)) (zFq_t (zFq_t fq fq') (zFq_le fq3 (by omega))) fr3 ht3 hs' hQ1)
/-- MAP, from more() on -/
theorem zwmp (hl : 50 ≤ h.1.length) (hw : zWC N fr bits bound M0 F0) (hb2 : bits ≤ 120) (hbd : bound ≤ 150) (IH : ∀ i, zWb xs d h N bits bound M0 F0 Q A g i) (hD : D + (g + 1) ≤ 12) (he : N[j]? = some e) (hc : eC e = 50) (hrin : zRin N A g (j + 1)) (hj1 : j + 1 < N.length) (k1 : zkok held (U :: st)) (hb : b ≤ 12) (hk1 : zkbl N (j + 1) (U :: st) held a b = .inr x1) (hx1 : x1.1 = some (T :: st)) (hT : zTok T) (hrs : zRs N A Ts ce lo pd p) (kE : zErw xs d h N M0 F0 Q R) (kC : zCow xs (d + 9) h N M0 F0 Q A R D (znx N j) stop M Ts ce lo pd p) :
    ∀ (L : List Term) (at_ : Nat) (acc : List Term) (ts : List Nat) (w1 : List Term) (p1 : Nat) (M1 : Nat → zE) (F1 : Nat → Value) (Ts1 : List Term) (most1 : Nat) (pd1 : List Int32) (X : List (Nat × Nat × Nat)) (Y : List (Nat × Nat)) (t1 : Nat) (Q0 : zO → zH → Prop), R = zmpl (zrbl N bits bound (j + 1)) bound L acc (w1, p1) → zRk 10 L → zRc ce lo (zenc L) (.inr (at_, 10)) → (∀ v ∈ L, zVt U v ∧ zmr v ≤ 40 + pz) → zMch (ce ++ X) (lo ++ Y) ce.length ce.length acc ts → (∀ v ∈ acc, zVt T v) → p ≤ p1 → pz ≤ p1 → zWS N M0 M1 F0 F1 Ts1 w1 most1 pd1 p1 (ce ++ X) (lo ++ Y) → zGw N A Ts ce lo pd p Ts1 (ce ++ X) (lo ++ Y) pd1 p1 → zFq D M M1 → zFr M1 D (nI j) (nI stop) (nI at_) (zMhd ce.length ts) (zMtl ts) → t1 + (D + 1) ≤ 2 * p1 → zSs bound st w1 p1 → zQx xs d h N M0 F0 Q j D stop t1 Q0 → zG xs (d + 7) (203, 0, lv_args 0 [zo (some 10), .int (nI D)], []) (zov h M1) (zKq Q0)
  | [], at_, acc, ts, w1, p1, M1, F1, Ts1, most1, pd1, X, Y, t1, Q0, hR, hrk, ⟨ca, cb, hch⟩, hfi, hm, hac, hp, hpz, ws, gw, fq, hf, ht, hs1, hQ0 => by
    obtain ⟨q1, q2⟩ := zRk_0 hrk
    have hln := zCfo_len hs1.1
    have hl1 : st.length + 1 + held ≤ 12 := k1.1
    have ks : zkok held st := ⟨by omega, fun T hT => k1.2 T (List.mem_cons_of_mem _ hT)⟩
    obtain ⟨X', ws', lx, hcr⟩ := zMap_end hw.2.2.1 ws (zCv_s ks hs1) hm (fun v hv => ⟨zCv_t _ hT _ (hac v hv), zgo_t hT (hac v hv)⟩)
    refine zc203e (d := d + 5) hl hw ws' (by omega) he (Or.inr hc) hf (zget_app hch) q1 q2 (by omega) (fun z => absurd z (by omega)) (fun _ => ⟨_, hcr, fun M' F' most' ws2 fq2 => zKI_v ?_⟩)
    have fr' := zFr_q hf fq2
    refine hQ0 (-1) M' F' _ _ _ _ _ _ _ ws2 fr'.1 fr'.2.1 (zg225n ?_)
    obtain ⟨g1, g2, g3⟩ := gw
    rw [List.length_append] at g1
    exact kC _ p1 hR hp M' F' Ts1 _ pd1 X' Y (t1 + 1) ws2 ⟨by rw [List.length_append, lx]; exact g1, g2, g3⟩ (zFq_t fq (zFq_le fq2 (by omega))) (by omega)
  | v :: L, at_, acc, ts, w1, p1, M1, F1, Ts1, most1, pd1, X, Y, t1, Q0, hR, hrk, ⟨hd, bd, hch, hch1, hch2⟩, hfi, hm, hac, hp, hpz, ws, gw, fq, hf, ht, hs1, hQ0 => by
    have hg := hw.2.2.1
    have hjl := (List.getElem?_eq_some_iff.mp he).1
    obtain ⟨q1, q2, q3⟩ := zRk_1 hrk
    have hln := zCfo_len hs1.1
    have hl1 : st.length + 1 + held ≤ 12 := k1.1
    have ks : zkok held st := ⟨by omega, fun T hT => k1.2 T (List.mem_cons_of_mem _ hT)⟩
    have hpb := hs1.2.2
    obtain ⟨u1, u2⟩ := hfi v List.mem_cons_self
    rw [zmpl] at hR
    refine zc203i (d := d + 5) (V := v) hl hw ws (by omega) he (Or.inr hc) hf (zget_app hch) q1 q2 (zRc_app _ _ hch1) (by omega) ⟨hbd, by omega⟩ (fun hn' M' F' ws' fq' => zKI_v ?_) (fun hle M' F' most' ws' fq' fr' => zKI_v ?_)
    · rw [if_neg hn'] at hR
      exact hQ0 (-2) M' F' _ _ _ _ _ _ _ ws' (zFr_q hf fq').1 (zFr_q hf fq').2.1 (zg225x (kE.1 _ hR M' F' _ _ _ _ _ _ _ ws'))
    · rw [if_pos hle] at hR
      have hR : R = (match zrbl N bits bound (j + 1) (v :: w1, p1 + 1) with
        | .inl e => .inl e
        | .inr s' => zmpl (zrbl N bits bound (j + 1)) bound L (acc ++ [zkat s'.1 0]) (s'.1.drop 1, s'.2)) := hR
      refine hQ0 (nI (j + 1)) M' F' _ _ _ _ _ _ _ ws' fr'.1 fr'.2.1 ?_
      refine zrow hl hw hb2 hbd (IH (j + 1)) hrin hj1 (by omega) k1 hb (zSs_cons (zSs_up hs1 (by omega) hle) u1 (by omega)) hk1 ws' (zRs_up (zGw_r gw hrs) (by omega)) (by omega) (zErw_of kE (fun e he => by rw [hR, he])) fr' hjl ?_
      intro vs' p' st' hR2 ho hs' hp' M3 F3 Ts3 most3 pd3 X3 Y3 t3 ws3 gw3 fq3 fr3 ht3 Q1 hQ1
      rw [hx1] at ho
      cases ho
      have m3 := zMch_app (X := X3) (Y := Y3) hm
      have gr := zGw_r gw3 (zRs_up (zGw_r gw hrs) (Nat.le_succ p1))
      rw [List.append_assoc, List.append_assoc] at ws3 gw3 m3 gr
      obtain ⟨V3, w3, rfl⟩ := zvs1 hs'.1 (by rw [List.length_cons]; omega)
      rw [hR2] at hR
      have hpb' := hs'.2.2
      have hV3 : zVt T V3 := hs'.1.1
      have hs3 : zSs bound st w3 p' := zSs_drop 1 hs'
      obtain ⟨r1, r2, r3⟩ := gr
      refine zc202m (d := d + 5) hg hl hw ws3 (by omega) he hc (by omega) fr3 m3 (zCv_t _ hT _ hV3) (zCv_s ks hs3) (fun v hv => zCv_t _ hT _ (hac v hv)) (fun M4 F4 X4 ts4 ws4 lx4 m4 fr4 fq4 => ?_)
      obtain ⟨g1, g2, g3⟩ := gw
      obtain ⟨g4, g5, g6⟩ := gw3
      refine zwmp hl hw hb2 hbd IH hD he hc hrin hj1 k1 hb hk1 hx1 hT hrs kE kC L bd (acc ++ [V3]) ts4 w3 p' M4 F4 Ts3 most3 pd3 X4 (Y ++ Y3) t3 Q1 hR q3 hch2 (fun v hv => hfi v (List.mem_cons_of_mem _ hv)) m4 (fun v hv => ?_) (by omega) (by omega) ws4 ⟨?_, by omega, by omega⟩ (zFq_t (zFq_t fq fq') (zFq_t (zFq_le fq3 (by omega)) fq4)) fr4 ht3 hs3 hQ1
      · rcases List.mem_append.mp hv with z | z
        · exact hac v z
        · rw [List.mem_singleton.mp z]; exact hV3
      · rw [List.length_append] at g1 g4 ⊢
        have e5 : (ce ++ X).length = ce.length + X.length := List.length_append
        rw [List.length_append] at g4 lx4
        omega
end RN11
