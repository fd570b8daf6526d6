section RN14
variable {xs : List Value} {d : Nat} {h : zH} {N : List zNt} {M0 M : Nat → zE} {F0 F : Nat → Value} {Q : zO → zH → Prop} {ce : List (Nat × Nat × Nat)} {lo : List (Nat × Nat)} {Ts : List Term} {pd : List Int32} {most bits bound fr ic : Nat} {x : zkcs} {T V : Term}
/-- work() -/
theorem zc201 (hl : 50 ≤ h.1.length) (hw : zWC N fr bits bound M0 F0) (hb2 : 1 ≤ bits ∧ bits ≤ 120) (hbd : bound ≤ 150) (hht : zHt N 12 ic) (hi : ic < N.length) (ws : zWS N M0 M F0 F Ts [V] most pd 0 ce lo) (h57 : F0 57 = .int (nI ic)) (hok : zkok 0 [T]) (hs : zSs bound [T] [V] 0) (hk : zkbl N ic [T] 0 0 0 = .inr x) (r1 : ce.length + 2 * (znx N ic - ic) ≤ 601) (r2 : lo.length + (znx N ic - ic) ≤ 300) (r3 : Ts.length + (znx N ic - ic) ≤ 220) (kE : zErw xs d h N M0 F0 Q (zrbl N bits bound ic ([V], 0)))
    (kC : ∀ vs' p', zrbl N bits bound ic ([V], 0) = .inr (vs', p') → ∀ M' F' Ts' most' pd' X Y, zWS N M0 M' F0 F' Ts' vs' most' pd' p' (ce ++ X) (lo ++ Y) → (ce ++ X).length ≤ 601 + 4 * p' → (lo ++ Y).length ≤ 300 + 2 * p' → Q (.inl (some (.int 0))) (zov h M')) : zG xs (d + 9) (201, 0, lv_args 0 [zo (some 10)], []) (zov h M) Q := by
  obtain ⟨q1, q2, q3, q4⟩ := zWS_c ws hw
  have hg := hw.2.2.1
  have hsum := Nat.le_trans (zpw_sum (N := N) (pd := pd) (zcli N 12 ic)) (zcli_sum hg 12 ic hi)
  refine zs_201_0 (J22 := zC22 xs (d + 9) Q) (l0 := some 10) (fun _ _ _ _ _ _ lv' g0 g1 g2 g3 g4 hJ => hJ lv' g0 g1 g2 g3 g4) rfl ?_
  have f57 : F 57 = .int (nI ic) := (ws.2.2.1 57 (by decide)).trans h57
  refine zM_gi hl ws.1.1 f57 ?_
  intro x7 hx7
  rw [nI_1] at hx7
  subst hx7
  refine zM_gr hl ws.1.1 (ws.1.2.1 (13, 17) (by decide)) (zM_gi hl ws.1.1 f57 ?_)
  obtain ⟨Nx, Ow, Le, c1, c2, c3, c4, c5, c6, rows⟩ := q2
  refine zM_ia' hl c1 (rows ic hi).2 ?_
  have hrs : zRs N (zcli N 12 ic) Ts ce lo pd 0 := ⟨by omega, by omega, by omega⟩
  refine zwbl hl hw hb2 hbd 12 ic 0 0 [T] [V] 0 0 0 x 0 most pd M F Ts ce lo (zRin_of 12 ic hht (fun j h => h)) (by omega) hok (by omega) hs hk ws hrs (by omega) kE ?_
  intro vs' p' hR _ M' F' Ts' most' pd' X Y t' ws' gw' _ ht'
  obtain ⟨xo, xa, xb⟩ := x
  obtain ⟨st', u1, u2, u3⟩ := zrbl_s hg hb2.2 hbd N.length ic (by omega) _ _ _ _ _ _ _ _ _ _ _ hok (by omega) hs hk hR
  have hpb := u2.2.2
  have hpb : p' ≤ bound := hpb
  obtain ⟨g1, g2, g3⟩ := zGw_r gw' hrs
  apply zC22_i
  exact pk_lt t' 3000 (fun _ => ⟨fun _ => ⟨fun _ => kC vs' p' hR M' F' Ts' most' pd' X Y ws' (by omega) (by omega), fun z => absurd rfl z⟩, fun z => absurd rfl z⟩) (fun z => absurd z (by omega))
end RN14
