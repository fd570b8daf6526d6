/-! ADEQUACY, ninth part: the contract of a callee -/
theorem zS_F {B : Nat} {s t : State} {H : Heap} {locs : List Loc} (hS : va_S (fun q => B ≤ q) s.heap H locs) (ht : t.heap = H) : va_F (fun q => B ≤ q) s t := hS.F ht
/-- the words of a throw: at the link (x, 4, ev, ic) of a class -/
def zXn : List String := ["java/lang/RuntimeException", "java/lang/Exception"]
def zxq (own : String) (q : Nat × Nat × Nat × Nat) : List Cond := if q.2.1 = 4 then vx_at0 own q.2.2.2 (zEn q.2.2.1) zXn else []
section ZMET
variable {l : Launch} {n : Nat}
set_option maxHeartbeats 4000000 in
theorem zret_W {p : Program} {e : Env} {R : Room} {s : State} {m : MethodId} {args : Array Value} {below : List Frame} {meth : Method} {c : Code} {H : Heap} {locs : List Loc} {cells slots : Nat} {Qc : Array Value → State → Outcome → State → Prop} {free : Addr → Prop} {ret : Option FieldType} {cc : ByteArray} {pc len : Nat} {ls : Array Slot} {i : Instr} {st : List Value} {v : Option Value} {ad : Nat → Nat}
    (hx : p.tables.exec = Jvm.exec) (hb : c.code = cc) (hr : meth.sig.returnType = ret) (hlocks : meth.locks = false) (hd : decode cc pc = .ok (i, len)) (hl : zlen i = len ∨ zlen i = 0) (hz : zret ret i st = some v)
    (hq : ∀ t : State, t.heap = H → s.WarmedH t.vm → Qc args s (.returned (v.map (zcv ad))) t) (hf : ∀ q ∈ locs, free q.base) : W p l e R s m args below meth c H locs cells slots (MQ below Qc args s cells slots free) (F0 m pc ls (st.map (zcv ad))) := by
  unfold zret at hz
  split at hz
  case h_9 => cases hz
  all_goals (refine hl.elim (fun hl => ?_) (fun hl => zl0 hl))
  all_goals subst hl
  · cases hz; exact W.iret hx hb hr hq hf hd hlocks
  · split at hz
    · rename_i hv; cases hz
      refine W.zret (ty := .boolean) hx hb hr ?_ hq hf hd hlocks
      rcases hv with rfl | rfl <;> rfl
    · cases hz
  · cases hz; exact W.lret hx hb hr hq hf hd hlocks
  · cases hz; exact W.aret hx hb hr (Or.inl ⟨_, rfl⟩) (Or.inr ⟨_, rfl⟩) hq hf hd hlocks
  · cases hz; exact W.aret hx hb hr (Or.inl ⟨_, rfl⟩) (Or.inl rfl) hq hf hd hlocks
  · cases hz; exact W.aret hx hb hr (Or.inr ⟨_, rfl⟩) (Or.inr ⟨_, rfl⟩) hq hf hd hlocks
  · cases hz; exact W.aret hx hb hr (Or.inr ⟨_, rfl⟩) (Or.inl rfl) hq hf hd hlocks
  · cases hz; exact W.vret hx hb hr hq hf hd hlocks
theorem zret_wf {k : Nat} {ret : Option FieldType} {i : Instr} {st : List Value} {v : Option Value} (hz : zret ret i st = some v) (hw : zwS k st) : ∀ x, v = some x → zwv k x := by
  intro x hx
  subst hx
  unfold zret at hz
  split at hz
  all_goals first | (cases hz; done) | (cases hz; exact hw _ List.mem_cons_self) | skip
  split at hz
  · cases hz; exact hw _ List.mem_cons_self
  · cases hz
end ZMET
