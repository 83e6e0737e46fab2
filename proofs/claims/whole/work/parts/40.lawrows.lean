/-! ===== the law's body: rows ===== -/
abbrev CYW (y : MethodName) (C : String) (bytes : ByteArray) (maxL : Nat) (rt : Option FieldType) (hh : List (Nat × Nat × Nat × Nat)) (n : Nat) : Prop := Cond.initialized C ∈ GW ∧ Cond.codeWith y bytes maxL rt hh ∈ GW ∧ y.cls = C ∧ y.cls ≠ "java/lang/invoke/MethodHandle" ∧ y.cls ≠ "java/lang/invoke/VarHandle" ∧ (parseMethodDescriptor y.desc).map (fun d => d.parameters.length) = some n
section LW
variable {p : Program} {l : Launch} {e : Env} {R : Room} {s : State} {m : MethodId} {args : Array Value} {below : List Frame} {meth : Method} {c : Code} {H : Heap} {locs : List Loc} {kc ks mc ms : Nat} {Q : State → Prop} {cc : ByteArray} {nL : Nat} {own : String} {ret : Option FieldType} {pc : Nat} {ls : Array Slot} {rest : List Value} {x : CX} {S S' : ST} {st0 : List Value}
theorem giSW {y : MethodName} {C : String} {bytes : ByteArray} {maxL : Nat} {rt : Option FieldType} {hh : List (Nat × Nat × Nat × Nat)} {n index : Nat} (cy : CYW y C bytes maxL rt hh n) (h1 : Cond.methodLink own index y ∈ GW) (h2 : Cond.static y ∈ GW) : GoodIn GW (va_wsS own index y (Cond.codeWith y bytes maxL rt hh :: GW)) := by
  intro v hv
  have h : v ∈ GW := by
    unfold va_wsS at hv
    rcases List.mem_append.mp hv with h | h
    · simp only [List.mem_cons, List.not_mem_nil, or_false] at h
      rcases h with rfl | rfl | rfl
      · exact h1
      · exact h2
      · rw [cy.2.2.1]; exact cy.1
    · rcases List.mem_cons.mp h with rfl | h
      · exact cy.2.1
      · exact h
  exact ⟨h, gw_good h⟩
theorem runSW {y : MethodName} {C : String} {bytes : ByteArray} {maxL n index : Nat} {rt : Option FieldType} {rm : Room} {As : List Value} {hh : List (Nat × Nat × Nat × Nat)} (F : MF p m meth c cc nL s args own ret) (w : WD x s S H locs) {Qc : Array Value → State → Outcome → State → Prop} (hM : Met l y (Cond.codeWith y bytes maxL rt hh :: GW) rm (PC x S H.size As) Qc mc ms (AA x H.size)) (cy : CYW y C bytes maxL rt hh n) (h1 : Cond.methodLink own index y ∈ GW) (h2 : Cond.static y ∈ GW) (hrm : rm.cells = mc ∧ rm.slots = ms) (hR : rm.frames + 1 ≤ R.frames ∧ 8 + (maxL + 11) + rm.locals ≤ R.locals)
    (hn : As.length = n) (hst : st0 = As.reverse ++ rest) (hsz : ls.size = nL) (hW : (rest.map fun v => v.category).sum ≤ 8) (hcap : kc + mc ≤ R.cells ∧ ks + ms ≤ R.slots) (hd : decode cc pc = .ok (.invokestatic index, 3)) :
    va_Run p l e R s m args below meth c H locs kc ks mc ms (F0 m pc ls st0) rest (Qc As.toArray) (AA x H.size) :=
  vx_runSW F.fix hM (vx_cwSW n F.2.2.2.2.1 (giSW cy h1 h2) rfl hrm.1 hrm.2 cy.2.2.2 hR) ⟨PC.blind, fun U hU hWm => ⟨rfl, by rw [hU], w.pre hU hWm⟩⟩ rfl hn hsz hst (lv_room hW) hd hcap
end LW
theorem cap_le {kc ks a b : Nat} (h : kc + 8 ≤ 601024 ∧ ks + 48 ≤ 7293034) (ha : a ≤ 8) (hb : b ≤ 48) : kc + a ≤ room_1.cells ∧ ks + b ≤ room_1.slots := ⟨show kc + a ≤ 601024 by omega, show ks + b ≤ 7293034 by omega⟩
theorem cap_le2 {kc ks a b a2 b2 : Nat} (h : kc + 8 ≤ 601024 ∧ ks + 48 ≤ 7293034) (ha : a + a2 ≤ 8) (hb : b + b2 ≤ 48) : kc + a + a2 ≤ room_1.cells ∧ ks + b + b2 ≤ room_1.slots := ⟨show kc + a + a2 ≤ 601024 by omega, show ks + b + b2 ≤ 7293034 by omega⟩
