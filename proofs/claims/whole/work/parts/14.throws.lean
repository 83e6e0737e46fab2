/-! ===== methods that may throw ===== -/
abbrev XN : List String := ["java/lang/RuntimeException", "java/lang/Exception"]
def XBL : List Cond := XE.map (fun q => Cond.castable q q) ++ XD.map Cond.declares
/-- an exception's class, the places of its name and of its constructor in the workbench's pool -/
def XQ (E : String) (ik ic : Nat) : Prop := Bundle.fit E = true ∧ Cond.classLink RX8 ik E ∈ GW ∧ Cond.initialized E ∈ GW ∧ (∀ w ∈ (vx_atS RX8 ic E XN).filter goodWord, w ∈ GW) ∧ (∀ w ∈ (vx_atS RX8 ic E XN).filter (fun w => !goodWord w), w ∈ XBL) ∧ (∀ w ∈ Cond.classLink RX8 ik E :: Cond.initialized E :: vx_atS RX8 ic E XN, vx_ot w = true)
set_option maxRecDepth 20000 in
theorem xq_IA : XQ eIA 75 79 := ⟨by decide +kernel, q413, q15, by decide +kernel, by decide +kernel, by decide +kernel⟩
set_option maxRecDepth 20000 in
theorem xq_IS : XQ eIS 93 97 := ⟨by decide +kernel, q433, q16, by decide +kernel, by decide +kernel, by decide +kernel⟩
set_option maxRecDepth 20000 in
theorem xq_IO : XQ eIO 128 132 := ⟨by decide +kernel, q345, q14, by decide +kernel, by decide +kernel, by decide +kernel⟩
theorem EN.xb {s : State} {args : Array Value} (h : EN s) : ∀ w ∈ XBL, w.before args s = true := by
  intro w hw
  rcases List.mem_append.mp hw with h1 | h1
  · obtain ⟨q, hq, rfl⟩ := List.mem_map.mp h1
    exact va_Nw.use rfl (h.2.2.2.1 q hq)
  · obtain ⟨q, hq, rfl⟩ := List.mem_map.mp h1
    exact va_Nw.use rfl (h.2.2.2.2.1 q hq)
def oX {β : Type} (o : Option (Nat × Unit × ST)) (z : β) (k : ST → Option (Nat × β × ST)) : Option (Nat × β × ST) := match o with
  | none => none
  | some u => if u.1 = 0 then k u.2.2 else some (u.1, z, u.2.2)
theorem oi_x {β : Type} {o : Option (Nat × Unit × ST)} {z : β} {k : ST → Option (Nat × β × ST)} {res : Nat × β × ST} (h : oX o z k = some res) : ∃ (n : Nat) (S1 : ST), o = some (n, (), S1) ∧ (n = 0 → k S1 = some res) ∧ (n ≠ 0 → res.1 = n ∧ res.2.2 = S1) := by
  cases o with
  | none => cases h
  | some u =>
    obtain ⟨n, u1, S1⟩ := u
    cases u1
    have h : (if n = 0 then k S1 else some (n, z, S1)) = some res := h
    refine ⟨n, S1, rfl, fun hn => ?_, fun hn => ?_⟩
    · rw [if_pos hn] at h; exact h
    · rw [if_neg hn] at h
      cases h
      exact ⟨rfl, rfl⟩
section TH
variable {p : Program} {l : Launch} {e : Env} {R : Room} {s : State} {m : MethodId} {args : Array Value} {below : List Frame} {meth : Method} {c : Code} {H : Heap} {locs : List Loc} {kc ks mc ms : Nat} {Q : State → Prop} {cc : ByteArray} {nL : Nat} {own : String} {ret : Option FieldType} {pc : Nat} {ls : Array Slot} {rest : List Value} {x : CX} {S S1 : ST} {st0 : List Value} {Qc : Array Value → State → Outcome → State → Prop}
theorem x_iret (F : MF p m meth c cc nL s args own (some .int)) (w : WD x s S H locs) {v : Int32} {res : Nat × Int32 × ST} {XC : String → State → State → Prop} (h : (0, v, S) = res) (hd : decode cc pc = .ok (.ireturn, 1)) : W p l e R s m args below meth c H locs kc ks (vx_MQ below (QXI x res.2.2 res.1 res.2.1 s.heap.size) XC args s kc ks (AA x s.heap.size)) (F0 m pc ls [.int v]) := by
  cases h
  exact vx_ret (W.iret F.1 F.2.1 F.2.2.2.2.2.1 (fun t ht hW => ⟨⟨v, (), rfl, ⟨rfl, rfl⟩, w.pre ht hW⟩, w.S.F ht⟩) w.S.2.2 hd F.2.2.2.2.2.2)
theorem x_zret (F : MF p m meth c cc nL s args own (some .boolean)) (w : WD x s S H locs) {v : Int32} {res : Nat × Int32 × ST} {XC : String → State → State → Prop} (hv : narrow .boolean (.int v) = .int v) (h : (0, v, S) = res) (hd : decode cc pc = .ok (.ireturn, 1)) : W p l e R s m args below meth c H locs kc ks (vx_MQ below (QXI x res.2.2 res.1 res.2.1 s.heap.size) XC args s kc ks (AA x s.heap.size)) (F0 m pc ls [.int v]) := by
  cases h
  exact vx_ret (W.zret F.1 F.2.1 F.2.2.2.2.2.1 hv (fun t ht hW => ⟨⟨v, (), rfl, ⟨rfl, rfl⟩, w.pre ht hW⟩, w.S.F ht⟩) w.S.2.2 hd F.2.2.2.2.2.2)
theorem x_vret (F : MF p m meth c cc nL s args own none) (w : WD x s S H locs) {res : Nat × Unit × ST} {XC : String → State → State → Prop} (h : (0, (), S) = res) (hd : decode cc pc = .ok (.return_, 1)) : W p l e R s m args below meth c H locs kc ks (vx_MQ below (QXV x res.2.2 res.1 s.heap.size) XC args s kc ks (AA x s.heap.size)) (F0 m pc ls []) := by
  cases h
  exact vx_ret (W.vret F.1 F.2.1 F.2.2.2.2.2.1 (fun t ht hW => ⟨⟨(), rfl, rfl, w.pre ht hW⟩, w.S.F ht⟩) w.S.2.2 hd F.2.2.2.2.2.2)
theorem x_XX (w : WD x s S H locs) {n : Nat} {E : String} (hn : (n, E) ∈ XK) {t : State} (hz : H.size ≤ t.heap.size) (hk : ∀ q : Nat, q < H.size → t.heap[q]? = H[q]?) : XX x S n s.heap.size E s t := by
  refine ⟨(), trivial, ⟨hn, w.P.kept fun k q h => ?_⟩, Nat.le_trans w.S.1 hz, fun q h1 h2 => ?_⟩
  · exact hk q.1 (vx_lt w.P h)
  · rw [hk q (Nat.lt_of_lt_of_le h1 w.S.1)]
    exact w.S.2.1 q h1 h2
/-- throw new E("text") -/
theorem x_throw {β : Type} {b : β} {res : Nat × β × ST} {n is ik ic : Nat} {E text : String} (F : MF p m meth c cc nL s args RX8 ret) (ht : ∀ z ∈ c.exceptionTable.toList, False) (hls : l.stackTraces = false) (w : WD x s S H locs) (h : (n, b, S) = res) (hn : (n, E) ∈ XK) (xq : XQ E ik ic) (hs : (is, text) ∈ XT) (hsz : ls.size = nL)
    (d0 : decode cc pc = .ok (.new ik, 3)) (d3 : decode cc (pc + 3) = .ok (.dup, 1)) (d4 : decode cc (pc + 4) = .ok (.ldc is, 2)) (d6 : decode cc (pc + 6) = .ok (.invokespecial ic, 3)) (d9 : decode cc (pc + 9) = .ok (.athrow, 1))
    (hRf : 5 < R.frames) (hRl : (rest.map fun v => v.category).sum + (13 * (2 + 1) + 43) ≤ R.locals) (hRc : kc + 1 ≤ R.cells) (hRs : ks + 6 ≤ R.slots) (hc : kc + 1 ≤ mc) (hs6 : ks + 6 ≤ ms) :
    W p l e R s m args below meth c H locs kc ks (vx_MQ below Qc (XX x res.2.2 res.1 s.heap.size) args s mc ms (AA x s.heap.size)) (F0 m pc ls rest) := by
  cases h
  obtain ⟨sa, hsa⟩ := w.E.2.2.1 _ hs
  exact vx_throwS (names := XN) (A := AA x s.heap.size) F.1 F.2.1 hls F.2.2.2.1 xq.1 (by decide +kernel) (F.2.2.2.2.1 _ xq.2.1) (F.2.2.2.2.1 _ xq.2.2.1) hsa (vx_hat (B := XBL) (fun w h => F.2.2.2.2.1 w (xq.2.2.2.1 w h)) xq.2.2.2.2.1 w.E.xb) xq.2.2.2.2.2 w.Z.1 w.Z.2 w.S (hsz.trans F.2.2.1.symm) d0 d3 d4 d6 d9 (fun z hz => (ht z hz).elim) hRf hRl hRc hRs F.2.2.2.2.2.2 (fun t _ hz hk => x_XX w hn hz hk) w.S.2.2 hc hs6
theorem x_throwW {β : Type} {b : β} {res : Nat × β × ST} {n is ik ic : Nat} {E text : String} (F : MF p m meth c cc nL s args RX8 ret) (ht : ∀ z ∈ c.exceptionTable.toList, False) (hls : l.stackTraces = false) (w : WD x s S H locs) (h : (n, b, S) = res) (hn : (n, E) ∈ XK) (xq : XQ E ik ic) (hs : (is, text) ∈ XT) (hsz : ls.size = nL)
    (d0 : decode cc pc = .ok (.new ik, 3)) (d3 : decode cc (pc + 3) = .ok (.dup, 1)) (d4 : decode cc (pc + 4) = .ok (.ldc_w is, 3)) (d6 : decode cc (pc + 7) = .ok (.invokespecial ic, 3)) (d9 : decode cc (pc + 10) = .ok (.athrow, 1))
    (hRf : 5 < R.frames) (hRl : (rest.map fun v => v.category).sum + (13 * (2 + 1) + 43) ≤ R.locals) (hRc : kc + 1 ≤ R.cells) (hRs : ks + 6 ≤ R.slots) (hc : kc + 1 ≤ mc) (hs6 : ks + 6 ≤ ms) :
    W p l e R s m args below meth c H locs kc ks (vx_MQ below Qc (XX x res.2.2 res.1 s.heap.size) args s mc ms (AA x s.heap.size)) (F0 m pc ls rest) := by
  cases h
  obtain ⟨sa, hsa⟩ := w.E.2.2.1 _ hs
  exact vx_throwSW (names := XN) (A := AA x s.heap.size) F.1 F.2.1 hls F.2.2.2.1 xq.1 (by decide +kernel) (F.2.2.2.2.1 _ xq.2.1) (F.2.2.2.2.1 _ xq.2.2.1) hsa (vx_hat (B := XBL) (fun w h => F.2.2.2.2.1 w (xq.2.2.2.1 w h)) xq.2.2.2.2.1 w.E.xb) xq.2.2.2.2.2 w.Z.1 w.Z.2 w.S (hsz.trans F.2.2.1.symm) d0 d3 d4 d6 d9 (fun z hz => (ht z hz).elim) hRf hRl hRc hRs F.2.2.2.2.2.2 (fun t _ hz hk => x_XX w hn hz hk) w.S.2.2 hc hs6
section XCL
variable {y : MethodName} {C : String} {bytes : ByteArray} {maxL n index : Nat} {rt : Option FieldType} {rm : Room} {As : List Value} {kb : Nat} {XC : String → State → State → Prop} {cm sm : Nat} {Qy : Array Value → State → Outcome → State → Prop}
theorem xrunV (F : MF p m meth c cc nL s args own ret) (w : WD x s S H locs) (hM : vx_Met l y (Cond.code y bytes maxL rt :: GW) rm (PC x S H.size (.ref (x.2.2 kb) :: As)) Qy XC cm sm (AA x H.size)) (cy : CY y C bytes maxL rt n) (h1 : Cond.methodLink own index y ∈ GW) (h2 : Cond.instanceMethod y ∈ GW) (h3 : Cond.selects C y y ∈ GW) (hrm : rm.cells = cm ∧ rm.slots = sm) (hR : rm.frames + 1 ≤ R.frames ∧ 8 + (maxL + 11) + rm.locals ≤ R.locals)
    {ci N : Nat} {T : u_T} {fs : List Value} (hk : kb < 88) (he : enc x S kb = .inr (ci, fs)) (hc : vwCl[ci]? = some (C, T, N)) (hn : As.length = n) (hst : st0 = As.reverse ++ .ref (x.2.2 kb) :: rest) (hsz : ls.size = nL) (hW : (rest.map fun v => v.category).sum ≤ 8) (hcap : kc + cm ≤ R.cells ∧ ks + sm ≤ R.slots) (hd : decode cc pc = .ok (.invokevirtual index, 3)) :
    vx_Run p l e R s m args below meth c H locs kc ks cm sm (F0 m pc ls st0) rest (Qy (Value.ref (x.2.2 kb) :: As).toArray) XC (AA x H.size) :=
  vx_runV F.fix hM (cwV n F.2.2.2.2.1 (giV cy h1 h2 h3) rfl hrm.1 hrm.2 cy.2.2 hR) ⟨PC.blind, va_recv w.K w.P (q := (C, T, N)) hc (by rw [cells_get x S hk, he]), fun U hU hWm => ⟨rfl, by rw [hU], w.pre hU hWm⟩⟩ rfl hn hsz hst (lv_room hW) hd hcap
theorem xrunS (F : MF p m meth c cc nL s args own ret) (w : WD x s S H locs) (hM : vx_Met l y (Cond.code y bytes maxL rt :: GW) rm (PC x S H.size As) Qy XC cm sm (AA x H.size)) (cy : CY y C bytes maxL rt n) (h1 : Cond.methodLink own index y ∈ GW) (h2 : Cond.static y ∈ GW) (hrm : rm.cells = cm ∧ rm.slots = sm) (hR : rm.frames + 1 ≤ R.frames ∧ 8 + (maxL + 11) + rm.locals ≤ R.locals)
    (hn : As.length = n) (hst : st0 = As.reverse ++ rest) (hsz : ls.size = nL) (hW : (rest.map fun v => v.category).sum ≤ 8) (hcap : kc + cm ≤ R.cells ∧ ks + sm ≤ R.slots) (hd : decode cc pc = .ok (.invokestatic index, 3)) :
    vx_Run p l e R s m args below meth c H locs kc ks cm sm (F0 m pc ls st0) rest (Qy As.toArray) XC (AA x H.size) :=
  vx_runS F.fix hM (va_cwS n F.2.2.2.2.1 (giS cy h1 h2) rfl hrm.1 hrm.2 cy.2.2.2 hR) ⟨PC.blind, fun U hU hWm => ⟨rfl, by rw [hU], w.pre hU hWm⟩⟩ rfl hn hsz hst (lv_room hW) hd hcap
/-- a call of a method without an answer that may throw, in one that lets it pass -/
theorem kx_v {β : Type} {res : Nat × β × ST} {n1 : Nat} {a : Array Value} (F : MF p m meth c cc nL s args own ret) (ht : ∀ z ∈ c.exceptionTable.toList, False) (w : WD x s S H locs) (hr : vx_Run p l e R s m args below meth c H locs kc ks cm sm (F0 m pc ls st0) rest (QXV x S1 n1 H.size a) (XX x S1 n1 H.size) (AA x H.size)) (hx : n1 ≠ 0 → res.1 = n1 ∧ res.2.2 = S1) (hc : kc + cm ≤ mc) (hs : ks + sm ≤ ms)
    (kk : n1 = 0 → ∀ (H1 : Heap) (locs1 : List Loc), WD x s S1 H1 locs1 → W p l e R s m args below meth c H1 locs1 (kc + cm) (ks + sm) (vx_MQ below Qc (XX x res.2.2 res.1 s.heap.size) args s mc ms (AA x s.heap.size)) (F0 m (pc + 3) ls rest)) : W p l e R s m args below meth c H locs kc ks (vx_MQ below Qc (XX x res.2.2 res.1 s.heap.size) args s mc ms (AA x s.heap.size)) (F0 m pc ls st0) := by
  refine vx_callv hr w.S (fun q _ h => w.sub q h) w.sub (fun q _ h => w.sub q h) ?_ ?_
  · intro E ce q9 u t H1 locs1 ht1 hvm _ hB hz hk hS hcell hv hcl
    have h0 : n1 ≠ 0 := by
      intro h
      have := hB.1
      rw [h] at this
      simp [XK] at this
    obtain ⟨r1, r2⟩ := hx h0
    rw [r1, r2]
    refine vx_out (fun z hz => (ht z hz).elim) F.2.2.2.2.2.2 hcell hv hcl (fun t' ht' _ => ⟨(), trivial, ⟨hB.1, by rw [ht', ← ht1]; exact hB.2⟩, hS.F ht'⟩) hS.2.2 hc hs
  · intro u t H1 locs1 ht1 hvm hp hB hz hk hS
    exact kk hp H1 locs1 (w.to (by rw [← ht1]; exact hB.1) hS)
end XCL
end TH
