/-- how often a loop may go round in a pure program; how deep a method may call itself -/
def FU : Nat := 1000000
abbrev RD : Nat := 24
section MR
variable {p : Program} {l : Launch} {e : Env} {R : Room} {s : State} {m : MethodId} {args : Array Value} {below : List Frame} {meth : Method} {c : Code} {H : Heap} {locs : List Loc} {kc ks : Nat} {Q : State → Prop} {cc : ByteArray} {nL : Nat} {own : String} {ret : Option FieldType} {pc : Nat} {ls : Array Slot} {rest : List Value} {x : CX} {S S' : ST} {st0 : List Value}
theorem k_i0 (w : WD x s S H locs) {r : Int32} {a : Array Value} (hr : va_Run p l e R s m args below meth c H locs kc ks 0 0 (F0 m pc ls st0) rest (QI x S' r H.size a) (AA x H.size))
    (kk : ∀ (H1 : Heap) (locs1 : List Loc), WD x s S' H1 locs1 → W p l e R s m args below meth c H1 locs1 kc ks Q (F0 m (pc + 3) ls (.int r :: rest))) : W p l e R s m args below meth c H locs kc ks Q (F0 m pc ls st0) := k_i w hr kk
theorem k_l0 (w : WD x s S H locs) {r : Int64} {a : Array Value} (hr : va_Run p l e R s m args below meth c H locs kc ks 0 0 (F0 m pc ls st0) rest (QL x S' r H.size a) (AA x H.size))
    (kk : ∀ (H1 : Heap) (locs1 : List Loc), WD x s S' H1 locs1 → W p l e R s m args below meth c H1 locs1 kc ks Q (F0 m (pc + 3) ls (.long r :: rest))) : W p l e R s m args below meth c H locs kc ks Q (F0 m pc ls st0) := k_l w hr kk
theorem k_v0 (w : WD x s S H locs) {a : Array Value} (hr : va_Run p l e R s m args below meth c H locs kc ks 0 0 (F0 m pc ls st0) rest (QV x S' H.size a) (AA x H.size))
    (kk : ∀ (H1 : Heap) (locs1 : List Loc), WD x s S' H1 locs1 → W p l e R s m args below meth c H1 locs1 kc ks Q (F0 m (pc + 3) ls rest)) : W p l e R s m args below meth c H locs kc ks Q (F0 m pc ls st0) := k_v w hr kk
theorem k_r0 (w : WD x s S H locs) {k : Nat} {a : Array Value} (hr : va_Run p l e R s m args below meth c H locs kc ks 0 0 (F0 m pc ls st0) rest (QR x S' k H.size a) (AA x H.size))
    (kk : ∀ (H1 : Heap) (locs1 : List Loc), WD x s S' H1 locs1 → W p l e R s m args below meth c H1 locs1 kc ks Q (F0 m (pc + 3) ls (.ref (x.2.2 k) :: rest))) : W p l e R s m args below meth c H locs kc ks Q (F0 m pc ls st0) := k_r w hr kk
/-- a static call of a nest mate's private method -/
theorem runSN {y : MethodName} {C : String} {bytes : ByteArray} {maxL n index mc ms : Nat} {rt : Option FieldType} {rm : Room} {As : List Value} (F : MF p m meth c cc nL s args own ret) (w : WD x s S H locs) {Qc : Array Value → State → Outcome → State → Prop} (hM : Met l y (Cond.code y bytes maxL rt :: GW) rm (PC x S H.size As) Qc mc ms (AA x H.size)) (cy : CY y C bytes maxL rt n) (h1 : (own, index, y) ∈ NM) (h2 : Cond.static y ∈ GW) (hrm : rm.cells = mc ∧ rm.slots = ms) (hR : rm.frames + 1 ≤ R.frames ∧ 8 + (maxL + 11) + rm.locals ≤ R.locals)
    (hn : As.length = n) (hst : st0 = As.reverse ++ rest) (hsz : ls.size = nL) (hW : (rest.map fun v => v.category).sum ≤ 8) (hcap : kc + mc ≤ R.cells ∧ ks + ms ≤ R.slots) (hd : decode cc pc = .ok (.invokestatic index, 3)) :
    va_Run p l e R s m args below meth c H locs kc ks mc ms (F0 m pc ls st0) rest (Qc As.toArray) (AA x H.size) :=
  va_runSN F.fix hM ⟨va_cnB n F.2.2.2.2.1 (fun v h => by
    have h9 : v ∈ GW := by
      rcases List.mem_cons.mp h with rfl | h
      · exact cy.2.1
      · exact h
    exact ⟨h9, gw_good h9⟩) rfl hrm.1 hrm.2 (w.E.2.1 _ h1) (F.2.2.2.2.1 _ (by rw [cy.2.2.1]; exact cy.1)) cy.2.2.2 hR, F.2.2.2.2.1 _ h2, trivial⟩ ⟨PC.blind, fun U hU hWm => ⟨rfl, by rw [hU], w.pre hU hWm⟩⟩ rfl hn hsz hst (lv_room hW) hd hcap
/-- System.arraycopy(row j, 0, row i, 0, 24) -/
theorem r_copy (F : MF p m meth c cc nL s args own ret) (w : WD x s S H locs) {i j index : Nat} (hi : i < 24) (hj : j < 24) (hml : c.maxLocals = ls.size) (hl : Cond.methodLink own index arraycopyName ∈ GW) (hfr : 1 ≤ R.frames) (hlo : (rest.map fun v => v.category).sum + (nativeFrameWords "java/lang/System" "arraycopy" 5 + 11) ≤ R.locals) (hd : decode cc pc = .ok (.invokestatic index, 3))
    (kk : ∀ (H1 : Heap) (locs1 : List Loc), WD x s (sA S i (va_cpy (ai S j) (ai S i) 0 0 24)) H1 locs1 → W p l e R s m args below meth c H1 locs1 kc ks Q (F0 m (pc + 3) ls rest)) : W p l e R s m args below meth c H locs kc ks Q (F0 m pc ls (.int 24 :: .int 0 :: .ref (x.2.2 (2 * i + 1)) :: .int 0 :: .ref (x.2.2 (2 * j + 1)) :: rest)) :=
  va_copyi (ty := .int) F.1 F.2.1 hml F.2.2.2.1 (F.2.2.2.2.1 _ hl) (F.2.2.2.2.1 _ q480) (F.2.2.2.2.1 _ q479) (F.2.2.2.2.1 _ q17) w.K w.P w.D w.S (2 * j + 1) (2 * i + 1) 0 0 (by rw [cells_get x S (k_ma hj), enc_ma x S hj]) (by rw [cells_get x S (k_ma hi), enc_ma x S hi]) rfl rfl rfl (by decide) (by decide) (by decide) (by decide) (by decide) (fun _ _ => rfl) hfr hlo hd
    (fun H1 locs1 hP _ hS => kk H1 locs1 (w.to (by rw [cells_set (k_ma hi) (S' := sA S i (va_cpy (ai S j) (ai S i) 0 0 24)) (by rw [enc_ma x _ hi, ai_sA, va_up_self]; rfl) (fun k _ hk => enc_sA x S i _ (by rw [cA_ma hi]; exact hk))] at hP; exact hP) hS))
theorem r_aret (F : MF p m meth c cc nL s args own (some (.object RX3))) (w : WD x s S H locs) {k : Nat} {res : Nat × ST} (h : (k, S) = res) (hd : decode cc pc = .ok (.areturn, 1)) : W p l e R s m args below meth c H locs kc ks (MQ below (QR x res.2 (58 + res.1) s.heap.size) args s kc ks (AA x s.heap.size)) (F0 m pc ls [.ref (x.2.2 (58 + k))]) := by
  cases h
  exact W.aret F.1 F.2.1 F.2.2.2.2.2.1 (Or.inl ⟨_, rfl⟩) (Or.inr ⟨_, rfl⟩) (fun t ht hW => ⟨⟨(), x.2.2 (58 + k), rfl, trivial, rfl, w.pre ht hW⟩, w.S.F ht⟩) w.S.2.2 hd F.2.2.2.2.2.2
end MR
