def f_L_add (S : ST) (a1 : Int32) (a2 : Int32) : Option (Int32 × ST) := oY (f_X8_add S a1 a2) [(1, 1), (2, 2), (3, 3)] (fun r S1 => some (0, sB S1 5 (vp_updL (al S1 5) (Int32.toNatClampNeg 0) (Int32.toInt64 r))))
set_option maxHeartbeats 4000000 in
set_option maxRecDepth 100000 in
theorem b_L_add {p : Program} {l : Launch} {e : Env} {s : State} {m : MethodId} {args : Array Value} {below : List Frame} {meth : Method} {c : Code} {x : CX} {res : Int32 × ST} (F : MF p m meth c cL_add 5 s args RL (some .int)) (htab : c.exceptionTable.toList = tableOf [(0, 10, 13, 13), (0, 10, 17, 15), (0, 10, 21, 17)]) (hls : l.stackTraces = false) (H : Heap) (locs : List Loc) (ls : Array Slot) (S : ST) (w : WD x s S H locs) (a1 : Int32) (a2 : Int32) (hl : lv_has ls 5 [(0, .ref (x.2.2 79)), (1, .int a1), (2, .int a2), (3, .ref (x.2.2 87))]) (hf : f_L_add S a1 a2 = some res) : W p l e ({ frames := 8, cells := 4, slots := 24, locals := 174 } : Room) s m args below meth c H locs 0 0 (MQ below (QI x res.2 res.1 s.heap.size) args s 4 24 (AA x s.heap.size)) (F0 m 0 ls []) := by
  unfold f_L_add at hf
  obtain ⟨n1, r1, S1, hc, hf0, hx⟩ := oi_y hf
  refine lv_aload_n F.1 F.2.1 dL_add_0 rfl (lv_at hl 3 rfl) ?_
  refine lv_iconst (v := 0) F.1 F.2.1 dL_add_1 (by decide) ?_
  refine lv_aload_n F.1 F.2.1 dL_add_2 rfl (lv_at hl 0 rfl) ?_
  refine lv_iload_n F.1 F.2.1 dL_add_3 rfl (lv_at hl 1 rfl) ?_
  refine lv_iload_n F.1 F.2.1 dL_add_4 rfl (lv_at hl 2 rfl) ?_
  refine ky_i (S1 := S1) (n1 := n1) (r := r1) w (xrunV (As := [.int a1, .int a2]) (rest := [.int 0, .ref (x.2.2 87)]) (kb := 79) F w (k_X8_add l x S a1 a2 hc hls H.size) cy_X8_add q338 q339 q340 ⟨rfl, rfl⟩ ⟨Nat.le_of_ble_eq_true rfl, Nat.le_of_ble_eq_true rfl⟩ (by decide) rfl rfl rfl rfl hl.1 (Nat.le_of_ble_eq_true rfl) ⟨Nat.le_of_ble_eq_true rfl, Nat.le_of_ble_eq_true rfl⟩ dL_add_5) ?_ ?_
  · intro E ce q9 H1 locs1 hE w1 hce hv hcl
    obtain ⟨c1, hc1, hr1⟩ := hx (xk_ne hE)
    simp only [XK, List.mem_cons, List.not_mem_nil, or_false] at hE
    rcases hE with hE | hE | hE
    · cases hE
      have h9 : some (1 : Int32) = some c1 := hc1
      cases h9
      refine x_catch F w1 [] 0 10 13 13 [(0, 10, 17, 15), (0, 10, 21, 17)] htab (fun z hz => absurd hz List.not_mem_nil) (by decide) (by decide) q335 (by simp [XE]) hce hv hcl ?_
      refine lv_astore (lv' := [(4, .ref q9), (0, .ref (x.2.2 79)), (1, .int a1), (2, .int a2), (3, .ref (x.2.2 87))]) F.1 F.2.1 dL_add_13 hl (by decide) rfl (fun ls hl => ?_)
      refine lv_iconst (v := 1) F.1 F.2.1 dL_add_15 (by decide) ?_
      exact r_iret F w1 hr1 dL_add_16
    · cases hE
      have h9 : some (2 : Int32) = some c1 := hc1
      cases h9
      refine x_catch F w1 [(0, 10, 13, 13)] 0 10 17 15 [(0, 10, 21, 17)] htab (fun z hz => by
        simp only [List.mem_cons, List.not_mem_nil, or_false] at hz
        rcases hz with rfl
        · exact ⟨by decide, eIO, q335, by simp [XP]⟩) (by decide) (by decide) q336 (by simp [XE]) hce hv hcl ?_
      refine lv_astore (lv' := [(4, .ref q9), (0, .ref (x.2.2 79)), (1, .int a1), (2, .int a2), (3, .ref (x.2.2 87))]) F.1 F.2.1 dL_add_17 hl (by decide) rfl (fun ls hl => ?_)
      refine lv_iconst (v := 2) F.1 F.2.1 dL_add_19 (by decide) ?_
      exact r_iret F w1 hr1 dL_add_20
    · cases hE
      have h9 : some (3 : Int32) = some c1 := hc1
      cases h9
      refine x_catch F w1 [(0, 10, 13, 13), (0, 10, 17, 15)] 0 10 21 17 [] htab (fun z hz => by
        simp only [List.mem_cons, List.not_mem_nil, or_false] at hz
        rcases hz with rfl | rfl
        · exact ⟨by decide, eIO, q335, by simp [XP]⟩
        · exact ⟨by decide, eIA, q336, by simp [XP]⟩) (by decide) (by decide) q337 (by simp [XE]) hce hv hcl ?_
      refine lv_astore (lv' := [(4, .ref q9), (0, .ref (x.2.2 79)), (1, .int a1), (2, .int a2), (3, .ref (x.2.2 87))]) F.1 F.2.1 dL_add_21 hl (by decide) rfl (fun ls hl => ?_)
      refine lv_iconst (v := 3) F.1 F.2.1 dL_add_23 (by decide) ?_
      exact r_iret F w1 hr1 dL_add_24
  · intro hn H locs w
    replace hf0 := hf0 hn
    refine lv_i2l (v := Int32.toInt64 r1) F.1 F.2.1 dL_add_8 rfl ?_
    refine r_last F w (k := 87) (a := 5) (n := 1) (by decide) (fun _ => rfl) rfl (by decide) dL_add_9 (fun H locs w => ?_)
    refine lv_goto (tgt := 25) F.1 F.2.1 dL_add_10 (by decide) ?_
    refine lv_iconst (v := 0) F.1 F.2.1 dL_add_25 (by decide) ?_
    exact r_iret F w (oi_s hf0) dL_add_26
set_option maxHeartbeats 4000000 in
set_option maxRecDepth 100000 in
theorem k_L_add (l : Launch) (x : CX) (S : ST) (a1 : Int32) (a2 : Int32) {res : Int32 × ST} (hf : f_L_add S a1 a2 = some res) (hls : l.stackTraces = false) (sz : Nat) : Met l yL_add (Cond.codeWith yL_add cL_add 5 (some .int) [(0, 10, 13, 13), (0, 10, 17, 15), (0, 10, 21, 17)] :: GW) ({ frames := 8, cells := 4, slots := 24, locals := 174 } : Room) (PC x S sz [.ref (x.2.2 79), .int a1, .int a2, .ref (x.2.2 87)]) (QI x res.2 res.1 sz) 4 24 (AA x sz) := by
  refine va_MetW (hh := [(0, 10, 13, 13), (0, 10, 17, 15), (0, 10, 21, 17)]) (cc := cL_add) (maxL := 5) (ret := some .int) (by decide) rfl ?_
  intro p e s m args below meth c s₁ B hml hv
  obtain ⟨rfl, rfl, hPW⟩ := hv
  have F : MF p m meth c cL_add 5 s _ RL (some .int) := MF.of B hml
  have htab : c.exceptionTable.toList = tableOf [(0, 10, 13, 13), (0, 10, 17, 15), (0, 10, 21, 17)] := vx_table (x := yL_add) B (atoms_spec (ws := Cond.codeWith yL_add cL_add 5 (some .int) [(0, 10, 13, 13), (0, 10, 17, 15), (0, 10, 21, 17)] :: GW) B.pre _ List.mem_cons_self)
  have w := WD.of hPW
  have hl := lv_entry ([.ref (x.2.2 79), .int a1, .int a2, .ref (x.2.2 87)]) (n := 5) (Nat.le_of_ble_eq_true rfl)
  rw [lg_entry_eq]
  generalize (lg_sl ([.ref (x.2.2 79), .int a1, .int a2, .ref (x.2.2 87)]) ++ List.replicate (5 - (lg_sl ([.ref (x.2.2 79), .int a1, .int a2, .ref (x.2.2 87)])).length) Slot.unset).toArray = ls at hl ⊢
  have hl : lv_has ls 5 [(0, .ref (x.2.2 79)), (1, .int a1), (2, .int a2), (3, .ref (x.2.2 87))] := hl
  exact b_L_add F htab hls _ _ _ _ w a1 a2 hl hf
def f_L_remove (S : ST) (a1 : Int32) (a2 : Int32) : Option (Int32 × ST) := oY (f_X8_remove S a1 a2) [(1, 1), (3, 2)] (fun r S1 => some (0, sB S1 5 (vp_updL (al S1 5) (Int32.toNatClampNeg 0) (Int32.toInt64 r))))
set_option maxHeartbeats 4000000 in
set_option maxRecDepth 100000 in
theorem b_L_remove {p : Program} {l : Launch} {e : Env} {s : State} {m : MethodId} {args : Array Value} {below : List Frame} {meth : Method} {c : Code} {x : CX} {res : Int32 × ST} (F : MF p m meth c cL_remove 5 s args RL (some .int)) (htab : c.exceptionTable.toList = tableOf [(0, 10, 13, 13), (0, 10, 17, 17)]) (hls : l.stackTraces = false) (H : Heap) (locs : List Loc) (ls : Array Slot) (S : ST) (w : WD x s S H locs) (a1 : Int32) (a2 : Int32) (hl : lv_has ls 5 [(0, .ref (x.2.2 79)), (1, .int a1), (2, .int a2), (3, .ref (x.2.2 87))]) (hf : f_L_remove S a1 a2 = some res) : W p l e ({ frames := 8, cells := 2, slots := 12, locals := 173 } : Room) s m args below meth c H locs 0 0 (MQ below (QI x res.2 res.1 s.heap.size) args s 2 12 (AA x s.heap.size)) (F0 m 0 ls []) := by
  unfold f_L_remove at hf
  obtain ⟨n1, r1, S1, hc, hf0, hx⟩ := oi_y hf
  refine lv_aload_n F.1 F.2.1 dL_remove_0 rfl (lv_at hl 3 rfl) ?_
  refine lv_iconst (v := 0) F.1 F.2.1 dL_remove_1 (by decide) ?_
  refine lv_aload_n F.1 F.2.1 dL_remove_2 rfl (lv_at hl 0 rfl) ?_
  refine lv_iload_n F.1 F.2.1 dL_remove_3 rfl (lv_at hl 1 rfl) ?_
  refine lv_iload_n F.1 F.2.1 dL_remove_4 rfl (lv_at hl 2 rfl) ?_
  refine ky_i (S1 := S1) (n1 := n1) (r := r1) w (xrunV (As := [.int a1, .int a2]) (rest := [.int 0, .ref (x.2.2 87)]) (kb := 79) F w (k_X8_remove l x S a1 a2 hc hls H.size) cy_X8_remove q488 q489 q490 ⟨rfl, rfl⟩ ⟨Nat.le_of_ble_eq_true rfl, Nat.le_of_ble_eq_true rfl⟩ (by decide) rfl rfl rfl rfl hl.1 (Nat.le_of_ble_eq_true rfl) ⟨Nat.le_of_ble_eq_true rfl, Nat.le_of_ble_eq_true rfl⟩ dL_remove_5) ?_ ?_
  · intro E ce q9 H1 locs1 hE w1 hce hv hcl
    obtain ⟨c1, hc1, hr1⟩ := hx (xk_ne hE)
    simp only [XK, List.mem_cons, List.not_mem_nil, or_false] at hE
    rcases hE with hE | hE | hE
    · cases hE
      have h9 : some (1 : Int32) = some c1 := hc1
      cases h9
      refine x_catch F w1 [] 0 10 13 13 [(0, 10, 17, 17)] htab (fun z hz => absurd hz List.not_mem_nil) (by decide) (by decide) q335 (by simp [XE]) hce hv hcl ?_
      refine lv_astore (lv' := [(4, .ref q9), (0, .ref (x.2.2 79)), (1, .int a1), (2, .int a2), (3, .ref (x.2.2 87))]) F.1 F.2.1 dL_remove_13 hl (by decide) rfl (fun ls hl => ?_)
      refine lv_iconst (v := 1) F.1 F.2.1 dL_remove_15 (by decide) ?_
      exact r_iret F w1 hr1 dL_remove_16
    · cases hE
      have h9 : (none : Option Int32) = some c1 := hc1
      cases h9
    · cases hE
      have h9 : some (2 : Int32) = some c1 := hc1
      cases h9
      refine x_catch F w1 [(0, 10, 13, 13)] 0 10 17 17 [] htab (fun z hz => by
        simp only [List.mem_cons, List.not_mem_nil, or_false] at hz
        rcases hz with rfl
        · exact ⟨by decide, eIO, q335, by simp [XP]⟩) (by decide) (by decide) q337 (by simp [XE]) hce hv hcl ?_
      refine lv_astore (lv' := [(4, .ref q9), (0, .ref (x.2.2 79)), (1, .int a1), (2, .int a2), (3, .ref (x.2.2 87))]) F.1 F.2.1 dL_remove_17 hl (by decide) rfl (fun ls hl => ?_)
      refine lv_iconst (v := 2) F.1 F.2.1 dL_remove_19 (by decide) ?_
      exact r_iret F w1 hr1 dL_remove_20
  · intro hn H locs w
    replace hf0 := hf0 hn
    refine lv_i2l (v := Int32.toInt64 r1) F.1 F.2.1 dL_remove_8 rfl ?_
    refine r_last F w (k := 87) (a := 5) (n := 1) (by decide) (fun _ => rfl) rfl (by decide) dL_remove_9 (fun H locs w => ?_)
    refine lv_goto (tgt := 21) F.1 F.2.1 dL_remove_10 (by decide) ?_
    refine lv_iconst (v := 0) F.1 F.2.1 dL_remove_21 (by decide) ?_
    exact r_iret F w (oi_s hf0) dL_remove_22
set_option maxHeartbeats 4000000 in
set_option maxRecDepth 100000 in
theorem k_L_remove (l : Launch) (x : CX) (S : ST) (a1 : Int32) (a2 : Int32) {res : Int32 × ST} (hf : f_L_remove S a1 a2 = some res) (hls : l.stackTraces = false) (sz : Nat) : Met l yL_remove (Cond.codeWith yL_remove cL_remove 5 (some .int) [(0, 10, 13, 13), (0, 10, 17, 17)] :: GW) ({ frames := 8, cells := 2, slots := 12, locals := 173 } : Room) (PC x S sz [.ref (x.2.2 79), .int a1, .int a2, .ref (x.2.2 87)]) (QI x res.2 res.1 sz) 2 12 (AA x sz) := by
  refine va_MetW (hh := [(0, 10, 13, 13), (0, 10, 17, 17)]) (cc := cL_remove) (maxL := 5) (ret := some .int) (by decide) rfl ?_
  intro p e s m args below meth c s₁ B hml hv
  obtain ⟨rfl, rfl, hPW⟩ := hv
  have F : MF p m meth c cL_remove 5 s _ RL (some .int) := MF.of B hml
  have htab : c.exceptionTable.toList = tableOf [(0, 10, 13, 13), (0, 10, 17, 17)] := vx_table (x := yL_remove) B (atoms_spec (ws := Cond.codeWith yL_remove cL_remove 5 (some .int) [(0, 10, 13, 13), (0, 10, 17, 17)] :: GW) B.pre _ List.mem_cons_self)
  have w := WD.of hPW
  have hl := lv_entry ([.ref (x.2.2 79), .int a1, .int a2, .ref (x.2.2 87)]) (n := 5) (Nat.le_of_ble_eq_true rfl)
  rw [lg_entry_eq]
  generalize (lg_sl ([.ref (x.2.2 79), .int a1, .int a2, .ref (x.2.2 87)]) ++ List.replicate (5 - (lg_sl ([.ref (x.2.2 79), .int a1, .int a2, .ref (x.2.2 87)])).length) Slot.unset).toArray = ls at hl ⊢
  have hl : lv_has ls 5 [(0, .ref (x.2.2 79)), (1, .int a1), (2, .int a2), (3, .ref (x.2.2 87))] := hl
  exact b_L_remove F htab hls _ _ _ _ w a1 a2 hl hf
def f_L_clear (S : ST) (a1 : Int32) : Option (Int32 × ST) := oY (f_X8_clear S a1) [(1, 1)] (fun r S1 => some (0, sB S1 5 (vp_updL (al S1 5) (Int32.toNatClampNeg 0) (Int32.toInt64 r))))
set_option maxHeartbeats 4000000 in
set_option maxRecDepth 100000 in
theorem b_L_clear {p : Program} {l : Launch} {e : Env} {s : State} {m : MethodId} {args : Array Value} {below : List Frame} {meth : Method} {c : Code} {x : CX} {res : Int32 × ST} (F : MF p m meth c cL_clear 4 s args RL (some .int)) (htab : c.exceptionTable.toList = tableOf [(0, 9, 12, 13)]) (hls : l.stackTraces = false) (H : Heap) (locs : List Loc) (ls : Array Slot) (S : ST) (w : WD x s S H locs) (a1 : Int32) (hl : lv_has ls 4 [(0, .ref (x.2.2 79)), (1, .int a1), (2, .ref (x.2.2 87))]) (hf : f_L_clear S a1 = some res) : W p l e ({ frames := 8, cells := 1, slots := 6, locals := 172 } : Room) s m args below meth c H locs 0 0 (MQ below (QI x res.2 res.1 s.heap.size) args s 1 6 (AA x s.heap.size)) (F0 m 0 ls []) := by
  unfold f_L_clear at hf
  obtain ⟨n1, r1, S1, hc, hf0, hx⟩ := oi_y hf
  refine lv_aload_n F.1 F.2.1 dL_clear_0 rfl (lv_at hl 2 rfl) ?_
  refine lv_iconst (v := 0) F.1 F.2.1 dL_clear_1 (by decide) ?_
  refine lv_aload_n F.1 F.2.1 dL_clear_2 rfl (lv_at hl 0 rfl) ?_
  refine lv_iload_n F.1 F.2.1 dL_clear_3 rfl (lv_at hl 1 rfl) ?_
  refine ky_i (S1 := S1) (n1 := n1) (r := r1) w (xrunV (As := [.int a1]) (rest := [.int 0, .ref (x.2.2 87)]) (kb := 79) F w (k_X8_clear l x S a1 hc hls H.size) cy_X8_clear q500 q501 q502 ⟨rfl, rfl⟩ ⟨Nat.le_of_ble_eq_true rfl, Nat.le_of_ble_eq_true rfl⟩ (by decide) rfl rfl rfl rfl hl.1 (Nat.le_of_ble_eq_true rfl) ⟨Nat.le_of_ble_eq_true rfl, Nat.le_of_ble_eq_true rfl⟩ dL_clear_4) ?_ ?_
  · intro E ce q9 H1 locs1 hE w1 hce hv hcl
    obtain ⟨c1, hc1, hr1⟩ := hx (xk_ne hE)
    simp only [XK, List.mem_cons, List.not_mem_nil, or_false] at hE
    rcases hE with hE | hE | hE
    · cases hE
      have h9 : some (1 : Int32) = some c1 := hc1
      cases h9
      refine x_catch F w1 [] 0 9 12 13 [] htab (fun z hz => absurd hz List.not_mem_nil) (by decide) (by decide) q335 (by simp [XE]) hce hv hcl ?_
      refine lv_astore_n (lv' := [(3, .ref q9), (0, .ref (x.2.2 79)), (1, .int a1), (2, .ref (x.2.2 87))]) F.1 F.2.1 dL_clear_12 rfl hl (by decide) rfl (fun ls hl => ?_)
      refine lv_iconst (v := 1) F.1 F.2.1 dL_clear_13 (by decide) ?_
      exact r_iret F w1 hr1 dL_clear_14
    · cases hE
      have h9 : (none : Option Int32) = some c1 := hc1
      cases h9
    · cases hE
      have h9 : (none : Option Int32) = some c1 := hc1
      cases h9
  · intro hn H locs w
    replace hf0 := hf0 hn
    refine lv_i2l (v := Int32.toInt64 r1) F.1 F.2.1 dL_clear_7 rfl ?_
    refine r_last F w (k := 87) (a := 5) (n := 1) (by decide) (fun _ => rfl) rfl (by decide) dL_clear_8 (fun H locs w => ?_)
    refine lv_goto (tgt := 15) F.1 F.2.1 dL_clear_9 (by decide) ?_
    refine lv_iconst (v := 0) F.1 F.2.1 dL_clear_15 (by decide) ?_
    exact r_iret F w (oi_s hf0) dL_clear_16
set_option maxHeartbeats 4000000 in
set_option maxRecDepth 100000 in
theorem k_L_clear (l : Launch) (x : CX) (S : ST) (a1 : Int32) {res : Int32 × ST} (hf : f_L_clear S a1 = some res) (hls : l.stackTraces = false) (sz : Nat) : Met l yL_clear (Cond.codeWith yL_clear cL_clear 4 (some .int) [(0, 9, 12, 13)] :: GW) ({ frames := 8, cells := 1, slots := 6, locals := 172 } : Room) (PC x S sz [.ref (x.2.2 79), .int a1, .ref (x.2.2 87)]) (QI x res.2 res.1 sz) 1 6 (AA x sz) := by
  refine va_MetW (hh := [(0, 9, 12, 13)]) (cc := cL_clear) (maxL := 4) (ret := some .int) (by decide) rfl ?_
  intro p e s m args below meth c s₁ B hml hv
  obtain ⟨rfl, rfl, hPW⟩ := hv
  have F : MF p m meth c cL_clear 4 s _ RL (some .int) := MF.of B hml
  have htab : c.exceptionTable.toList = tableOf [(0, 9, 12, 13)] := vx_table (x := yL_clear) B (atoms_spec (ws := Cond.codeWith yL_clear cL_clear 4 (some .int) [(0, 9, 12, 13)] :: GW) B.pre _ List.mem_cons_self)
  have w := WD.of hPW
  have hl := lv_entry ([.ref (x.2.2 79), .int a1, .ref (x.2.2 87)]) (n := 4) (Nat.le_of_ble_eq_true rfl)
  rw [lg_entry_eq]
  generalize (lg_sl ([.ref (x.2.2 79), .int a1, .ref (x.2.2 87)]) ++ List.replicate (4 - (lg_sl ([.ref (x.2.2 79), .int a1, .ref (x.2.2 87)])).length) Slot.unset).toArray = ls at hl ⊢
  have hl : lv_has ls 4 [(0, .ref (x.2.2 79)), (1, .int a1), (2, .ref (x.2.2 87))] := hl
  exact b_L_clear F htab hls _ _ _ _ w a1 hl hf
def f_L_copy (S : ST) (a1 : Int32) (a2 : Int32) : Option (Int32 × ST) := oY (f_X8_copy S a1 a2) [(1, 1)] (fun r S1 => some (0, sB S1 5 (vp_updL (al S1 5) (Int32.toNatClampNeg 0) (Int32.toInt64 r))))
set_option maxHeartbeats 4000000 in
set_option maxRecDepth 100000 in
theorem b_L_copy {p : Program} {l : Launch} {e : Env} {s : State} {m : MethodId} {args : Array Value} {below : List Frame} {meth : Method} {c : Code} {x : CX} {res : Int32 × ST} (F : MF p m meth c cL_copy 5 s args RL (some .int)) (htab : c.exceptionTable.toList = tableOf [(0, 10, 13, 13)]) (hls : l.stackTraces = false) (H : Heap) (locs : List Loc) (ls : Array Slot) (S : ST) (w : WD x s S H locs) (a1 : Int32) (a2 : Int32) (hl : lv_has ls 5 [(0, .ref (x.2.2 79)), (1, .int a1), (2, .int a2), (3, .ref (x.2.2 87))]) (hf : f_L_copy S a1 a2 = some res) : W p l e ({ frames := 8, cells := 2, slots := 12, locals := 172 } : Room) s m args below meth c H locs 0 0 (MQ below (QI x res.2 res.1 s.heap.size) args s 2 12 (AA x s.heap.size)) (F0 m 0 ls []) := by
  unfold f_L_copy at hf
  obtain ⟨n1, r1, S1, hc, hf0, hx⟩ := oi_y hf
  refine lv_aload_n F.1 F.2.1 dL_copy_0 rfl (lv_at hl 3 rfl) ?_
  refine lv_iconst (v := 0) F.1 F.2.1 dL_copy_1 (by decide) ?_
  refine lv_aload_n F.1 F.2.1 dL_copy_2 rfl (lv_at hl 0 rfl) ?_
  refine lv_iload_n F.1 F.2.1 dL_copy_3 rfl (lv_at hl 1 rfl) ?_
  refine lv_iload_n F.1 F.2.1 dL_copy_4 rfl (lv_at hl 2 rfl) ?_
  refine ky_i (S1 := S1) (n1 := n1) (r := r1) w (xrunV (As := [.int a1, .int a2]) (rest := [.int 0, .ref (x.2.2 87)]) (kb := 79) F w (k_X8_copy l x S a1 a2 hc hls H.size) cy_X8_copy q508 q509 q510 ⟨rfl, rfl⟩ ⟨Nat.le_of_ble_eq_true rfl, Nat.le_of_ble_eq_true rfl⟩ (by decide) rfl rfl rfl rfl hl.1 (Nat.le_of_ble_eq_true rfl) ⟨Nat.le_of_ble_eq_true rfl, Nat.le_of_ble_eq_true rfl⟩ dL_copy_5) ?_ ?_
  · intro E ce q9 H1 locs1 hE w1 hce hv hcl
    obtain ⟨c1, hc1, hr1⟩ := hx (xk_ne hE)
    simp only [XK, List.mem_cons, List.not_mem_nil, or_false] at hE
    rcases hE with hE | hE | hE
    · cases hE
      have h9 : some (1 : Int32) = some c1 := hc1
      cases h9
      refine x_catch F w1 [] 0 10 13 13 [] htab (fun z hz => absurd hz List.not_mem_nil) (by decide) (by decide) q335 (by simp [XE]) hce hv hcl ?_
      refine lv_astore (lv' := [(4, .ref q9), (0, .ref (x.2.2 79)), (1, .int a1), (2, .int a2), (3, .ref (x.2.2 87))]) F.1 F.2.1 dL_copy_13 hl (by decide) rfl (fun ls hl => ?_)
      refine lv_iconst (v := 1) F.1 F.2.1 dL_copy_15 (by decide) ?_
      exact r_iret F w1 hr1 dL_copy_16
    · cases hE
      have h9 : (none : Option Int32) = some c1 := hc1
      cases h9
    · cases hE
      have h9 : (none : Option Int32) = some c1 := hc1
      cases h9
  · intro hn H locs w
    replace hf0 := hf0 hn
    refine lv_i2l (v := Int32.toInt64 r1) F.1 F.2.1 dL_copy_8 rfl ?_
    refine r_last F w (k := 87) (a := 5) (n := 1) (by decide) (fun _ => rfl) rfl (by decide) dL_copy_9 (fun H locs w => ?_)
    refine lv_goto (tgt := 17) F.1 F.2.1 dL_copy_10 (by decide) ?_
    refine lv_iconst (v := 0) F.1 F.2.1 dL_copy_17 (by decide) ?_
    exact r_iret F w (oi_s hf0) dL_copy_18
set_option maxHeartbeats 4000000 in
set_option maxRecDepth 100000 in
theorem k_L_copy (l : Launch) (x : CX) (S : ST) (a1 : Int32) (a2 : Int32) {res : Int32 × ST} (hf : f_L_copy S a1 a2 = some res) (hls : l.stackTraces = false) (sz : Nat) : Met l yL_copy (Cond.codeWith yL_copy cL_copy 5 (some .int) [(0, 10, 13, 13)] :: GW) ({ frames := 8, cells := 2, slots := 12, locals := 172 } : Room) (PC x S sz [.ref (x.2.2 79), .int a1, .int a2, .ref (x.2.2 87)]) (QI x res.2 res.1 sz) 2 12 (AA x sz) := by
  refine va_MetW (hh := [(0, 10, 13, 13)]) (cc := cL_copy) (maxL := 5) (ret := some .int) (by decide) rfl ?_
  intro p e s m args below meth c s₁ B hml hv
  obtain ⟨rfl, rfl, hPW⟩ := hv
  have F : MF p m meth c cL_copy 5 s _ RL (some .int) := MF.of B hml
  have htab : c.exceptionTable.toList = tableOf [(0, 10, 13, 13)] := vx_table (x := yL_copy) B (atoms_spec (ws := Cond.codeWith yL_copy cL_copy 5 (some .int) [(0, 10, 13, 13)] :: GW) B.pre _ List.mem_cons_self)
  have w := WD.of hPW
  have hl := lv_entry ([.ref (x.2.2 79), .int a1, .int a2, .ref (x.2.2 87)]) (n := 5) (Nat.le_of_ble_eq_true rfl)
  rw [lg_entry_eq]
  generalize (lg_sl ([.ref (x.2.2 79), .int a1, .int a2, .ref (x.2.2 87)]) ++ List.replicate (5 - (lg_sl ([.ref (x.2.2 79), .int a1, .int a2, .ref (x.2.2 87)])).length) Slot.unset).toArray = ls at hl ⊢
  have hl : lv_has ls 5 [(0, .ref (x.2.2 79)), (1, .int a1), (2, .int a2), (3, .ref (x.2.2 87))] := hl
  exact b_L_copy F htab hls _ _ _ _ w a1 a2 hl hf
def f_L_size (S : ST) (a1 : Int32) : Option (Int32 × ST) := oY (f_X8_size S a1) [(1, 1)] (fun r S1 => some (0, sB S1 5 (vp_updL (al S1 5) (Int32.toNatClampNeg 0) (Int32.toInt64 r))))
set_option maxHeartbeats 4000000 in
set_option maxRecDepth 100000 in
theorem b_L_size {p : Program} {l : Launch} {e : Env} {s : State} {m : MethodId} {args : Array Value} {below : List Frame} {meth : Method} {c : Code} {x : CX} {res : Int32 × ST} (F : MF p m meth c cL_size 4 s args RL (some .int)) (htab : c.exceptionTable.toList = tableOf [(0, 9, 12, 13)]) (hls : l.stackTraces = false) (H : Heap) (locs : List Loc) (ls : Array Slot) (S : ST) (w : WD x s S H locs) (a1 : Int32) (hl : lv_has ls 4 [(0, .ref (x.2.2 79)), (1, .int a1), (2, .ref (x.2.2 87))]) (hf : f_L_size S a1 = some res) : W p l e ({ frames := 8, cells := 1, slots := 6, locals := 141 } : Room) s m args below meth c H locs 0 0 (MQ below (QI x res.2 res.1 s.heap.size) args s 1 6 (AA x s.heap.size)) (F0 m 0 ls []) := by
  unfold f_L_size at hf
  obtain ⟨n1, r1, S1, hc, hf0, hx⟩ := oi_y hf
  refine lv_aload_n F.1 F.2.1 dL_size_0 rfl (lv_at hl 2 rfl) ?_
  refine lv_iconst (v := 0) F.1 F.2.1 dL_size_1 (by decide) ?_
  refine lv_aload_n F.1 F.2.1 dL_size_2 rfl (lv_at hl 0 rfl) ?_
  refine lv_iload_n F.1 F.2.1 dL_size_3 rfl (lv_at hl 1 rfl) ?_
  refine ky_i (S1 := S1) (n1 := n1) (r := r1) w (xrunV (As := [.int a1]) (rest := [.int 0, .ref (x.2.2 87)]) (kb := 79) F w (k_X8_size l x S a1 hc hls H.size) cy_X8_size q515 q516 q517 ⟨rfl, rfl⟩ ⟨Nat.le_of_ble_eq_true rfl, Nat.le_of_ble_eq_true rfl⟩ (by decide) rfl rfl rfl rfl hl.1 (Nat.le_of_ble_eq_true rfl) ⟨Nat.le_of_ble_eq_true rfl, Nat.le_of_ble_eq_true rfl⟩ dL_size_4) ?_ ?_
  · intro E ce q9 H1 locs1 hE w1 hce hv hcl
    obtain ⟨c1, hc1, hr1⟩ := hx (xk_ne hE)
    simp only [XK, List.mem_cons, List.not_mem_nil, or_false] at hE
    rcases hE with hE | hE | hE
    · cases hE
      have h9 : some (1 : Int32) = some c1 := hc1
      cases h9
      refine x_catch F w1 [] 0 9 12 13 [] htab (fun z hz => absurd hz List.not_mem_nil) (by decide) (by decide) q335 (by simp [XE]) hce hv hcl ?_
      refine lv_astore_n (lv' := [(3, .ref q9), (0, .ref (x.2.2 79)), (1, .int a1), (2, .ref (x.2.2 87))]) F.1 F.2.1 dL_size_12 rfl hl (by decide) rfl (fun ls hl => ?_)
      refine lv_iconst (v := 1) F.1 F.2.1 dL_size_13 (by decide) ?_
      exact r_iret F w1 hr1 dL_size_14
    · cases hE
      have h9 : (none : Option Int32) = some c1 := hc1
      cases h9
    · cases hE
      have h9 : (none : Option Int32) = some c1 := hc1
      cases h9
  · intro hn H locs w
    replace hf0 := hf0 hn
    refine lv_i2l (v := Int32.toInt64 r1) F.1 F.2.1 dL_size_7 rfl ?_
    refine r_last F w (k := 87) (a := 5) (n := 1) (by decide) (fun _ => rfl) rfl (by decide) dL_size_8 (fun H locs w => ?_)
    refine lv_goto (tgt := 15) F.1 F.2.1 dL_size_9 (by decide) ?_
    refine lv_iconst (v := 0) F.1 F.2.1 dL_size_15 (by decide) ?_
    exact r_iret F w (oi_s hf0) dL_size_16
set_option maxHeartbeats 4000000 in
set_option maxRecDepth 100000 in
theorem k_L_size (l : Launch) (x : CX) (S : ST) (a1 : Int32) {res : Int32 × ST} (hf : f_L_size S a1 = some res) (hls : l.stackTraces = false) (sz : Nat) : Met l yL_size (Cond.codeWith yL_size cL_size 4 (some .int) [(0, 9, 12, 13)] :: GW) ({ frames := 8, cells := 1, slots := 6, locals := 141 } : Room) (PC x S sz [.ref (x.2.2 79), .int a1, .ref (x.2.2 87)]) (QI x res.2 res.1 sz) 1 6 (AA x sz) := by
  refine va_MetW (hh := [(0, 9, 12, 13)]) (cc := cL_size) (maxL := 4) (ret := some .int) (by decide) rfl ?_
  intro p e s m args below meth c s₁ B hml hv
  obtain ⟨rfl, rfl, hPW⟩ := hv
  have F : MF p m meth c cL_size 4 s _ RL (some .int) := MF.of B hml
  have htab : c.exceptionTable.toList = tableOf [(0, 9, 12, 13)] := vx_table (x := yL_size) B (atoms_spec (ws := Cond.codeWith yL_size cL_size 4 (some .int) [(0, 9, 12, 13)] :: GW) B.pre _ List.mem_cons_self)
  have w := WD.of hPW
  have hl := lv_entry ([.ref (x.2.2 79), .int a1, .ref (x.2.2 87)]) (n := 4) (Nat.le_of_ble_eq_true rfl)
  rw [lg_entry_eq]
  generalize (lg_sl ([.ref (x.2.2 79), .int a1, .ref (x.2.2 87)]) ++ List.replicate (4 - (lg_sl ([.ref (x.2.2 79), .int a1, .ref (x.2.2 87)])).length) Slot.unset).toArray = ls at hl ⊢
  have hl : lv_has ls 4 [(0, .ref (x.2.2 79)), (1, .int a1), (2, .ref (x.2.2 87))] := hl
  exact b_L_size F htab hls _ _ _ _ w a1 hl hf
def f_L_mark (S : ST) (a1 : Int32) (a2 : Int32) : Option (Int32 × ST) := oY (f_X8_mark S a1 a2) [(1, 1)] (fun r S1 => some (0, sB S1 5 (vp_updL (al S1 5) (Int32.toNatClampNeg 0) (Int32.toInt64 r))))
set_option maxHeartbeats 4000000 in
set_option maxRecDepth 100000 in
theorem b_L_mark {p : Program} {l : Launch} {e : Env} {s : State} {m : MethodId} {args : Array Value} {below : List Frame} {meth : Method} {c : Code} {x : CX} {res : Int32 × ST} (F : MF p m meth c cL_mark 5 s args RL (some .int)) (htab : c.exceptionTable.toList = tableOf [(0, 10, 13, 13)]) (hls : l.stackTraces = false) (H : Heap) (locs : List Loc) (ls : Array Slot) (S : ST) (w : WD x s S H locs) (a1 : Int32) (a2 : Int32) (hl : lv_has ls 5 [(0, .ref (x.2.2 79)), (1, .int a1), (2, .int a2), (3, .ref (x.2.2 87))]) (hf : f_L_mark S a1 a2 = some res) : W p l e ({ frames := 8, cells := 2, slots := 12, locals := 142 } : Room) s m args below meth c H locs 0 0 (MQ below (QI x res.2 res.1 s.heap.size) args s 2 12 (AA x s.heap.size)) (F0 m 0 ls []) := by
  unfold f_L_mark at hf
  obtain ⟨n1, r1, S1, hc, hf0, hx⟩ := oi_y hf
  refine lv_aload_n F.1 F.2.1 dL_mark_0 rfl (lv_at hl 3 rfl) ?_
  refine lv_iconst (v := 0) F.1 F.2.1 dL_mark_1 (by decide) ?_
  refine lv_aload_n F.1 F.2.1 dL_mark_2 rfl (lv_at hl 0 rfl) ?_
  refine lv_iload_n F.1 F.2.1 dL_mark_3 rfl (lv_at hl 1 rfl) ?_
  refine lv_iload_n F.1 F.2.1 dL_mark_4 rfl (lv_at hl 2 rfl) ?_
  refine ky_i (S1 := S1) (n1 := n1) (r := r1) w (xrunV (As := [.int a1, .int a2]) (rest := [.int 0, .ref (x.2.2 87)]) (kb := 79) F w (k_X8_mark l x S a1 a2 hc hls H.size) cy_X8_mark q522 q523 q524 ⟨rfl, rfl⟩ ⟨Nat.le_of_ble_eq_true rfl, Nat.le_of_ble_eq_true rfl⟩ (by decide) rfl rfl rfl rfl hl.1 (Nat.le_of_ble_eq_true rfl) ⟨Nat.le_of_ble_eq_true rfl, Nat.le_of_ble_eq_true rfl⟩ dL_mark_5) ?_ ?_
  · intro E ce q9 H1 locs1 hE w1 hce hv hcl
    obtain ⟨c1, hc1, hr1⟩ := hx (xk_ne hE)
    simp only [XK, List.mem_cons, List.not_mem_nil, or_false] at hE
    rcases hE with hE | hE | hE
    · cases hE
      have h9 : some (1 : Int32) = some c1 := hc1
      cases h9
      refine x_catch F w1 [] 0 10 13 13 [] htab (fun z hz => absurd hz List.not_mem_nil) (by decide) (by decide) q335 (by simp [XE]) hce hv hcl ?_
      refine lv_astore (lv' := [(4, .ref q9), (0, .ref (x.2.2 79)), (1, .int a1), (2, .int a2), (3, .ref (x.2.2 87))]) F.1 F.2.1 dL_mark_13 hl (by decide) rfl (fun ls hl => ?_)
      refine lv_iconst (v := 1) F.1 F.2.1 dL_mark_15 (by decide) ?_
      exact r_iret F w1 hr1 dL_mark_16
    · cases hE
      have h9 : (none : Option Int32) = some c1 := hc1
      cases h9
    · cases hE
      have h9 : (none : Option Int32) = some c1 := hc1
      cases h9
  · intro hn H locs w
    replace hf0 := hf0 hn
    refine lv_i2l (v := Int32.toInt64 r1) F.1 F.2.1 dL_mark_8 rfl ?_
    refine r_last F w (k := 87) (a := 5) (n := 1) (by decide) (fun _ => rfl) rfl (by decide) dL_mark_9 (fun H locs w => ?_)
    refine lv_goto (tgt := 17) F.1 F.2.1 dL_mark_10 (by decide) ?_
    refine lv_iconst (v := 0) F.1 F.2.1 dL_mark_17 (by decide) ?_
    exact r_iret F w (oi_s hf0) dL_mark_18
set_option maxHeartbeats 4000000 in
set_option maxRecDepth 100000 in
theorem k_L_mark (l : Launch) (x : CX) (S : ST) (a1 : Int32) (a2 : Int32) {res : Int32 × ST} (hf : f_L_mark S a1 a2 = some res) (hls : l.stackTraces = false) (sz : Nat) : Met l yL_mark (Cond.codeWith yL_mark cL_mark 5 (some .int) [(0, 10, 13, 13)] :: GW) ({ frames := 8, cells := 2, slots := 12, locals := 142 } : Room) (PC x S sz [.ref (x.2.2 79), .int a1, .int a2, .ref (x.2.2 87)]) (QI x res.2 res.1 sz) 2 12 (AA x sz) := by
  refine va_MetW (hh := [(0, 10, 13, 13)]) (cc := cL_mark) (maxL := 5) (ret := some .int) (by decide) rfl ?_
  intro p e s m args below meth c s₁ B hml hv
  obtain ⟨rfl, rfl, hPW⟩ := hv
  have F : MF p m meth c cL_mark 5 s _ RL (some .int) := MF.of B hml
  have htab : c.exceptionTable.toList = tableOf [(0, 10, 13, 13)] := vx_table (x := yL_mark) B (atoms_spec (ws := Cond.codeWith yL_mark cL_mark 5 (some .int) [(0, 10, 13, 13)] :: GW) B.pre _ List.mem_cons_self)
  have w := WD.of hPW
  have hl := lv_entry ([.ref (x.2.2 79), .int a1, .int a2, .ref (x.2.2 87)]) (n := 5) (Nat.le_of_ble_eq_true rfl)
  rw [lg_entry_eq]
  generalize (lg_sl ([.ref (x.2.2 79), .int a1, .int a2, .ref (x.2.2 87)]) ++ List.replicate (5 - (lg_sl ([.ref (x.2.2 79), .int a1, .int a2, .ref (x.2.2 87)])).length) Slot.unset).toArray = ls at hl ⊢
  have hl : lv_has ls 5 [(0, .ref (x.2.2 79)), (1, .int a1), (2, .int a2), (3, .ref (x.2.2 87))] := hl
  exact b_L_mark F htab hls _ _ _ _ w a1 a2 hl hf
def f_L_length (S : ST) (a1 : Int32) : Option (Int32 × ST) := oY (f_X8_length S a1) [(1, 1)] (fun r S1 => some (0, sB S1 5 (vp_updL (al S1 5) (Int32.toNatClampNeg 0) (Int32.toInt64 r))))
set_option maxHeartbeats 4000000 in
set_option maxRecDepth 100000 in
theorem b_L_length {p : Program} {l : Launch} {e : Env} {s : State} {m : MethodId} {args : Array Value} {below : List Frame} {meth : Method} {c : Code} {x : CX} {res : Int32 × ST} (F : MF p m meth c cL_length 4 s args RL (some .int)) (htab : c.exceptionTable.toList = tableOf [(0, 9, 12, 13)]) (hls : l.stackTraces = false) (H : Heap) (locs : List Loc) (ls : Array Slot) (S : ST) (w : WD x s S H locs) (a1 : Int32) (hl : lv_has ls 4 [(0, .ref (x.2.2 79)), (1, .int a1), (2, .ref (x.2.2 87))]) (hf : f_L_length S a1 = some res) : W p l e ({ frames := 8, cells := 1, slots := 6, locals := 141 } : Room) s m args below meth c H locs 0 0 (MQ below (QI x res.2 res.1 s.heap.size) args s 1 6 (AA x s.heap.size)) (F0 m 0 ls []) := by
  unfold f_L_length at hf
  obtain ⟨n1, r1, S1, hc, hf0, hx⟩ := oi_y hf
  refine lv_aload_n F.1 F.2.1 dL_length_0 rfl (lv_at hl 2 rfl) ?_
  refine lv_iconst (v := 0) F.1 F.2.1 dL_length_1 (by decide) ?_
  refine lv_aload_n F.1 F.2.1 dL_length_2 rfl (lv_at hl 0 rfl) ?_
  refine lv_iload_n F.1 F.2.1 dL_length_3 rfl (lv_at hl 1 rfl) ?_
  refine ky_i (S1 := S1) (n1 := n1) (r := r1) w (xrunV (As := [.int a1]) (rest := [.int 0, .ref (x.2.2 87)]) (kb := 79) F w (k_X8_length l x S a1 hc hls H.size) cy_X8_length q530 q531 q532 ⟨rfl, rfl⟩ ⟨Nat.le_of_ble_eq_true rfl, Nat.le_of_ble_eq_true rfl⟩ (by decide) rfl rfl rfl rfl hl.1 (Nat.le_of_ble_eq_true rfl) ⟨Nat.le_of_ble_eq_true rfl, Nat.le_of_ble_eq_true rfl⟩ dL_length_4) ?_ ?_
  · intro E ce q9 H1 locs1 hE w1 hce hv hcl
    obtain ⟨c1, hc1, hr1⟩ := hx (xk_ne hE)
    simp only [XK, List.mem_cons, List.not_mem_nil, or_false] at hE
    rcases hE with hE | hE | hE
    · cases hE
      have h9 : some (1 : Int32) = some c1 := hc1
      cases h9
      refine x_catch F w1 [] 0 9 12 13 [] htab (fun z hz => absurd hz List.not_mem_nil) (by decide) (by decide) q335 (by simp [XE]) hce hv hcl ?_
      refine lv_astore_n (lv' := [(3, .ref q9), (0, .ref (x.2.2 79)), (1, .int a1), (2, .ref (x.2.2 87))]) F.1 F.2.1 dL_length_12 rfl hl (by decide) rfl (fun ls hl => ?_)
      refine lv_iconst (v := 1) F.1 F.2.1 dL_length_13 (by decide) ?_
      exact r_iret F w1 hr1 dL_length_14
    · cases hE
      have h9 : (none : Option Int32) = some c1 := hc1
      cases h9
    · cases hE
      have h9 : (none : Option Int32) = some c1 := hc1
      cases h9
  · intro hn H locs w
    replace hf0 := hf0 hn
    refine lv_i2l (v := Int32.toInt64 r1) F.1 F.2.1 dL_length_7 rfl ?_
    refine r_last F w (k := 87) (a := 5) (n := 1) (by decide) (fun _ => rfl) rfl (by decide) dL_length_8 (fun H locs w => ?_)
    refine lv_goto (tgt := 15) F.1 F.2.1 dL_length_9 (by decide) ?_
    refine lv_iconst (v := 0) F.1 F.2.1 dL_length_15 (by decide) ?_
    exact r_iret F w (oi_s hf0) dL_length_16
set_option maxHeartbeats 4000000 in
set_option maxRecDepth 100000 in
theorem k_L_length (l : Launch) (x : CX) (S : ST) (a1 : Int32) {res : Int32 × ST} (hf : f_L_length S a1 = some res) (hls : l.stackTraces = false) (sz : Nat) : Met l yL_length (Cond.codeWith yL_length cL_length 4 (some .int) [(0, 9, 12, 13)] :: GW) ({ frames := 8, cells := 1, slots := 6, locals := 141 } : Room) (PC x S sz [.ref (x.2.2 79), .int a1, .ref (x.2.2 87)]) (QI x res.2 res.1 sz) 1 6 (AA x sz) := by
  refine va_MetW (hh := [(0, 9, 12, 13)]) (cc := cL_length) (maxL := 4) (ret := some .int) (by decide) rfl ?_
  intro p e s m args below meth c s₁ B hml hv
  obtain ⟨rfl, rfl, hPW⟩ := hv
  have F : MF p m meth c cL_length 4 s _ RL (some .int) := MF.of B hml
  have htab : c.exceptionTable.toList = tableOf [(0, 9, 12, 13)] := vx_table (x := yL_length) B (atoms_spec (ws := Cond.codeWith yL_length cL_length 4 (some .int) [(0, 9, 12, 13)] :: GW) B.pre _ List.mem_cons_self)
  have w := WD.of hPW
  have hl := lv_entry ([.ref (x.2.2 79), .int a1, .ref (x.2.2 87)]) (n := 4) (Nat.le_of_ble_eq_true rfl)
  rw [lg_entry_eq]
  generalize (lg_sl ([.ref (x.2.2 79), .int a1, .ref (x.2.2 87)]) ++ List.replicate (4 - (lg_sl ([.ref (x.2.2 79), .int a1, .ref (x.2.2 87)])).length) Slot.unset).toArray = ls at hl ⊢
  have hl : lv_has ls 4 [(0, .ref (x.2.2 79)), (1, .int a1), (2, .ref (x.2.2 87))] := hl
  exact b_L_length F htab hls _ _ _ _ w a1 hl hf
def f_L_multiplicity (S : ST) (a1 : Int32) (a2 : Int32) : Option (Int32 × ST) := oY (f_X8_multiplicity S a1 a2) [(1, 1), (2, 2)] (fun r S1 => some (0, sB S1 5 (vp_updL (al S1 5) (Int32.toNatClampNeg 0) (Int32.toInt64 r))))
set_option maxHeartbeats 4000000 in
set_option maxRecDepth 100000 in
theorem b_L_multiplicity {p : Program} {l : Launch} {e : Env} {s : State} {m : MethodId} {args : Array Value} {below : List Frame} {meth : Method} {c : Code} {x : CX} {res : Int32 × ST} (F : MF p m meth c cL_multiplicity 5 s args RL (some .int)) (htab : c.exceptionTable.toList = tableOf [(0, 10, 13, 13), (0, 10, 17, 15)]) (hls : l.stackTraces = false) (H : Heap) (locs : List Loc) (ls : Array Slot) (S : ST) (w : WD x s S H locs) (a1 : Int32) (a2 : Int32) (hl : lv_has ls 5 [(0, .ref (x.2.2 79)), (1, .int a1), (2, .int a2), (3, .ref (x.2.2 87))]) (hf : f_L_multiplicity S a1 a2 = some res) : W p l e ({ frames := 8, cells := 2, slots := 12, locals := 142 } : Room) s m args below meth c H locs 0 0 (MQ below (QI x res.2 res.1 s.heap.size) args s 2 12 (AA x s.heap.size)) (F0 m 0 ls []) := by
  unfold f_L_multiplicity at hf
  obtain ⟨n1, r1, S1, hc, hf0, hx⟩ := oi_y hf
  refine lv_aload_n F.1 F.2.1 dL_multiplicity_0 rfl (lv_at hl 3 rfl) ?_
  refine lv_iconst (v := 0) F.1 F.2.1 dL_multiplicity_1 (by decide) ?_
  refine lv_aload_n F.1 F.2.1 dL_multiplicity_2 rfl (lv_at hl 0 rfl) ?_
  refine lv_iload_n F.1 F.2.1 dL_multiplicity_3 rfl (lv_at hl 1 rfl) ?_
  refine lv_iload_n F.1 F.2.1 dL_multiplicity_4 rfl (lv_at hl 2 rfl) ?_
  refine ky_i (S1 := S1) (n1 := n1) (r := r1) w (xrunV (As := [.int a1, .int a2]) (rest := [.int 0, .ref (x.2.2 87)]) (kb := 79) F w (k_X8_multiplicity l x S a1 a2 hc hls H.size) cy_X8_multiplicity q542 q543 q544 ⟨rfl, rfl⟩ ⟨Nat.le_of_ble_eq_true rfl, Nat.le_of_ble_eq_true rfl⟩ (by decide) rfl rfl rfl rfl hl.1 (Nat.le_of_ble_eq_true rfl) ⟨Nat.le_of_ble_eq_true rfl, Nat.le_of_ble_eq_true rfl⟩ dL_multiplicity_5) ?_ ?_
  · intro E ce q9 H1 locs1 hE w1 hce hv hcl
    obtain ⟨c1, hc1, hr1⟩ := hx (xk_ne hE)
    simp only [XK, List.mem_cons, List.not_mem_nil, or_false] at hE
    rcases hE with hE | hE | hE
    · cases hE
      have h9 : some (1 : Int32) = some c1 := hc1
      cases h9
      refine x_catch F w1 [] 0 10 13 13 [(0, 10, 17, 15)] htab (fun z hz => absurd hz List.not_mem_nil) (by decide) (by decide) q335 (by simp [XE]) hce hv hcl ?_
      refine lv_astore (lv' := [(4, .ref q9), (0, .ref (x.2.2 79)), (1, .int a1), (2, .int a2), (3, .ref (x.2.2 87))]) F.1 F.2.1 dL_multiplicity_13 hl (by decide) rfl (fun ls hl => ?_)
      refine lv_iconst (v := 1) F.1 F.2.1 dL_multiplicity_15 (by decide) ?_
      exact r_iret F w1 hr1 dL_multiplicity_16
    · cases hE
      have h9 : some (2 : Int32) = some c1 := hc1
      cases h9
      refine x_catch F w1 [(0, 10, 13, 13)] 0 10 17 15 [] htab (fun z hz => by
        simp only [List.mem_cons, List.not_mem_nil, or_false] at hz
        rcases hz with rfl
        · exact ⟨by decide, eIO, q335, by simp [XP]⟩) (by decide) (by decide) q336 (by simp [XE]) hce hv hcl ?_
      refine lv_astore (lv' := [(4, .ref q9), (0, .ref (x.2.2 79)), (1, .int a1), (2, .int a2), (3, .ref (x.2.2 87))]) F.1 F.2.1 dL_multiplicity_17 hl (by decide) rfl (fun ls hl => ?_)
      refine lv_iconst (v := 2) F.1 F.2.1 dL_multiplicity_19 (by decide) ?_
      exact r_iret F w1 hr1 dL_multiplicity_20
    · cases hE
      have h9 : (none : Option Int32) = some c1 := hc1
      cases h9
  · intro hn H locs w
    replace hf0 := hf0 hn
    refine lv_i2l (v := Int32.toInt64 r1) F.1 F.2.1 dL_multiplicity_8 rfl ?_
    refine r_last F w (k := 87) (a := 5) (n := 1) (by decide) (fun _ => rfl) rfl (by decide) dL_multiplicity_9 (fun H locs w => ?_)
    refine lv_goto (tgt := 21) F.1 F.2.1 dL_multiplicity_10 (by decide) ?_
    refine lv_iconst (v := 0) F.1 F.2.1 dL_multiplicity_21 (by decide) ?_
    exact r_iret F w (oi_s hf0) dL_multiplicity_22
set_option maxHeartbeats 4000000 in
set_option maxRecDepth 100000 in
theorem k_L_multiplicity (l : Launch) (x : CX) (S : ST) (a1 : Int32) (a2 : Int32) {res : Int32 × ST} (hf : f_L_multiplicity S a1 a2 = some res) (hls : l.stackTraces = false) (sz : Nat) : Met l yL_multiplicity (Cond.codeWith yL_multiplicity cL_multiplicity 5 (some .int) [(0, 10, 13, 13), (0, 10, 17, 15)] :: GW) ({ frames := 8, cells := 2, slots := 12, locals := 142 } : Room) (PC x S sz [.ref (x.2.2 79), .int a1, .int a2, .ref (x.2.2 87)]) (QI x res.2 res.1 sz) 2 12 (AA x sz) := by
  refine va_MetW (hh := [(0, 10, 13, 13), (0, 10, 17, 15)]) (cc := cL_multiplicity) (maxL := 5) (ret := some .int) (by decide) rfl ?_
  intro p e s m args below meth c s₁ B hml hv
  obtain ⟨rfl, rfl, hPW⟩ := hv
  have F : MF p m meth c cL_multiplicity 5 s _ RL (some .int) := MF.of B hml
  have htab : c.exceptionTable.toList = tableOf [(0, 10, 13, 13), (0, 10, 17, 15)] := vx_table (x := yL_multiplicity) B (atoms_spec (ws := Cond.codeWith yL_multiplicity cL_multiplicity 5 (some .int) [(0, 10, 13, 13), (0, 10, 17, 15)] :: GW) B.pre _ List.mem_cons_self)
  have w := WD.of hPW
  have hl := lv_entry ([.ref (x.2.2 79), .int a1, .int a2, .ref (x.2.2 87)]) (n := 5) (Nat.le_of_ble_eq_true rfl)
  rw [lg_entry_eq]
  generalize (lg_sl ([.ref (x.2.2 79), .int a1, .int a2, .ref (x.2.2 87)]) ++ List.replicate (5 - (lg_sl ([.ref (x.2.2 79), .int a1, .int a2, .ref (x.2.2 87)])).length) Slot.unset).toArray = ls at hl ⊢
  have hl : lv_has ls 5 [(0, .ref (x.2.2 79)), (1, .int a1), (2, .int a2), (3, .ref (x.2.2 87))] := hl
  exact b_L_multiplicity F htab hls _ _ _ _ w a1 a2 hl hf
def f_L_isRuler (S : ST) (a1 : Int32) : Option (Int32 × ST) := oY (f_X8_isRuler S a1) [(1, 1)] (fun r S1 => some (0, sB S1 5 (vp_updL (al S1 5) (Int32.toNatClampNeg 0) (if r = 0 then 0 else 1))))
set_option maxHeartbeats 4000000 in
set_option maxRecDepth 100000 in
theorem b_L_isRuler {p : Program} {l : Launch} {e : Env} {s : State} {m : MethodId} {args : Array Value} {below : List Frame} {meth : Method} {c : Code} {x : CX} {res : Int32 × ST} (F : MF p m meth c cL_isRuler 4 s args RL (some .int)) (htab : c.exceptionTable.toList = tableOf [(0, 16, 19, 13)]) (hls : l.stackTraces = false) (H : Heap) (locs : List Loc) (ls : Array Slot) (S : ST) (w : WD x s S H locs) (a1 : Int32) (hl : lv_has ls 4 [(0, .ref (x.2.2 79)), (1, .int a1), (2, .ref (x.2.2 87))]) (hf : f_L_isRuler S a1 = some res) : W p l e ({ frames := 8, cells := 1, slots := 6, locals := 141 } : Room) s m args below meth c H locs 0 0 (MQ below (QI x res.2 res.1 s.heap.size) args s 1 6 (AA x s.heap.size)) (F0 m 0 ls []) := by
  unfold f_L_isRuler at hf
  obtain ⟨n1, r1, S1, hc, hf0, hx⟩ := oi_y hf
  refine lv_aload_n F.1 F.2.1 dL_isRuler_0 rfl (lv_at hl 2 rfl) ?_
  refine lv_iconst (v := 0) F.1 F.2.1 dL_isRuler_1 (by decide) ?_
  refine lv_aload_n F.1 F.2.1 dL_isRuler_2 rfl (lv_at hl 0 rfl) ?_
  refine lv_iload_n F.1 F.2.1 dL_isRuler_3 rfl (lv_at hl 1 rfl) ?_
  refine ky_i (S1 := S1) (n1 := n1) (r := r1) w (xrunV (As := [.int a1]) (rest := [.int 0, .ref (x.2.2 87)]) (kb := 79) F w (k_X8_isRuler l x S a1 hc hls H.size) cy_X8_isRuler q554 q555 q556 ⟨rfl, rfl⟩ ⟨Nat.le_of_ble_eq_true rfl, Nat.le_of_ble_eq_true rfl⟩ (by decide) rfl rfl rfl rfl hl.1 (Nat.le_of_ble_eq_true rfl) ⟨Nat.le_of_ble_eq_true rfl, Nat.le_of_ble_eq_true rfl⟩ dL_isRuler_4) ?_ ?_
  · intro E ce q9 H1 locs1 hE w1 hce hv hcl
    obtain ⟨c1, hc1, hr1⟩ := hx (xk_ne hE)
    simp only [XK, List.mem_cons, List.not_mem_nil, or_false] at hE
    rcases hE with hE | hE | hE
    · cases hE
      have h9 : some (1 : Int32) = some c1 := hc1
      cases h9
      refine x_catch F w1 [] 0 16 19 13 [] htab (fun z hz => absurd hz List.not_mem_nil) (by decide) (by decide) q335 (by simp [XE]) hce hv hcl ?_
      refine lv_astore_n (lv' := [(3, .ref q9), (0, .ref (x.2.2 79)), (1, .int a1), (2, .ref (x.2.2 87))]) F.1 F.2.1 dL_isRuler_19 rfl hl (by decide) rfl (fun ls hl => ?_)
      refine lv_iconst (v := 1) F.1 F.2.1 dL_isRuler_20 (by decide) ?_
      exact r_iret F w1 hr1 dL_isRuler_21
    · cases hE
      have h9 : (none : Option Int32) = some c1 := hc1
      cases h9
    · cases hE
      have h9 : (none : Option Int32) = some c1 := hc1
      cases h9
  · intro hn H locs w
    replace hf0 := hf0 hn
    refine lv_if_eq (tgt := 14) F.1 F.2.1 dL_isRuler_7 (by decide) (fun c1 => ?_) (fun c1 => ?_)
    · rw [if_pos c1] at hf0
      refine lv_lconst (v := 0) F.1 F.2.1 dL_isRuler_14 (by decide) ?_
      refine r_last F w (k := 87) (a := 5) (n := 1) (by decide) (fun _ => rfl) rfl (by decide) dL_isRuler_15 (fun H locs w => ?_)
      refine lv_goto (tgt := 22) F.1 F.2.1 dL_isRuler_16 (by decide) ?_
      refine lv_iconst (v := 0) F.1 F.2.1 dL_isRuler_22 (by decide) ?_
      exact r_iret F w (oi_s hf0) dL_isRuler_23
    · rw [if_neg c1] at hf0
      refine lv_lconst (v := 1) F.1 F.2.1 dL_isRuler_10 (by decide) ?_
      refine lv_goto (tgt := 15) F.1 F.2.1 dL_isRuler_11 (by decide) ?_
      refine r_last F w (k := 87) (a := 5) (n := 1) (by decide) (fun _ => rfl) rfl (by decide) dL_isRuler_15 (fun H locs w => ?_)
      refine lv_goto (tgt := 22) F.1 F.2.1 dL_isRuler_16 (by decide) ?_
      refine lv_iconst (v := 0) F.1 F.2.1 dL_isRuler_22 (by decide) ?_
      exact r_iret F w (oi_s hf0) dL_isRuler_23
set_option maxHeartbeats 4000000 in
set_option maxRecDepth 100000 in
theorem k_L_isRuler (l : Launch) (x : CX) (S : ST) (a1 : Int32) {res : Int32 × ST} (hf : f_L_isRuler S a1 = some res) (hls : l.stackTraces = false) (sz : Nat) : Met l yL_isRuler (Cond.codeWith yL_isRuler cL_isRuler 4 (some .int) [(0, 16, 19, 13)] :: GW) ({ frames := 8, cells := 1, slots := 6, locals := 141 } : Room) (PC x S sz [.ref (x.2.2 79), .int a1, .ref (x.2.2 87)]) (QI x res.2 res.1 sz) 1 6 (AA x sz) := by
  refine va_MetW (hh := [(0, 16, 19, 13)]) (cc := cL_isRuler) (maxL := 4) (ret := some .int) (by decide) rfl ?_
  intro p e s m args below meth c s₁ B hml hv
  obtain ⟨rfl, rfl, hPW⟩ := hv
  have F : MF p m meth c cL_isRuler 4 s _ RL (some .int) := MF.of B hml
  have htab : c.exceptionTable.toList = tableOf [(0, 16, 19, 13)] := vx_table (x := yL_isRuler) B (atoms_spec (ws := Cond.codeWith yL_isRuler cL_isRuler 4 (some .int) [(0, 16, 19, 13)] :: GW) B.pre _ List.mem_cons_self)
  have w := WD.of hPW
  have hl := lv_entry ([.ref (x.2.2 79), .int a1, .ref (x.2.2 87)]) (n := 4) (Nat.le_of_ble_eq_true rfl)
  rw [lg_entry_eq]
  generalize (lg_sl ([.ref (x.2.2 79), .int a1, .ref (x.2.2 87)]) ++ List.replicate (4 - (lg_sl ([.ref (x.2.2 79), .int a1, .ref (x.2.2 87)])).length) Slot.unset).toArray = ls at hl ⊢
  have hl : lv_has ls 4 [(0, .ref (x.2.2 79)), (1, .int a1), (2, .ref (x.2.2 87))] := hl
  exact b_L_isRuler F htab hls _ _ _ _ w a1 hl hf
def f_L_completeUpTo (S : ST) (a1 : Int32) : Option (Int32 × ST) := oY (f_X8_completeUpTo S a1) [(1, 1)] (fun r S1 => some (0, sB S1 5 (vp_updL (al S1 5) (Int32.toNatClampNeg 0) (Int32.toInt64 r))))
set_option maxHeartbeats 4000000 in
set_option maxRecDepth 100000 in
theorem b_L_completeUpTo {p : Program} {l : Launch} {e : Env} {s : State} {m : MethodId} {args : Array Value} {below : List Frame} {meth : Method} {c : Code} {x : CX} {res : Int32 × ST} (F : MF p m meth c cL_completeUpTo 4 s args RL (some .int)) (htab : c.exceptionTable.toList = tableOf [(0, 9, 12, 13)]) (hls : l.stackTraces = false) (H : Heap) (locs : List Loc) (ls : Array Slot) (S : ST) (w : WD x s S H locs) (a1 : Int32) (hl : lv_has ls 4 [(0, .ref (x.2.2 79)), (1, .int a1), (2, .ref (x.2.2 87))]) (hf : f_L_completeUpTo S a1 = some res) : W p l e ({ frames := 8, cells := 1, slots := 6, locals := 141 } : Room) s m args below meth c H locs 0 0 (MQ below (QI x res.2 res.1 s.heap.size) args s 1 6 (AA x s.heap.size)) (F0 m 0 ls []) := by
  unfold f_L_completeUpTo at hf
  obtain ⟨n1, r1, S1, hc, hf0, hx⟩ := oi_y hf
  refine lv_aload_n F.1 F.2.1 dL_completeUpTo_0 rfl (lv_at hl 2 rfl) ?_
  refine lv_iconst (v := 0) F.1 F.2.1 dL_completeUpTo_1 (by decide) ?_
  refine lv_aload_n F.1 F.2.1 dL_completeUpTo_2 rfl (lv_at hl 0 rfl) ?_
  refine lv_iload_n F.1 F.2.1 dL_completeUpTo_3 rfl (lv_at hl 1 rfl) ?_
  refine ky_i (S1 := S1) (n1 := n1) (r := r1) w (xrunV (As := [.int a1]) (rest := [.int 0, .ref (x.2.2 87)]) (kb := 79) F w (k_X8_completeUpTo l x S a1 hc hls H.size) cy_X8_completeUpTo q561 q562 q563 ⟨rfl, rfl⟩ ⟨Nat.le_of_ble_eq_true rfl, Nat.le_of_ble_eq_true rfl⟩ (by decide) rfl rfl rfl rfl hl.1 (Nat.le_of_ble_eq_true rfl) ⟨Nat.le_of_ble_eq_true rfl, Nat.le_of_ble_eq_true rfl⟩ dL_completeUpTo_4) ?_ ?_
  · intro E ce q9 H1 locs1 hE w1 hce hv hcl
    obtain ⟨c1, hc1, hr1⟩ := hx (xk_ne hE)
    simp only [XK, List.mem_cons, List.not_mem_nil, or_false] at hE
    rcases hE with hE | hE | hE
    · cases hE
      have h9 : some (1 : Int32) = some c1 := hc1
      cases h9
      refine x_catch F w1 [] 0 9 12 13 [] htab (fun z hz => absurd hz List.not_mem_nil) (by decide) (by decide) q335 (by simp [XE]) hce hv hcl ?_
      refine lv_astore_n (lv' := [(3, .ref q9), (0, .ref (x.2.2 79)), (1, .int a1), (2, .ref (x.2.2 87))]) F.1 F.2.1 dL_completeUpTo_12 rfl hl (by decide) rfl (fun ls hl => ?_)
      refine lv_iconst (v := 1) F.1 F.2.1 dL_completeUpTo_13 (by decide) ?_
      exact r_iret F w1 hr1 dL_completeUpTo_14
    · cases hE
      have h9 : (none : Option Int32) = some c1 := hc1
      cases h9
    · cases hE
      have h9 : (none : Option Int32) = some c1 := hc1
      cases h9
  · intro hn H locs w
    replace hf0 := hf0 hn
    refine lv_i2l (v := Int32.toInt64 r1) F.1 F.2.1 dL_completeUpTo_7 rfl ?_
    refine r_last F w (k := 87) (a := 5) (n := 1) (by decide) (fun _ => rfl) rfl (by decide) dL_completeUpTo_8 (fun H locs w => ?_)
    refine lv_goto (tgt := 15) F.1 F.2.1 dL_completeUpTo_9 (by decide) ?_
    refine lv_iconst (v := 0) F.1 F.2.1 dL_completeUpTo_15 (by decide) ?_
    exact r_iret F w (oi_s hf0) dL_completeUpTo_16
set_option maxHeartbeats 4000000 in
set_option maxRecDepth 100000 in
theorem k_L_completeUpTo (l : Launch) (x : CX) (S : ST) (a1 : Int32) {res : Int32 × ST} (hf : f_L_completeUpTo S a1 = some res) (hls : l.stackTraces = false) (sz : Nat) : Met l yL_completeUpTo (Cond.codeWith yL_completeUpTo cL_completeUpTo 4 (some .int) [(0, 9, 12, 13)] :: GW) ({ frames := 8, cells := 1, slots := 6, locals := 141 } : Room) (PC x S sz [.ref (x.2.2 79), .int a1, .ref (x.2.2 87)]) (QI x res.2 res.1 sz) 1 6 (AA x sz) := by
  refine va_MetW (hh := [(0, 9, 12, 13)]) (cc := cL_completeUpTo) (maxL := 4) (ret := some .int) (by decide) rfl ?_
  intro p e s m args below meth c s₁ B hml hv
  obtain ⟨rfl, rfl, hPW⟩ := hv
  have F : MF p m meth c cL_completeUpTo 4 s _ RL (some .int) := MF.of B hml
  have htab : c.exceptionTable.toList = tableOf [(0, 9, 12, 13)] := vx_table (x := yL_completeUpTo) B (atoms_spec (ws := Cond.codeWith yL_completeUpTo cL_completeUpTo 4 (some .int) [(0, 9, 12, 13)] :: GW) B.pre _ List.mem_cons_self)
  have w := WD.of hPW
  have hl := lv_entry ([.ref (x.2.2 79), .int a1, .ref (x.2.2 87)]) (n := 4) (Nat.le_of_ble_eq_true rfl)
  rw [lg_entry_eq]
  generalize (lg_sl ([.ref (x.2.2 79), .int a1, .ref (x.2.2 87)]) ++ List.replicate (4 - (lg_sl ([.ref (x.2.2 79), .int a1, .ref (x.2.2 87)])).length) Slot.unset).toArray = ls at hl ⊢
  have hl : lv_has ls 4 [(0, .ref (x.2.2 79)), (1, .int a1), (2, .ref (x.2.2 87))] := hl
  exact b_L_completeUpTo F htab hls _ _ _ _ w a1 hl hf
def f_L_differences (S : ST) (a1 : Int32) : Option (Int32 × ST) := oY (f_X8_differences S a1) [(1, 1)] (fun r S1 => some (0, sB S1 5 (vp_updL (al S1 5) (Int32.toNatClampNeg 0) (Int32.toInt64 r))))
set_option maxHeartbeats 4000000 in
set_option maxRecDepth 100000 in
theorem b_L_differences {p : Program} {l : Launch} {e : Env} {s : State} {m : MethodId} {args : Array Value} {below : List Frame} {meth : Method} {c : Code} {x : CX} {res : Int32 × ST} (F : MF p m meth c cL_differences 4 s args RL (some .int)) (htab : c.exceptionTable.toList = tableOf [(0, 9, 12, 13)]) (hls : l.stackTraces = false) (H : Heap) (locs : List Loc) (ls : Array Slot) (S : ST) (w : WD x s S H locs) (a1 : Int32) (hl : lv_has ls 4 [(0, .ref (x.2.2 79)), (1, .int a1), (2, .ref (x.2.2 87))]) (hf : f_L_differences S a1 = some res) : W p l e ({ frames := 8, cells := 1, slots := 6, locals := 141 } : Room) s m args below meth c H locs 0 0 (MQ below (QI x res.2 res.1 s.heap.size) args s 1 6 (AA x s.heap.size)) (F0 m 0 ls []) := by
  unfold f_L_differences at hf
  obtain ⟨n1, r1, S1, hc, hf0, hx⟩ := oi_y hf
  refine lv_aload_n F.1 F.2.1 dL_differences_0 rfl (lv_at hl 2 rfl) ?_
  refine lv_iconst (v := 0) F.1 F.2.1 dL_differences_1 (by decide) ?_
  refine lv_aload_n F.1 F.2.1 dL_differences_2 rfl (lv_at hl 0 rfl) ?_
  refine lv_iload_n F.1 F.2.1 dL_differences_3 rfl (lv_at hl 1 rfl) ?_
  refine ky_i (S1 := S1) (n1 := n1) (r := r1) w (xrunV (As := [.int a1]) (rest := [.int 0, .ref (x.2.2 87)]) (kb := 79) F w (k_X8_differences l x S a1 hc hls H.size) cy_X8_differences q568 q569 q570 ⟨rfl, rfl⟩ ⟨Nat.le_of_ble_eq_true rfl, Nat.le_of_ble_eq_true rfl⟩ (by decide) rfl rfl rfl rfl hl.1 (Nat.le_of_ble_eq_true rfl) ⟨Nat.le_of_ble_eq_true rfl, Nat.le_of_ble_eq_true rfl⟩ dL_differences_4) ?_ ?_
  · intro E ce q9 H1 locs1 hE w1 hce hv hcl
    obtain ⟨c1, hc1, hr1⟩ := hx (xk_ne hE)
    simp only [XK, List.mem_cons, List.not_mem_nil, or_false] at hE
    rcases hE with hE | hE | hE
    · cases hE
      have h9 : some (1 : Int32) = some c1 := hc1
      cases h9
      refine x_catch F w1 [] 0 9 12 13 [] htab (fun z hz => absurd hz List.not_mem_nil) (by decide) (by decide) q335 (by simp [XE]) hce hv hcl ?_
      refine lv_astore_n (lv' := [(3, .ref q9), (0, .ref (x.2.2 79)), (1, .int a1), (2, .ref (x.2.2 87))]) F.1 F.2.1 dL_differences_12 rfl hl (by decide) rfl (fun ls hl => ?_)
      refine lv_iconst (v := 1) F.1 F.2.1 dL_differences_13 (by decide) ?_
      exact r_iret F w1 hr1 dL_differences_14
    · cases hE
      have h9 : (none : Option Int32) = some c1 := hc1
      cases h9
    · cases hE
      have h9 : (none : Option Int32) = some c1 := hc1
      cases h9
  · intro hn H locs w
    replace hf0 := hf0 hn
    refine lv_i2l (v := Int32.toInt64 r1) F.1 F.2.1 dL_differences_7 rfl ?_
    refine r_last F w (k := 87) (a := 5) (n := 1) (by decide) (fun _ => rfl) rfl (by decide) dL_differences_8 (fun H locs w => ?_)
    refine lv_goto (tgt := 15) F.1 F.2.1 dL_differences_9 (by decide) ?_
    refine lv_iconst (v := 0) F.1 F.2.1 dL_differences_15 (by decide) ?_
    exact r_iret F w (oi_s hf0) dL_differences_16
set_option maxHeartbeats 4000000 in
set_option maxRecDepth 100000 in
theorem k_L_differences (l : Launch) (x : CX) (S : ST) (a1 : Int32) {res : Int32 × ST} (hf : f_L_differences S a1 = some res) (hls : l.stackTraces = false) (sz : Nat) : Met l yL_differences (Cond.codeWith yL_differences cL_differences 4 (some .int) [(0, 9, 12, 13)] :: GW) ({ frames := 8, cells := 1, slots := 6, locals := 141 } : Room) (PC x S sz [.ref (x.2.2 79), .int a1, .ref (x.2.2 87)]) (QI x res.2 res.1 sz) 1 6 (AA x sz) := by
  refine va_MetW (hh := [(0, 9, 12, 13)]) (cc := cL_differences) (maxL := 4) (ret := some .int) (by decide) rfl ?_
  intro p e s m args below meth c s₁ B hml hv
  obtain ⟨rfl, rfl, hPW⟩ := hv
  have F : MF p m meth c cL_differences 4 s _ RL (some .int) := MF.of B hml
  have htab : c.exceptionTable.toList = tableOf [(0, 9, 12, 13)] := vx_table (x := yL_differences) B (atoms_spec (ws := Cond.codeWith yL_differences cL_differences 4 (some .int) [(0, 9, 12, 13)] :: GW) B.pre _ List.mem_cons_self)
  have w := WD.of hPW
  have hl := lv_entry ([.ref (x.2.2 79), .int a1, .ref (x.2.2 87)]) (n := 4) (Nat.le_of_ble_eq_true rfl)
  rw [lg_entry_eq]
  generalize (lg_sl ([.ref (x.2.2 79), .int a1, .ref (x.2.2 87)]) ++ List.replicate (4 - (lg_sl ([.ref (x.2.2 79), .int a1, .ref (x.2.2 87)])).length) Slot.unset).toArray = ls at hl ⊢
  have hl : lv_has ls 4 [(0, .ref (x.2.2 79)), (1, .int a1), (2, .ref (x.2.2 87))] := hl
  exact b_L_differences F htab hls _ _ _ _ w a1 hl hf
def f_L_isFamily (S : ST) (a1 : Int32) : Option (Int32 × ST) := oY (f_X8_isFamily S a1) [(2, 1)] (fun r S1 => some (0, sB S1 5 (vp_updL (al S1 5) (Int32.toNatClampNeg 0) (if r = 0 then 0 else 1))))
set_option maxHeartbeats 4000000 in
set_option maxRecDepth 100000 in
theorem b_L_isFamily {p : Program} {l : Launch} {e : Env} {s : State} {m : MethodId} {args : Array Value} {below : List Frame} {meth : Method} {c : Code} {x : CX} {res : Int32 × ST} (F : MF p m meth c cL_isFamily 4 s args RL (some .int)) (htab : c.exceptionTable.toList = tableOf [(0, 16, 19, 15)]) (hls : l.stackTraces = false) (H : Heap) (locs : List Loc) (ls : Array Slot) (S : ST) (w : WD x s S H locs) (a1 : Int32) (hl : lv_has ls 4 [(0, .ref (x.2.2 79)), (1, .int a1), (2, .ref (x.2.2 87))]) (hf : f_L_isFamily S a1 = some res) : W p l e ({ frames := 7, cells := 1, slots := 6, locals := 133 } : Room) s m args below meth c H locs 0 0 (MQ below (QI x res.2 res.1 s.heap.size) args s 1 6 (AA x s.heap.size)) (F0 m 0 ls []) := by
  unfold f_L_isFamily at hf
  obtain ⟨n1, r1, S1, hc, hf0, hx⟩ := oi_y hf
  refine lv_aload_n F.1 F.2.1 dL_isFamily_0 rfl (lv_at hl 2 rfl) ?_
  refine lv_iconst (v := 0) F.1 F.2.1 dL_isFamily_1 (by decide) ?_
  refine lv_aload_n F.1 F.2.1 dL_isFamily_2 rfl (lv_at hl 0 rfl) ?_
  refine lv_iload_n F.1 F.2.1 dL_isFamily_3 rfl (lv_at hl 1 rfl) ?_
  refine ky_i (S1 := S1) (n1 := n1) (r := r1) w (xrunV (As := [.int a1]) (rest := [.int 0, .ref (x.2.2 87)]) (kb := 79) F w (k_X8_isFamily l x S a1 hc hls H.size) cy_X8_isFamily q575 q576 q577 ⟨rfl, rfl⟩ ⟨Nat.le_of_ble_eq_true rfl, Nat.le_of_ble_eq_true rfl⟩ (by decide) rfl rfl rfl rfl hl.1 (Nat.le_of_ble_eq_true rfl) ⟨Nat.le_of_ble_eq_true rfl, Nat.le_of_ble_eq_true rfl⟩ dL_isFamily_4) ?_ ?_
  · intro E ce q9 H1 locs1 hE w1 hce hv hcl
    obtain ⟨c1, hc1, hr1⟩ := hx (xk_ne hE)
    simp only [XK, List.mem_cons, List.not_mem_nil, or_false] at hE
    rcases hE with hE | hE | hE
    · cases hE
      have h9 : (none : Option Int32) = some c1 := hc1
      cases h9
    · cases hE
      have h9 : some (1 : Int32) = some c1 := hc1
      cases h9
      refine x_catch F w1 [] 0 16 19 15 [] htab (fun z hz => absurd hz List.not_mem_nil) (by decide) (by decide) q336 (by simp [XE]) hce hv hcl ?_
      refine lv_astore_n (lv' := [(3, .ref q9), (0, .ref (x.2.2 79)), (1, .int a1), (2, .ref (x.2.2 87))]) F.1 F.2.1 dL_isFamily_19 rfl hl (by decide) rfl (fun ls hl => ?_)
      refine lv_iconst (v := 1) F.1 F.2.1 dL_isFamily_20 (by decide) ?_
      exact r_iret F w1 hr1 dL_isFamily_21
    · cases hE
      have h9 : (none : Option Int32) = some c1 := hc1
      cases h9
  · intro hn H locs w
    replace hf0 := hf0 hn
    refine lv_if_eq (tgt := 14) F.1 F.2.1 dL_isFamily_7 (by decide) (fun c1 => ?_) (fun c1 => ?_)
    · rw [if_pos c1] at hf0
      refine lv_lconst (v := 0) F.1 F.2.1 dL_isFamily_14 (by decide) ?_
      refine r_last F w (k := 87) (a := 5) (n := 1) (by decide) (fun _ => rfl) rfl (by decide) dL_isFamily_15 (fun H locs w => ?_)
      refine lv_goto (tgt := 22) F.1 F.2.1 dL_isFamily_16 (by decide) ?_
      refine lv_iconst (v := 0) F.1 F.2.1 dL_isFamily_22 (by decide) ?_
      exact r_iret F w (oi_s hf0) dL_isFamily_23
    · rw [if_neg c1] at hf0
      refine lv_lconst (v := 1) F.1 F.2.1 dL_isFamily_10 (by decide) ?_
      refine lv_goto (tgt := 15) F.1 F.2.1 dL_isFamily_11 (by decide) ?_
      refine r_last F w (k := 87) (a := 5) (n := 1) (by decide) (fun _ => rfl) rfl (by decide) dL_isFamily_15 (fun H locs w => ?_)
      refine lv_goto (tgt := 22) F.1 F.2.1 dL_isFamily_16 (by decide) ?_
      refine lv_iconst (v := 0) F.1 F.2.1 dL_isFamily_22 (by decide) ?_
      exact r_iret F w (oi_s hf0) dL_isFamily_23
set_option maxHeartbeats 4000000 in
set_option maxRecDepth 100000 in
theorem k_L_isFamily (l : Launch) (x : CX) (S : ST) (a1 : Int32) {res : Int32 × ST} (hf : f_L_isFamily S a1 = some res) (hls : l.stackTraces = false) (sz : Nat) : Met l yL_isFamily (Cond.codeWith yL_isFamily cL_isFamily 4 (some .int) [(0, 16, 19, 15)] :: GW) ({ frames := 7, cells := 1, slots := 6, locals := 133 } : Room) (PC x S sz [.ref (x.2.2 79), .int a1, .ref (x.2.2 87)]) (QI x res.2 res.1 sz) 1 6 (AA x sz) := by
  refine va_MetW (hh := [(0, 16, 19, 15)]) (cc := cL_isFamily) (maxL := 4) (ret := some .int) (by decide) rfl ?_
  intro p e s m args below meth c s₁ B hml hv
  obtain ⟨rfl, rfl, hPW⟩ := hv
  have F : MF p m meth c cL_isFamily 4 s _ RL (some .int) := MF.of B hml
  have htab : c.exceptionTable.toList = tableOf [(0, 16, 19, 15)] := vx_table (x := yL_isFamily) B (atoms_spec (ws := Cond.codeWith yL_isFamily cL_isFamily 4 (some .int) [(0, 16, 19, 15)] :: GW) B.pre _ List.mem_cons_self)
  have w := WD.of hPW
  have hl := lv_entry ([.ref (x.2.2 79), .int a1, .ref (x.2.2 87)]) (n := 4) (Nat.le_of_ble_eq_true rfl)
  rw [lg_entry_eq]
  generalize (lg_sl ([.ref (x.2.2 79), .int a1, .ref (x.2.2 87)]) ++ List.replicate (4 - (lg_sl ([.ref (x.2.2 79), .int a1, .ref (x.2.2 87)])).length) Slot.unset).toArray = ls at hl ⊢
  have hl : lv_has ls 4 [(0, .ref (x.2.2 79)), (1, .int a1), (2, .ref (x.2.2 87))] := hl
  exact b_L_isFamily F htab hls _ _ _ _ w a1 hl hf
def f_L_setModulus (S : ST) (a1 : Int32) : Option (Int32 × ST) := oY (f_X8_setModulus S a1) [(2, 1)] (fun r S1 => some (0, sB S1 5 (vp_updL (al S1 5) (Int32.toNatClampNeg 0) (Int32.toInt64 r))))
set_option maxHeartbeats 4000000 in
set_option maxRecDepth 100000 in
theorem b_L_setModulus {p : Program} {l : Launch} {e : Env} {s : State} {m : MethodId} {args : Array Value} {below : List Frame} {meth : Method} {c : Code} {x : CX} {res : Int32 × ST} (F : MF p m meth c cL_setModulus 4 s args RL (some .int)) (htab : c.exceptionTable.toList = tableOf [(0, 9, 12, 15)]) (hls : l.stackTraces = false) (H : Heap) (locs : List Loc) (ls : Array Slot) (S : ST) (w : WD x s S H locs) (a1 : Int32) (hl : lv_has ls 4 [(0, .ref (x.2.2 79)), (1, .int a1), (2, .ref (x.2.2 87))]) (hf : f_L_setModulus S a1 = some res) : W p l e ({ frames := 7, cells := 1, slots := 6, locals := 150 } : Room) s m args below meth c H locs 0 0 (MQ below (QI x res.2 res.1 s.heap.size) args s 1 6 (AA x s.heap.size)) (F0 m 0 ls []) := by
  unfold f_L_setModulus at hf
  obtain ⟨n1, r1, S1, hc, hf0, hx⟩ := oi_y hf
  refine lv_aload_n F.1 F.2.1 dL_setModulus_0 rfl (lv_at hl 2 rfl) ?_
  refine lv_iconst (v := 0) F.1 F.2.1 dL_setModulus_1 (by decide) ?_
  refine lv_aload_n F.1 F.2.1 dL_setModulus_2 rfl (lv_at hl 0 rfl) ?_
  refine lv_iload_n F.1 F.2.1 dL_setModulus_3 rfl (lv_at hl 1 rfl) ?_
  refine ky_i (S1 := S1) (n1 := n1) (r := r1) w (xrunV (As := [.int a1]) (rest := [.int 0, .ref (x.2.2 87)]) (kb := 79) F w (k_X8_setModulus l x S a1 hc hls H.size) cy_X8_setModulus q583 q584 q585 ⟨rfl, rfl⟩ ⟨Nat.le_of_ble_eq_true rfl, Nat.le_of_ble_eq_true rfl⟩ (by decide) rfl rfl rfl rfl hl.1 (Nat.le_of_ble_eq_true rfl) ⟨Nat.le_of_ble_eq_true rfl, Nat.le_of_ble_eq_true rfl⟩ dL_setModulus_4) ?_ ?_
  · intro E ce q9 H1 locs1 hE w1 hce hv hcl
    obtain ⟨c1, hc1, hr1⟩ := hx (xk_ne hE)
    simp only [XK, List.mem_cons, List.not_mem_nil, or_false] at hE
    rcases hE with hE | hE | hE
    · cases hE
      have h9 : (none : Option Int32) = some c1 := hc1
      cases h9
    · cases hE
      have h9 : some (1 : Int32) = some c1 := hc1
      cases h9
      refine x_catch F w1 [] 0 9 12 15 [] htab (fun z hz => absurd hz List.not_mem_nil) (by decide) (by decide) q336 (by simp [XE]) hce hv hcl ?_
      refine lv_astore_n (lv' := [(3, .ref q9), (0, .ref (x.2.2 79)), (1, .int a1), (2, .ref (x.2.2 87))]) F.1 F.2.1 dL_setModulus_12 rfl hl (by decide) rfl (fun ls hl => ?_)
      refine lv_iconst (v := 1) F.1 F.2.1 dL_setModulus_13 (by decide) ?_
      exact r_iret F w1 hr1 dL_setModulus_14
    · cases hE
      have h9 : (none : Option Int32) = some c1 := hc1
      cases h9
  · intro hn H locs w
    replace hf0 := hf0 hn
    refine lv_i2l (v := Int32.toInt64 r1) F.1 F.2.1 dL_setModulus_7 rfl ?_
    refine r_last F w (k := 87) (a := 5) (n := 1) (by decide) (fun _ => rfl) rfl (by decide) dL_setModulus_8 (fun H locs w => ?_)
    refine lv_goto (tgt := 15) F.1 F.2.1 dL_setModulus_9 (by decide) ?_
    refine lv_iconst (v := 0) F.1 F.2.1 dL_setModulus_15 (by decide) ?_
    exact r_iret F w (oi_s hf0) dL_setModulus_16
set_option maxHeartbeats 4000000 in
set_option maxRecDepth 100000 in
theorem k_L_setModulus (l : Launch) (x : CX) (S : ST) (a1 : Int32) {res : Int32 × ST} (hf : f_L_setModulus S a1 = some res) (hls : l.stackTraces = false) (sz : Nat) : Met l yL_setModulus (Cond.codeWith yL_setModulus cL_setModulus 4 (some .int) [(0, 9, 12, 15)] :: GW) ({ frames := 7, cells := 1, slots := 6, locals := 150 } : Room) (PC x S sz [.ref (x.2.2 79), .int a1, .ref (x.2.2 87)]) (QI x res.2 res.1 sz) 1 6 (AA x sz) := by
  refine va_MetW (hh := [(0, 9, 12, 15)]) (cc := cL_setModulus) (maxL := 4) (ret := some .int) (by decide) rfl ?_
  intro p e s m args below meth c s₁ B hml hv
  obtain ⟨rfl, rfl, hPW⟩ := hv
  have F : MF p m meth c cL_setModulus 4 s _ RL (some .int) := MF.of B hml
  have htab : c.exceptionTable.toList = tableOf [(0, 9, 12, 15)] := vx_table (x := yL_setModulus) B (atoms_spec (ws := Cond.codeWith yL_setModulus cL_setModulus 4 (some .int) [(0, 9, 12, 15)] :: GW) B.pre _ List.mem_cons_self)
  have w := WD.of hPW
  have hl := lv_entry ([.ref (x.2.2 79), .int a1, .ref (x.2.2 87)]) (n := 4) (Nat.le_of_ble_eq_true rfl)
  rw [lg_entry_eq]
  generalize (lg_sl ([.ref (x.2.2 79), .int a1, .ref (x.2.2 87)]) ++ List.replicate (4 - (lg_sl ([.ref (x.2.2 79), .int a1, .ref (x.2.2 87)])).length) Slot.unset).toArray = ls at hl ⊢
  have hl : lv_has ls 4 [(0, .ref (x.2.2 79)), (1, .int a1), (2, .ref (x.2.2 87))] := hl
  exact b_L_setModulus F htab hls _ _ _ _ w a1 hl hf
def f_L_cyclicMultiplicity (S : ST) (a1 : Int32) (a2 : Int32) : Option (Int32 × ST) := oY (f_X8_cyclicMultiplicity S a1 a2) [(1, 1), (2, 2), (3, 3)] (fun r S1 => some (0, sB S1 5 (vp_updL (al S1 5) (Int32.toNatClampNeg 0) (Int32.toInt64 r))))
set_option maxHeartbeats 4000000 in
set_option maxRecDepth 100000 in
theorem b_L_cyclicMultiplicity {p : Program} {l : Launch} {e : Env} {s : State} {m : MethodId} {args : Array Value} {below : List Frame} {meth : Method} {c : Code} {x : CX} {res : Int32 × ST} (F : MF p m meth c cL_cyclicMultiplicity 5 s args RL (some .int)) (htab : c.exceptionTable.toList = tableOf [(0, 10, 13, 13), (0, 10, 17, 15), (0, 10, 21, 17)]) (hls : l.stackTraces = false) (H : Heap) (locs : List Loc) (ls : Array Slot) (S : ST) (w : WD x s S H locs) (a1 : Int32) (a2 : Int32) (hl : lv_has ls 5 [(0, .ref (x.2.2 79)), (1, .int a1), (2, .int a2), (3, .ref (x.2.2 87))]) (hf : f_L_cyclicMultiplicity S a1 a2 = some res) : W p l e ({ frames := 8, cells := 3, slots := 18, locals := 144 } : Room) s m args below meth c H locs 0 0 (MQ below (QI x res.2 res.1 s.heap.size) args s 3 18 (AA x s.heap.size)) (F0 m 0 ls []) := by
  unfold f_L_cyclicMultiplicity at hf
  obtain ⟨n1, r1, S1, hc, hf0, hx⟩ := oi_y hf
  refine lv_aload_n F.1 F.2.1 dL_cyclicMultiplicity_0 rfl (lv_at hl 3 rfl) ?_
  refine lv_iconst (v := 0) F.1 F.2.1 dL_cyclicMultiplicity_1 (by decide) ?_
  refine lv_aload_n F.1 F.2.1 dL_cyclicMultiplicity_2 rfl (lv_at hl 0 rfl) ?_
  refine lv_iload_n F.1 F.2.1 dL_cyclicMultiplicity_3 rfl (lv_at hl 1 rfl) ?_
  refine lv_iload_n F.1 F.2.1 dL_cyclicMultiplicity_4 rfl (lv_at hl 2 rfl) ?_
  refine ky_i (S1 := S1) (n1 := n1) (r := r1) w (xrunV (As := [.int a1, .int a2]) (rest := [.int 0, .ref (x.2.2 87)]) (kb := 79) F w (k_X8_cyclicMultiplicity l x S a1 a2 hc hls H.size) cy_X8_cyclicMultiplicity q591 q592 q593 ⟨rfl, rfl⟩ ⟨Nat.le_of_ble_eq_true rfl, Nat.le_of_ble_eq_true rfl⟩ (by decide) rfl rfl rfl rfl hl.1 (Nat.le_of_ble_eq_true rfl) ⟨Nat.le_of_ble_eq_true rfl, Nat.le_of_ble_eq_true rfl⟩ dL_cyclicMultiplicity_5) ?_ ?_
  · intro E ce q9 H1 locs1 hE w1 hce hv hcl
    obtain ⟨c1, hc1, hr1⟩ := hx (xk_ne hE)
    simp only [XK, List.mem_cons, List.not_mem_nil, or_false] at hE
    rcases hE with hE | hE | hE
    · cases hE
      have h9 : some (1 : Int32) = some c1 := hc1
      cases h9
      refine x_catch F w1 [] 0 10 13 13 [(0, 10, 17, 15), (0, 10, 21, 17)] htab (fun z hz => absurd hz List.not_mem_nil) (by decide) (by decide) q335 (by simp [XE]) hce hv hcl ?_
      refine lv_astore (lv' := [(4, .ref q9), (0, .ref (x.2.2 79)), (1, .int a1), (2, .int a2), (3, .ref (x.2.2 87))]) F.1 F.2.1 dL_cyclicMultiplicity_13 hl (by decide) rfl (fun ls hl => ?_)
      refine lv_iconst (v := 1) F.1 F.2.1 dL_cyclicMultiplicity_15 (by decide) ?_
      exact r_iret F w1 hr1 dL_cyclicMultiplicity_16
    · cases hE
      have h9 : some (2 : Int32) = some c1 := hc1
      cases h9
      refine x_catch F w1 [(0, 10, 13, 13)] 0 10 17 15 [(0, 10, 21, 17)] htab (fun z hz => by
        simp only [List.mem_cons, List.not_mem_nil, or_false] at hz
        rcases hz with rfl
        · exact ⟨by decide, eIO, q335, by simp [XP]⟩) (by decide) (by decide) q336 (by simp [XE]) hce hv hcl ?_
      refine lv_astore (lv' := [(4, .ref q9), (0, .ref (x.2.2 79)), (1, .int a1), (2, .int a2), (3, .ref (x.2.2 87))]) F.1 F.2.1 dL_cyclicMultiplicity_17 hl (by decide) rfl (fun ls hl => ?_)
      refine lv_iconst (v := 2) F.1 F.2.1 dL_cyclicMultiplicity_19 (by decide) ?_
      exact r_iret F w1 hr1 dL_cyclicMultiplicity_20
    · cases hE
      have h9 : some (3 : Int32) = some c1 := hc1
      cases h9
      refine x_catch F w1 [(0, 10, 13, 13), (0, 10, 17, 15)] 0 10 21 17 [] htab (fun z hz => by
        simp only [List.mem_cons, List.not_mem_nil, or_false] at hz
        rcases hz with rfl | rfl
        · exact ⟨by decide, eIO, q335, by simp [XP]⟩
        · exact ⟨by decide, eIA, q336, by simp [XP]⟩) (by decide) (by decide) q337 (by simp [XE]) hce hv hcl ?_
      refine lv_astore (lv' := [(4, .ref q9), (0, .ref (x.2.2 79)), (1, .int a1), (2, .int a2), (3, .ref (x.2.2 87))]) F.1 F.2.1 dL_cyclicMultiplicity_21 hl (by decide) rfl (fun ls hl => ?_)
      refine lv_iconst (v := 3) F.1 F.2.1 dL_cyclicMultiplicity_23 (by decide) ?_
      exact r_iret F w1 hr1 dL_cyclicMultiplicity_24
  · intro hn H locs w
    replace hf0 := hf0 hn
    refine lv_i2l (v := Int32.toInt64 r1) F.1 F.2.1 dL_cyclicMultiplicity_8 rfl ?_
    refine r_last F w (k := 87) (a := 5) (n := 1) (by decide) (fun _ => rfl) rfl (by decide) dL_cyclicMultiplicity_9 (fun H locs w => ?_)
    refine lv_goto (tgt := 25) F.1 F.2.1 dL_cyclicMultiplicity_10 (by decide) ?_
    refine lv_iconst (v := 0) F.1 F.2.1 dL_cyclicMultiplicity_25 (by decide) ?_
    exact r_iret F w (oi_s hf0) dL_cyclicMultiplicity_26
set_option maxHeartbeats 4000000 in
set_option maxRecDepth 100000 in
theorem k_L_cyclicMultiplicity (l : Launch) (x : CX) (S : ST) (a1 : Int32) (a2 : Int32) {res : Int32 × ST} (hf : f_L_cyclicMultiplicity S a1 a2 = some res) (hls : l.stackTraces = false) (sz : Nat) : Met l yL_cyclicMultiplicity (Cond.codeWith yL_cyclicMultiplicity cL_cyclicMultiplicity 5 (some .int) [(0, 10, 13, 13), (0, 10, 17, 15), (0, 10, 21, 17)] :: GW) ({ frames := 8, cells := 3, slots := 18, locals := 144 } : Room) (PC x S sz [.ref (x.2.2 79), .int a1, .int a2, .ref (x.2.2 87)]) (QI x res.2 res.1 sz) 3 18 (AA x sz) := by
  refine va_MetW (hh := [(0, 10, 13, 13), (0, 10, 17, 15), (0, 10, 21, 17)]) (cc := cL_cyclicMultiplicity) (maxL := 5) (ret := some .int) (by decide) rfl ?_
  intro p e s m args below meth c s₁ B hml hv
  obtain ⟨rfl, rfl, hPW⟩ := hv
  have F : MF p m meth c cL_cyclicMultiplicity 5 s _ RL (some .int) := MF.of B hml
  have htab : c.exceptionTable.toList = tableOf [(0, 10, 13, 13), (0, 10, 17, 15), (0, 10, 21, 17)] := vx_table (x := yL_cyclicMultiplicity) B (atoms_spec (ws := Cond.codeWith yL_cyclicMultiplicity cL_cyclicMultiplicity 5 (some .int) [(0, 10, 13, 13), (0, 10, 17, 15), (0, 10, 21, 17)] :: GW) B.pre _ List.mem_cons_self)
  have w := WD.of hPW
  have hl := lv_entry ([.ref (x.2.2 79), .int a1, .int a2, .ref (x.2.2 87)]) (n := 5) (Nat.le_of_ble_eq_true rfl)
  rw [lg_entry_eq]
  generalize (lg_sl ([.ref (x.2.2 79), .int a1, .int a2, .ref (x.2.2 87)]) ++ List.replicate (5 - (lg_sl ([.ref (x.2.2 79), .int a1, .int a2, .ref (x.2.2 87)])).length) Slot.unset).toArray = ls at hl ⊢
  have hl : lv_has ls 5 [(0, .ref (x.2.2 79)), (1, .int a1), (2, .int a2), (3, .ref (x.2.2 87))] := hl
  exact b_L_cyclicMultiplicity F htab hls _ _ _ _ w a1 a2 hl hf
def f_L_isCyclicRuler (S : ST) (a1 : Int32) : Option (Int32 × ST) := oY (f_X8_isCyclicRuler S a1) [(1, 1), (3, 2)] (fun r S1 => some (0, sB S1 5 (vp_updL (al S1 5) (Int32.toNatClampNeg 0) (if r = 0 then 0 else 1))))
set_option maxHeartbeats 4000000 in
set_option maxRecDepth 100000 in
theorem b_L_isCyclicRuler {p : Program} {l : Launch} {e : Env} {s : State} {m : MethodId} {args : Array Value} {below : List Frame} {meth : Method} {c : Code} {x : CX} {res : Int32 × ST} (F : MF p m meth c cL_isCyclicRuler 4 s args RL (some .int)) (htab : c.exceptionTable.toList = tableOf [(0, 16, 19, 13), (0, 16, 22, 17)]) (hls : l.stackTraces = false) (H : Heap) (locs : List Loc) (ls : Array Slot) (S : ST) (w : WD x s S H locs) (a1 : Int32) (hl : lv_has ls 4 [(0, .ref (x.2.2 79)), (1, .int a1), (2, .ref (x.2.2 87))]) (hf : f_L_isCyclicRuler S a1 = some res) : W p l e ({ frames := 8, cells := 2, slots := 12, locals := 142 } : Room) s m args below meth c H locs 0 0 (MQ below (QI x res.2 res.1 s.heap.size) args s 2 12 (AA x s.heap.size)) (F0 m 0 ls []) := by
  unfold f_L_isCyclicRuler at hf
  obtain ⟨n1, r1, S1, hc, hf0, hx⟩ := oi_y hf
  refine lv_aload_n F.1 F.2.1 dL_isCyclicRuler_0 rfl (lv_at hl 2 rfl) ?_
  refine lv_iconst (v := 0) F.1 F.2.1 dL_isCyclicRuler_1 (by decide) ?_
  refine lv_aload_n F.1 F.2.1 dL_isCyclicRuler_2 rfl (lv_at hl 0 rfl) ?_
  refine lv_iload_n F.1 F.2.1 dL_isCyclicRuler_3 rfl (lv_at hl 1 rfl) ?_
  refine ky_i (S1 := S1) (n1 := n1) (r := r1) w (xrunV (As := [.int a1]) (rest := [.int 0, .ref (x.2.2 87)]) (kb := 79) F w (k_X8_isCyclicRuler l x S a1 hc hls H.size) cy_X8_isCyclicRuler q603 q604 q605 ⟨rfl, rfl⟩ ⟨Nat.le_of_ble_eq_true rfl, Nat.le_of_ble_eq_true rfl⟩ (by decide) rfl rfl rfl rfl hl.1 (Nat.le_of_ble_eq_true rfl) ⟨Nat.le_of_ble_eq_true rfl, Nat.le_of_ble_eq_true rfl⟩ dL_isCyclicRuler_4) ?_ ?_
  · intro E ce q9 H1 locs1 hE w1 hce hv hcl
    obtain ⟨c1, hc1, hr1⟩ := hx (xk_ne hE)
    simp only [XK, List.mem_cons, List.not_mem_nil, or_false] at hE
    rcases hE with hE | hE | hE
    · cases hE
      have h9 : some (1 : Int32) = some c1 := hc1
      cases h9
      refine x_catch F w1 [] 0 16 19 13 [(0, 16, 22, 17)] htab (fun z hz => absurd hz List.not_mem_nil) (by decide) (by decide) q335 (by simp [XE]) hce hv hcl ?_
      refine lv_astore_n (lv' := [(3, .ref q9), (0, .ref (x.2.2 79)), (1, .int a1), (2, .ref (x.2.2 87))]) F.1 F.2.1 dL_isCyclicRuler_19 rfl hl (by decide) rfl (fun ls hl => ?_)
      refine lv_iconst (v := 1) F.1 F.2.1 dL_isCyclicRuler_20 (by decide) ?_
      exact r_iret F w1 hr1 dL_isCyclicRuler_21
    · cases hE
      have h9 : (none : Option Int32) = some c1 := hc1
      cases h9
    · cases hE
      have h9 : some (2 : Int32) = some c1 := hc1
      cases h9
      refine x_catch F w1 [(0, 16, 19, 13)] 0 16 22 17 [] htab (fun z hz => by
        simp only [List.mem_cons, List.not_mem_nil, or_false] at hz
        rcases hz with rfl
        · exact ⟨by decide, eIO, q335, by simp [XP]⟩) (by decide) (by decide) q337 (by simp [XE]) hce hv hcl ?_
      refine lv_astore_n (lv' := [(3, .ref q9), (0, .ref (x.2.2 79)), (1, .int a1), (2, .ref (x.2.2 87))]) F.1 F.2.1 dL_isCyclicRuler_22 rfl hl (by decide) rfl (fun ls hl => ?_)
      refine lv_iconst (v := 2) F.1 F.2.1 dL_isCyclicRuler_23 (by decide) ?_
      exact r_iret F w1 hr1 dL_isCyclicRuler_24
  · intro hn H locs w
    replace hf0 := hf0 hn
    refine lv_if_eq (tgt := 14) F.1 F.2.1 dL_isCyclicRuler_7 (by decide) (fun c1 => ?_) (fun c1 => ?_)
    · rw [if_pos c1] at hf0
      refine lv_lconst (v := 0) F.1 F.2.1 dL_isCyclicRuler_14 (by decide) ?_
      refine r_last F w (k := 87) (a := 5) (n := 1) (by decide) (fun _ => rfl) rfl (by decide) dL_isCyclicRuler_15 (fun H locs w => ?_)
      refine lv_goto (tgt := 25) F.1 F.2.1 dL_isCyclicRuler_16 (by decide) ?_
      refine lv_iconst (v := 0) F.1 F.2.1 dL_isCyclicRuler_25 (by decide) ?_
      exact r_iret F w (oi_s hf0) dL_isCyclicRuler_26
    · rw [if_neg c1] at hf0
      refine lv_lconst (v := 1) F.1 F.2.1 dL_isCyclicRuler_10 (by decide) ?_
      refine lv_goto (tgt := 15) F.1 F.2.1 dL_isCyclicRuler_11 (by decide) ?_
      refine r_last F w (k := 87) (a := 5) (n := 1) (by decide) (fun _ => rfl) rfl (by decide) dL_isCyclicRuler_15 (fun H locs w => ?_)
      refine lv_goto (tgt := 25) F.1 F.2.1 dL_isCyclicRuler_16 (by decide) ?_
      refine lv_iconst (v := 0) F.1 F.2.1 dL_isCyclicRuler_25 (by decide) ?_
      exact r_iret F w (oi_s hf0) dL_isCyclicRuler_26
set_option maxHeartbeats 4000000 in
set_option maxRecDepth 100000 in
theorem k_L_isCyclicRuler (l : Launch) (x : CX) (S : ST) (a1 : Int32) {res : Int32 × ST} (hf : f_L_isCyclicRuler S a1 = some res) (hls : l.stackTraces = false) (sz : Nat) : Met l yL_isCyclicRuler (Cond.codeWith yL_isCyclicRuler cL_isCyclicRuler 4 (some .int) [(0, 16, 19, 13), (0, 16, 22, 17)] :: GW) ({ frames := 8, cells := 2, slots := 12, locals := 142 } : Room) (PC x S sz [.ref (x.2.2 79), .int a1, .ref (x.2.2 87)]) (QI x res.2 res.1 sz) 2 12 (AA x sz) := by
  refine va_MetW (hh := [(0, 16, 19, 13), (0, 16, 22, 17)]) (cc := cL_isCyclicRuler) (maxL := 4) (ret := some .int) (by decide) rfl ?_
  intro p e s m args below meth c s₁ B hml hv
  obtain ⟨rfl, rfl, hPW⟩ := hv
  have F : MF p m meth c cL_isCyclicRuler 4 s _ RL (some .int) := MF.of B hml
  have htab : c.exceptionTable.toList = tableOf [(0, 16, 19, 13), (0, 16, 22, 17)] := vx_table (x := yL_isCyclicRuler) B (atoms_spec (ws := Cond.codeWith yL_isCyclicRuler cL_isCyclicRuler 4 (some .int) [(0, 16, 19, 13), (0, 16, 22, 17)] :: GW) B.pre _ List.mem_cons_self)
  have w := WD.of hPW
  have hl := lv_entry ([.ref (x.2.2 79), .int a1, .ref (x.2.2 87)]) (n := 4) (Nat.le_of_ble_eq_true rfl)
  rw [lg_entry_eq]
  generalize (lg_sl ([.ref (x.2.2 79), .int a1, .ref (x.2.2 87)]) ++ List.replicate (4 - (lg_sl ([.ref (x.2.2 79), .int a1, .ref (x.2.2 87)])).length) Slot.unset).toArray = ls at hl ⊢
  have hl : lv_has ls 4 [(0, .ref (x.2.2 79)), (1, .int a1), (2, .ref (x.2.2 87))] := hl
  exact b_L_isCyclicRuler F htab hls _ _ _ _ w a1 hl hf
def f_L_index (S : ST) (a1 : Int32) : Option (Int32 × ST) := oY (f_X8_index S a1) [(1, 1), (3, 2)] (fun r S1 => some (0, sB S1 5 (vp_updL (al S1 5) (Int32.toNatClampNeg 0) (Int32.toInt64 r))))
set_option maxHeartbeats 4000000 in
set_option maxRecDepth 100000 in
theorem b_L_index {p : Program} {l : Launch} {e : Env} {s : State} {m : MethodId} {args : Array Value} {below : List Frame} {meth : Method} {c : Code} {x : CX} {res : Int32 × ST} (F : MF p m meth c cL_index 4 s args RL (some .int)) (htab : c.exceptionTable.toList = tableOf [(0, 9, 12, 13), (0, 9, 15, 17)]) (hls : l.stackTraces = false) (H : Heap) (locs : List Loc) (ls : Array Slot) (S : ST) (w : WD x s S H locs) (a1 : Int32) (hl : lv_has ls 4 [(0, .ref (x.2.2 79)), (1, .int a1), (2, .ref (x.2.2 87))]) (hf : f_L_index S a1 = some res) : W p l e ({ frames := 8, cells := 2, slots := 12, locals := 142 } : Room) s m args below meth c H locs 0 0 (MQ below (QI x res.2 res.1 s.heap.size) args s 2 12 (AA x s.heap.size)) (F0 m 0 ls []) := by
  unfold f_L_index at hf
  obtain ⟨n1, r1, S1, hc, hf0, hx⟩ := oi_y hf
  refine lv_aload_n F.1 F.2.1 dL_index_0 rfl (lv_at hl 2 rfl) ?_
  refine lv_iconst (v := 0) F.1 F.2.1 dL_index_1 (by decide) ?_
  refine lv_aload_n F.1 F.2.1 dL_index_2 rfl (lv_at hl 0 rfl) ?_
  refine lv_iload_n F.1 F.2.1 dL_index_3 rfl (lv_at hl 1 rfl) ?_
  refine ky_i (S1 := S1) (n1 := n1) (r := r1) w (xrunV (As := [.int a1]) (rest := [.int 0, .ref (x.2.2 87)]) (kb := 79) F w (k_X8_index l x S a1 hc hls H.size) cy_X8_index q614 q615 q616 ⟨rfl, rfl⟩ ⟨Nat.le_of_ble_eq_true rfl, Nat.le_of_ble_eq_true rfl⟩ (by decide) rfl rfl rfl rfl hl.1 (Nat.le_of_ble_eq_true rfl) ⟨Nat.le_of_ble_eq_true rfl, Nat.le_of_ble_eq_true rfl⟩ dL_index_4) ?_ ?_
  · intro E ce q9 H1 locs1 hE w1 hce hv hcl
    obtain ⟨c1, hc1, hr1⟩ := hx (xk_ne hE)
    simp only [XK, List.mem_cons, List.not_mem_nil, or_false] at hE
    rcases hE with hE | hE | hE
    · cases hE
      have h9 : some (1 : Int32) = some c1 := hc1
      cases h9
      refine x_catch F w1 [] 0 9 12 13 [(0, 9, 15, 17)] htab (fun z hz => absurd hz List.not_mem_nil) (by decide) (by decide) q335 (by simp [XE]) hce hv hcl ?_
      refine lv_astore_n (lv' := [(3, .ref q9), (0, .ref (x.2.2 79)), (1, .int a1), (2, .ref (x.2.2 87))]) F.1 F.2.1 dL_index_12 rfl hl (by decide) rfl (fun ls hl => ?_)
      refine lv_iconst (v := 1) F.1 F.2.1 dL_index_13 (by decide) ?_
      exact r_iret F w1 hr1 dL_index_14
    · cases hE
      have h9 : (none : Option Int32) = some c1 := hc1
      cases h9
    · cases hE
      have h9 : some (2 : Int32) = some c1 := hc1
      cases h9
      refine x_catch F w1 [(0, 9, 12, 13)] 0 9 15 17 [] htab (fun z hz => by
        simp only [List.mem_cons, List.not_mem_nil, or_false] at hz
        rcases hz with rfl
        · exact ⟨by decide, eIO, q335, by simp [XP]⟩) (by decide) (by decide) q337 (by simp [XE]) hce hv hcl ?_
      refine lv_astore_n (lv' := [(3, .ref q9), (0, .ref (x.2.2 79)), (1, .int a1), (2, .ref (x.2.2 87))]) F.1 F.2.1 dL_index_15 rfl hl (by decide) rfl (fun ls hl => ?_)
      refine lv_iconst (v := 2) F.1 F.2.1 dL_index_16 (by decide) ?_
      exact r_iret F w1 hr1 dL_index_17
  · intro hn H locs w
    replace hf0 := hf0 hn
    refine lv_i2l (v := Int32.toInt64 r1) F.1 F.2.1 dL_index_7 rfl ?_
    refine r_last F w (k := 87) (a := 5) (n := 1) (by decide) (fun _ => rfl) rfl (by decide) dL_index_8 (fun H locs w => ?_)
    refine lv_goto (tgt := 18) F.1 F.2.1 dL_index_9 (by decide) ?_
    refine lv_iconst (v := 0) F.1 F.2.1 dL_index_18 (by decide) ?_
    exact r_iret F w (oi_s hf0) dL_index_19
set_option maxHeartbeats 4000000 in
set_option maxRecDepth 100000 in
theorem k_L_index (l : Launch) (x : CX) (S : ST) (a1 : Int32) {res : Int32 × ST} (hf : f_L_index S a1 = some res) (hls : l.stackTraces = false) (sz : Nat) : Met l yL_index (Cond.codeWith yL_index cL_index 4 (some .int) [(0, 9, 12, 13), (0, 9, 15, 17)] :: GW) ({ frames := 8, cells := 2, slots := 12, locals := 142 } : Room) (PC x S sz [.ref (x.2.2 79), .int a1, .ref (x.2.2 87)]) (QI x res.2 res.1 sz) 2 12 (AA x sz) := by
  refine va_MetW (hh := [(0, 9, 12, 13), (0, 9, 15, 17)]) (cc := cL_index) (maxL := 4) (ret := some .int) (by decide) rfl ?_
  intro p e s m args below meth c s₁ B hml hv
  obtain ⟨rfl, rfl, hPW⟩ := hv
  have F : MF p m meth c cL_index 4 s _ RL (some .int) := MF.of B hml
  have htab : c.exceptionTable.toList = tableOf [(0, 9, 12, 13), (0, 9, 15, 17)] := vx_table (x := yL_index) B (atoms_spec (ws := Cond.codeWith yL_index cL_index 4 (some .int) [(0, 9, 12, 13), (0, 9, 15, 17)] :: GW) B.pre _ List.mem_cons_self)
  have w := WD.of hPW
  have hl := lv_entry ([.ref (x.2.2 79), .int a1, .ref (x.2.2 87)]) (n := 4) (Nat.le_of_ble_eq_true rfl)
  rw [lg_entry_eq]
  generalize (lg_sl ([.ref (x.2.2 79), .int a1, .ref (x.2.2 87)]) ++ List.replicate (4 - (lg_sl ([.ref (x.2.2 79), .int a1, .ref (x.2.2 87)])).length) Slot.unset).toArray = ls at hl ⊢
  have hl : lv_has ls 4 [(0, .ref (x.2.2 79)), (1, .int a1), (2, .ref (x.2.2 87))] := hl
  exact b_L_index F htab hls _ _ _ _ w a1 hl hf
def f_L_map (S : ST) (a1 : Int32) (a2 : Int32) (a3 : Int32) (a4 : Int32) : Option (Int32 × ST) := oY (f_X8_map S a1 a2 a3 a4) [(1, 1), (2, 2), (3, 3)] (fun r S1 => some (0, sB S1 5 (vp_updL (al S1 5) (Int32.toNatClampNeg 0) (Int32.toInt64 r))))
set_option maxHeartbeats 4000000 in
set_option maxRecDepth 100000 in
theorem b_L_map {p : Program} {l : Launch} {e : Env} {s : State} {m : MethodId} {args : Array Value} {below : List Frame} {meth : Method} {c : Code} {x : CX} {res : Int32 × ST} (F : MF p m meth c cL_map 7 s args RL (some .int)) (htab : c.exceptionTable.toList = tableOf [(0, 14, 17, 13), (0, 14, 21, 15), (0, 14, 25, 17)]) (hls : l.stackTraces = false) (H : Heap) (locs : List Loc) (ls : Array Slot) (S : ST) (w : WD x s S H locs) (a1 : Int32) (a2 : Int32) (a3 : Int32) (a4 : Int32) (hl : lv_has ls 7 [(0, .ref (x.2.2 79)), (1, .int a1), (2, .int a2), (3, .int a3), (4, .int a4), (5, .ref (x.2.2 87))]) (hf : f_L_map S a1 a2 a3 a4 = some res) : W p l e ({ frames := 8, cells := 4, slots := 24, locals := 174 } : Room) s m args below meth c H locs 0 0 (MQ below (QI x res.2 res.1 s.heap.size) args s 4 24 (AA x s.heap.size)) (F0 m 0 ls []) := by
  unfold f_L_map at hf
  obtain ⟨n1, r1, S1, hc, hf0, hx⟩ := oi_y hf
  refine lv_aload F.1 F.2.1 dL_map_0 (lv_at hl 5 rfl) ?_
  refine lv_iconst (v := 0) F.1 F.2.1 dL_map_2 (by decide) ?_
  refine lv_aload_n F.1 F.2.1 dL_map_3 rfl (lv_at hl 0 rfl) ?_
  refine lv_iload_n F.1 F.2.1 dL_map_4 rfl (lv_at hl 1 rfl) ?_
  refine lv_iload_n F.1 F.2.1 dL_map_5 rfl (lv_at hl 2 rfl) ?_
  refine lv_iload_n F.1 F.2.1 dL_map_6 rfl (lv_at hl 3 rfl) ?_
  refine lv_iload F.1 F.2.1 dL_map_7 (lv_at hl 4 rfl) ?_
  refine ky_i (S1 := S1) (n1 := n1) (r := r1) w (xrunV (As := [.int a1, .int a2, .int a3, .int a4]) (rest := [.int 0, .ref (x.2.2 87)]) (kb := 79) F w (k_X8_map l x S a1 a2 a3 a4 hc hls H.size) cy_X8_map q621 q622 q623 ⟨rfl, rfl⟩ ⟨Nat.le_of_ble_eq_true rfl, Nat.le_of_ble_eq_true rfl⟩ (by decide) rfl rfl rfl rfl hl.1 (Nat.le_of_ble_eq_true rfl) ⟨Nat.le_of_ble_eq_true rfl, Nat.le_of_ble_eq_true rfl⟩ dL_map_9) ?_ ?_
  · intro E ce q9 H1 locs1 hE w1 hce hv hcl
    obtain ⟨c1, hc1, hr1⟩ := hx (xk_ne hE)
    simp only [XK, List.mem_cons, List.not_mem_nil, or_false] at hE
    rcases hE with hE | hE | hE
    · cases hE
      have h9 : some (1 : Int32) = some c1 := hc1
      cases h9
      refine x_catch F w1 [] 0 14 17 13 [(0, 14, 21, 15), (0, 14, 25, 17)] htab (fun z hz => absurd hz List.not_mem_nil) (by decide) (by decide) q335 (by simp [XE]) hce hv hcl ?_
      refine lv_astore (lv' := [(6, .ref q9), (0, .ref (x.2.2 79)), (1, .int a1), (2, .int a2), (3, .int a3), (4, .int a4), (5, .ref (x.2.2 87))]) F.1 F.2.1 dL_map_17 hl (by decide) rfl (fun ls hl => ?_)
      refine lv_iconst (v := 1) F.1 F.2.1 dL_map_19 (by decide) ?_
      exact r_iret F w1 hr1 dL_map_20
    · cases hE
      have h9 : some (2 : Int32) = some c1 := hc1
      cases h9
      refine x_catch F w1 [(0, 14, 17, 13)] 0 14 21 15 [(0, 14, 25, 17)] htab (fun z hz => by
        simp only [List.mem_cons, List.not_mem_nil, or_false] at hz
        rcases hz with rfl
        · exact ⟨by decide, eIO, q335, by simp [XP]⟩) (by decide) (by decide) q336 (by simp [XE]) hce hv hcl ?_
      refine lv_astore (lv' := [(6, .ref q9), (0, .ref (x.2.2 79)), (1, .int a1), (2, .int a2), (3, .int a3), (4, .int a4), (5, .ref (x.2.2 87))]) F.1 F.2.1 dL_map_21 hl (by decide) rfl (fun ls hl => ?_)
      refine lv_iconst (v := 2) F.1 F.2.1 dL_map_23 (by decide) ?_
      exact r_iret F w1 hr1 dL_map_24
    · cases hE
      have h9 : some (3 : Int32) = some c1 := hc1
      cases h9
      refine x_catch F w1 [(0, 14, 17, 13), (0, 14, 21, 15)] 0 14 25 17 [] htab (fun z hz => by
        simp only [List.mem_cons, List.not_mem_nil, or_false] at hz
        rcases hz with rfl | rfl
        · exact ⟨by decide, eIO, q335, by simp [XP]⟩
        · exact ⟨by decide, eIA, q336, by simp [XP]⟩) (by decide) (by decide) q337 (by simp [XE]) hce hv hcl ?_
      refine lv_astore (lv' := [(6, .ref q9), (0, .ref (x.2.2 79)), (1, .int a1), (2, .int a2), (3, .int a3), (4, .int a4), (5, .ref (x.2.2 87))]) F.1 F.2.1 dL_map_25 hl (by decide) rfl (fun ls hl => ?_)
      refine lv_iconst (v := 3) F.1 F.2.1 dL_map_27 (by decide) ?_
      exact r_iret F w1 hr1 dL_map_28
  · intro hn H locs w
    replace hf0 := hf0 hn
    refine lv_i2l (v := Int32.toInt64 r1) F.1 F.2.1 dL_map_12 rfl ?_
    refine r_last F w (k := 87) (a := 5) (n := 1) (by decide) (fun _ => rfl) rfl (by decide) dL_map_13 (fun H locs w => ?_)
    refine lv_goto (tgt := 29) F.1 F.2.1 dL_map_14 (by decide) ?_
    refine lv_iconst (v := 0) F.1 F.2.1 dL_map_29 (by decide) ?_
    exact r_iret F w (oi_s hf0) dL_map_30
set_option maxHeartbeats 4000000 in
set_option maxRecDepth 100000 in
theorem k_L_map (l : Launch) (x : CX) (S : ST) (a1 : Int32) (a2 : Int32) (a3 : Int32) (a4 : Int32) {res : Int32 × ST} (hf : f_L_map S a1 a2 a3 a4 = some res) (hls : l.stackTraces = false) (sz : Nat) : Met l yL_map (Cond.codeWith yL_map cL_map 7 (some .int) [(0, 14, 17, 13), (0, 14, 21, 15), (0, 14, 25, 17)] :: GW) ({ frames := 8, cells := 4, slots := 24, locals := 174 } : Room) (PC x S sz [.ref (x.2.2 79), .int a1, .int a2, .int a3, .int a4, .ref (x.2.2 87)]) (QI x res.2 res.1 sz) 4 24 (AA x sz) := by
  refine va_MetW (hh := [(0, 14, 17, 13), (0, 14, 21, 15), (0, 14, 25, 17)]) (cc := cL_map) (maxL := 7) (ret := some .int) (by decide) rfl ?_
  intro p e s m args below meth c s₁ B hml hv
  obtain ⟨rfl, rfl, hPW⟩ := hv
  have F : MF p m meth c cL_map 7 s _ RL (some .int) := MF.of B hml
  have htab : c.exceptionTable.toList = tableOf [(0, 14, 17, 13), (0, 14, 21, 15), (0, 14, 25, 17)] := vx_table (x := yL_map) B (atoms_spec (ws := Cond.codeWith yL_map cL_map 7 (some .int) [(0, 14, 17, 13), (0, 14, 21, 15), (0, 14, 25, 17)] :: GW) B.pre _ List.mem_cons_self)
  have w := WD.of hPW
  have hl := lv_entry ([.ref (x.2.2 79), .int a1, .int a2, .int a3, .int a4, .ref (x.2.2 87)]) (n := 7) (Nat.le_of_ble_eq_true rfl)
  rw [lg_entry_eq]
  generalize (lg_sl ([.ref (x.2.2 79), .int a1, .int a2, .int a3, .int a4, .ref (x.2.2 87)]) ++ List.replicate (7 - (lg_sl ([.ref (x.2.2 79), .int a1, .int a2, .int a3, .int a4, .ref (x.2.2 87)])).length) Slot.unset).toArray = ls at hl ⊢
  have hl : lv_has ls 7 [(0, .ref (x.2.2 79)), (1, .int a1), (2, .int a2), (3, .int a3), (4, .int a4), (5, .ref (x.2.2 87))] := hl
  exact b_L_map F htab hls _ _ _ _ w a1 a2 a3 a4 hl hf
def f_L_complement (S : ST) (a1 : Int32) (a2 : Int32) : Option (Int32 × ST) := oY (f_X8_complement S a1 a2) [(1, 1), (3, 2)] (fun r S1 => some (0, sB S1 5 (vp_updL (al S1 5) (Int32.toNatClampNeg 0) (Int32.toInt64 r))))
set_option maxHeartbeats 4000000 in
set_option maxRecDepth 100000 in
theorem b_L_complement {p : Program} {l : Launch} {e : Env} {s : State} {m : MethodId} {args : Array Value} {below : List Frame} {meth : Method} {c : Code} {x : CX} {res : Int32 × ST} (F : MF p m meth c cL_complement 5 s args RL (some .int)) (htab : c.exceptionTable.toList = tableOf [(0, 10, 13, 13), (0, 10, 17, 17)]) (hls : l.stackTraces = false) (H : Heap) (locs : List Loc) (ls : Array Slot) (S : ST) (w : WD x s S H locs) (a1 : Int32) (a2 : Int32) (hl : lv_has ls 5 [(0, .ref (x.2.2 79)), (1, .int a1), (2, .int a2), (3, .ref (x.2.2 87))]) (hf : f_L_complement S a1 a2 = some res) : W p l e ({ frames := 8, cells := 4, slots := 24, locals := 173 } : Room) s m args below meth c H locs 0 0 (MQ below (QI x res.2 res.1 s.heap.size) args s 4 24 (AA x s.heap.size)) (F0 m 0 ls []) := by
  unfold f_L_complement at hf
  obtain ⟨n1, r1, S1, hc, hf0, hx⟩ := oi_y hf
  refine lv_aload_n F.1 F.2.1 dL_complement_0 rfl (lv_at hl 3 rfl) ?_
  refine lv_iconst (v := 0) F.1 F.2.1 dL_complement_1 (by decide) ?_
  refine lv_aload_n F.1 F.2.1 dL_complement_2 rfl (lv_at hl 0 rfl) ?_
  refine lv_iload_n F.1 F.2.1 dL_complement_3 rfl (lv_at hl 1 rfl) ?_
  refine lv_iload_n F.1 F.2.1 dL_complement_4 rfl (lv_at hl 2 rfl) ?_
  refine ky_i (S1 := S1) (n1 := n1) (r := r1) w (xrunV (As := [.int a1, .int a2]) (rest := [.int 0, .ref (x.2.2 87)]) (kb := 79) F w (k_X8_complement l x S a1 a2 hc hls H.size) cy_X8_complement q648 q649 q650 ⟨rfl, rfl⟩ ⟨Nat.le_of_ble_eq_true rfl, Nat.le_of_ble_eq_true rfl⟩ (by decide) rfl rfl rfl rfl hl.1 (Nat.le_of_ble_eq_true rfl) ⟨Nat.le_of_ble_eq_true rfl, Nat.le_of_ble_eq_true rfl⟩ dL_complement_5) ?_ ?_
  · intro E ce q9 H1 locs1 hE w1 hce hv hcl
    obtain ⟨c1, hc1, hr1⟩ := hx (xk_ne hE)
    simp only [XK, List.mem_cons, List.not_mem_nil, or_false] at hE
    rcases hE with hE | hE | hE
    · cases hE
      have h9 : some (1 : Int32) = some c1 := hc1
      cases h9
      refine x_catch F w1 [] 0 10 13 13 [(0, 10, 17, 17)] htab (fun z hz => absurd hz List.not_mem_nil) (by decide) (by decide) q335 (by simp [XE]) hce hv hcl ?_
      refine lv_astore (lv' := [(4, .ref q9), (0, .ref (x.2.2 79)), (1, .int a1), (2, .int a2), (3, .ref (x.2.2 87))]) F.1 F.2.1 dL_complement_13 hl (by decide) rfl (fun ls hl => ?_)
      refine lv_iconst (v := 1) F.1 F.2.1 dL_complement_15 (by decide) ?_
      exact r_iret F w1 hr1 dL_complement_16
    · cases hE
      have h9 : (none : Option Int32) = some c1 := hc1
      cases h9
    · cases hE
      have h9 : some (2 : Int32) = some c1 := hc1
      cases h9
      refine x_catch F w1 [(0, 10, 13, 13)] 0 10 17 17 [] htab (fun z hz => by
        simp only [List.mem_cons, List.not_mem_nil, or_false] at hz
        rcases hz with rfl
        · exact ⟨by decide, eIO, q335, by simp [XP]⟩) (by decide) (by decide) q337 (by simp [XE]) hce hv hcl ?_
      refine lv_astore (lv' := [(4, .ref q9), (0, .ref (x.2.2 79)), (1, .int a1), (2, .int a2), (3, .ref (x.2.2 87))]) F.1 F.2.1 dL_complement_17 hl (by decide) rfl (fun ls hl => ?_)
      refine lv_iconst (v := 2) F.1 F.2.1 dL_complement_19 (by decide) ?_
      exact r_iret F w1 hr1 dL_complement_20
  · intro hn H locs w
    replace hf0 := hf0 hn
    refine lv_i2l (v := Int32.toInt64 r1) F.1 F.2.1 dL_complement_8 rfl ?_
    refine r_last F w (k := 87) (a := 5) (n := 1) (by decide) (fun _ => rfl) rfl (by decide) dL_complement_9 (fun H locs w => ?_)
    refine lv_goto (tgt := 21) F.1 F.2.1 dL_complement_10 (by decide) ?_
    refine lv_iconst (v := 0) F.1 F.2.1 dL_complement_21 (by decide) ?_
    exact r_iret F w (oi_s hf0) dL_complement_22
set_option maxHeartbeats 4000000 in
set_option maxRecDepth 100000 in
theorem k_L_complement (l : Launch) (x : CX) (S : ST) (a1 : Int32) (a2 : Int32) {res : Int32 × ST} (hf : f_L_complement S a1 a2 = some res) (hls : l.stackTraces = false) (sz : Nat) : Met l yL_complement (Cond.codeWith yL_complement cL_complement 5 (some .int) [(0, 10, 13, 13), (0, 10, 17, 17)] :: GW) ({ frames := 8, cells := 4, slots := 24, locals := 173 } : Room) (PC x S sz [.ref (x.2.2 79), .int a1, .int a2, .ref (x.2.2 87)]) (QI x res.2 res.1 sz) 4 24 (AA x sz) := by
  refine va_MetW (hh := [(0, 10, 13, 13), (0, 10, 17, 17)]) (cc := cL_complement) (maxL := 5) (ret := some .int) (by decide) rfl ?_
  intro p e s m args below meth c s₁ B hml hv
  obtain ⟨rfl, rfl, hPW⟩ := hv
  have F : MF p m meth c cL_complement 5 s _ RL (some .int) := MF.of B hml
  have htab : c.exceptionTable.toList = tableOf [(0, 10, 13, 13), (0, 10, 17, 17)] := vx_table (x := yL_complement) B (atoms_spec (ws := Cond.codeWith yL_complement cL_complement 5 (some .int) [(0, 10, 13, 13), (0, 10, 17, 17)] :: GW) B.pre _ List.mem_cons_self)
  have w := WD.of hPW
  have hl := lv_entry ([.ref (x.2.2 79), .int a1, .int a2, .ref (x.2.2 87)]) (n := 5) (Nat.le_of_ble_eq_true rfl)
  rw [lg_entry_eq]
  generalize (lg_sl ([.ref (x.2.2 79), .int a1, .int a2, .ref (x.2.2 87)]) ++ List.replicate (5 - (lg_sl ([.ref (x.2.2 79), .int a1, .int a2, .ref (x.2.2 87)])).length) Slot.unset).toArray = ls at hl ⊢
  have hl : lv_has ls 5 [(0, .ref (x.2.2 79)), (1, .int a1), (2, .int a2), (3, .ref (x.2.2 87))] := hl
  exact b_L_complement F htab hls _ _ _ _ w a1 a2 hl hf
def f_L_reflect (S : ST) (a1 : Int32) (a2 : Int32) : Option (Int32 × ST) := oY (f_X8_reflect S a1 a2) [(1, 1)] (fun r S1 => some (0, sB S1 5 (vp_updL (al S1 5) (Int32.toNatClampNeg 0) (Int32.toInt64 r))))
set_option maxHeartbeats 4000000 in
set_option maxRecDepth 100000 in
theorem b_L_reflect {p : Program} {l : Launch} {e : Env} {s : State} {m : MethodId} {args : Array Value} {below : List Frame} {meth : Method} {c : Code} {x : CX} {res : Int32 × ST} (F : MF p m meth c cL_reflect 5 s args RL (some .int)) (htab : c.exceptionTable.toList = tableOf [(0, 10, 13, 13)]) (hls : l.stackTraces = false) (H : Heap) (locs : List Loc) (ls : Array Slot) (S : ST) (w : WD x s S H locs) (a1 : Int32) (a2 : Int32) (hl : lv_has ls 5 [(0, .ref (x.2.2 79)), (1, .int a1), (2, .int a2), (3, .ref (x.2.2 87))]) (hf : f_L_reflect S a1 a2 = some res) : W p l e ({ frames := 8, cells := 2, slots := 12, locals := 174 } : Room) s m args below meth c H locs 0 0 (MQ below (QI x res.2 res.1 s.heap.size) args s 2 12 (AA x s.heap.size)) (F0 m 0 ls []) := by
  unfold f_L_reflect at hf
  obtain ⟨n1, r1, S1, hc, hf0, hx⟩ := oi_y hf
  refine lv_aload_n F.1 F.2.1 dL_reflect_0 rfl (lv_at hl 3 rfl) ?_
  refine lv_iconst (v := 0) F.1 F.2.1 dL_reflect_1 (by decide) ?_
  refine lv_aload_n F.1 F.2.1 dL_reflect_2 rfl (lv_at hl 0 rfl) ?_
  refine lv_iload_n F.1 F.2.1 dL_reflect_3 rfl (lv_at hl 1 rfl) ?_
  refine lv_iload_n F.1 F.2.1 dL_reflect_4 rfl (lv_at hl 2 rfl) ?_
  refine ky_i (S1 := S1) (n1 := n1) (r := r1) w (xrunV (As := [.int a1, .int a2]) (rest := [.int 0, .ref (x.2.2 87)]) (kb := 79) F w (k_X8_reflect l x S a1 a2 hc hls H.size) cy_X8_reflect q657 q658 q659 ⟨rfl, rfl⟩ ⟨Nat.le_of_ble_eq_true rfl, Nat.le_of_ble_eq_true rfl⟩ (by decide) rfl rfl rfl rfl hl.1 (Nat.le_of_ble_eq_true rfl) ⟨Nat.le_of_ble_eq_true rfl, Nat.le_of_ble_eq_true rfl⟩ dL_reflect_5) ?_ ?_
  · intro E ce q9 H1 locs1 hE w1 hce hv hcl
    obtain ⟨c1, hc1, hr1⟩ := hx (xk_ne hE)
    simp only [XK, List.mem_cons, List.not_mem_nil, or_false] at hE
    rcases hE with hE | hE | hE
    · cases hE
      have h9 : some (1 : Int32) = some c1 := hc1
      cases h9
      refine x_catch F w1 [] 0 10 13 13 [] htab (fun z hz => absurd hz List.not_mem_nil) (by decide) (by decide) q335 (by simp [XE]) hce hv hcl ?_
      refine lv_astore (lv' := [(4, .ref q9), (0, .ref (x.2.2 79)), (1, .int a1), (2, .int a2), (3, .ref (x.2.2 87))]) F.1 F.2.1 dL_reflect_13 hl (by decide) rfl (fun ls hl => ?_)
      refine lv_iconst (v := 1) F.1 F.2.1 dL_reflect_15 (by decide) ?_
      exact r_iret F w1 hr1 dL_reflect_16
    · cases hE
      have h9 : (none : Option Int32) = some c1 := hc1
      cases h9
    · cases hE
      have h9 : (none : Option Int32) = some c1 := hc1
      cases h9
  · intro hn H locs w
    replace hf0 := hf0 hn
    refine lv_i2l (v := Int32.toInt64 r1) F.1 F.2.1 dL_reflect_8 rfl ?_
    refine r_last F w (k := 87) (a := 5) (n := 1) (by decide) (fun _ => rfl) rfl (by decide) dL_reflect_9 (fun H locs w => ?_)
    refine lv_goto (tgt := 17) F.1 F.2.1 dL_reflect_10 (by decide) ?_
    refine lv_iconst (v := 0) F.1 F.2.1 dL_reflect_17 (by decide) ?_
    exact r_iret F w (oi_s hf0) dL_reflect_18
set_option maxHeartbeats 4000000 in
set_option maxRecDepth 100000 in
theorem k_L_reflect (l : Launch) (x : CX) (S : ST) (a1 : Int32) (a2 : Int32) {res : Int32 × ST} (hf : f_L_reflect S a1 a2 = some res) (hls : l.stackTraces = false) (sz : Nat) : Met l yL_reflect (Cond.codeWith yL_reflect cL_reflect 5 (some .int) [(0, 10, 13, 13)] :: GW) ({ frames := 8, cells := 2, slots := 12, locals := 174 } : Room) (PC x S sz [.ref (x.2.2 79), .int a1, .int a2, .ref (x.2.2 87)]) (QI x res.2 res.1 sz) 2 12 (AA x sz) := by
  refine va_MetW (hh := [(0, 10, 13, 13)]) (cc := cL_reflect) (maxL := 5) (ret := some .int) (by decide) rfl ?_
  intro p e s m args below meth c s₁ B hml hv
  obtain ⟨rfl, rfl, hPW⟩ := hv
  have F : MF p m meth c cL_reflect 5 s _ RL (some .int) := MF.of B hml
  have htab : c.exceptionTable.toList = tableOf [(0, 10, 13, 13)] := vx_table (x := yL_reflect) B (atoms_spec (ws := Cond.codeWith yL_reflect cL_reflect 5 (some .int) [(0, 10, 13, 13)] :: GW) B.pre _ List.mem_cons_self)
  have w := WD.of hPW
  have hl := lv_entry ([.ref (x.2.2 79), .int a1, .int a2, .ref (x.2.2 87)]) (n := 5) (Nat.le_of_ble_eq_true rfl)
  rw [lg_entry_eq]
  generalize (lg_sl ([.ref (x.2.2 79), .int a1, .int a2, .ref (x.2.2 87)]) ++ List.replicate (5 - (lg_sl ([.ref (x.2.2 79), .int a1, .int a2, .ref (x.2.2 87)])).length) Slot.unset).toArray = ls at hl ⊢
  have hl : lv_has ls 5 [(0, .ref (x.2.2 79)), (1, .int a1), (2, .int a2), (3, .ref (x.2.2 87))] := hl
  exact b_L_reflect F htab hls _ _ _ _ w a1 a2 hl hf
def f_L_multipliers (S : ST) (a1 : Int32) : Option (Int32 × ST) := oY (f_X8_multipliers S a1) [(1, 1), (3, 2)] (fun r S1 => some (0, sB S1 5 (vp_updL (al S1 5) (Int32.toNatClampNeg 0) (Int32.toInt64 r))))
set_option maxHeartbeats 4000000 in
set_option maxRecDepth 100000 in
theorem b_L_multipliers {p : Program} {l : Launch} {e : Env} {s : State} {m : MethodId} {args : Array Value} {below : List Frame} {meth : Method} {c : Code} {x : CX} {res : Int32 × ST} (F : MF p m meth c cL_multipliers 4 s args RL (some .int)) (htab : c.exceptionTable.toList = tableOf [(0, 9, 12, 13), (0, 9, 15, 17)]) (hls : l.stackTraces = false) (H : Heap) (locs : List Loc) (ls : Array Slot) (S : ST) (w : WD x s S H locs) (a1 : Int32) (hl : lv_has ls 4 [(0, .ref (x.2.2 79)), (1, .int a1), (2, .ref (x.2.2 87))]) (hf : f_L_multipliers S a1 = some res) : W p l e ({ frames := 8, cells := 2, slots := 12, locals := 142 } : Room) s m args below meth c H locs 0 0 (MQ below (QI x res.2 res.1 s.heap.size) args s 2 12 (AA x s.heap.size)) (F0 m 0 ls []) := by
  unfold f_L_multipliers at hf
  obtain ⟨n1, r1, S1, hc, hf0, hx⟩ := oi_y hf
  refine lv_aload_n F.1 F.2.1 dL_multipliers_0 rfl (lv_at hl 2 rfl) ?_
  refine lv_iconst (v := 0) F.1 F.2.1 dL_multipliers_1 (by decide) ?_
  refine lv_aload_n F.1 F.2.1 dL_multipliers_2 rfl (lv_at hl 0 rfl) ?_
  refine lv_iload_n F.1 F.2.1 dL_multipliers_3 rfl (lv_at hl 1 rfl) ?_
  refine ky_i (S1 := S1) (n1 := n1) (r := r1) w (xrunV (As := [.int a1]) (rest := [.int 0, .ref (x.2.2 87)]) (kb := 79) F w (k_X8_multipliers l x S a1 hc hls H.size) cy_X8_multipliers q664 q665 q666 ⟨rfl, rfl⟩ ⟨Nat.le_of_ble_eq_true rfl, Nat.le_of_ble_eq_true rfl⟩ (by decide) rfl rfl rfl rfl hl.1 (Nat.le_of_ble_eq_true rfl) ⟨Nat.le_of_ble_eq_true rfl, Nat.le_of_ble_eq_true rfl⟩ dL_multipliers_4) ?_ ?_
  · intro E ce q9 H1 locs1 hE w1 hce hv hcl
    obtain ⟨c1, hc1, hr1⟩ := hx (xk_ne hE)
    simp only [XK, List.mem_cons, List.not_mem_nil, or_false] at hE
    rcases hE with hE | hE | hE
    · cases hE
      have h9 : some (1 : Int32) = some c1 := hc1
      cases h9
      refine x_catch F w1 [] 0 9 12 13 [(0, 9, 15, 17)] htab (fun z hz => absurd hz List.not_mem_nil) (by decide) (by decide) q335 (by simp [XE]) hce hv hcl ?_
      refine lv_astore_n (lv' := [(3, .ref q9), (0, .ref (x.2.2 79)), (1, .int a1), (2, .ref (x.2.2 87))]) F.1 F.2.1 dL_multipliers_12 rfl hl (by decide) rfl (fun ls hl => ?_)
      refine lv_iconst (v := 1) F.1 F.2.1 dL_multipliers_13 (by decide) ?_
      exact r_iret F w1 hr1 dL_multipliers_14
    · cases hE
      have h9 : (none : Option Int32) = some c1 := hc1
      cases h9
    · cases hE
      have h9 : some (2 : Int32) = some c1 := hc1
      cases h9
      refine x_catch F w1 [(0, 9, 12, 13)] 0 9 15 17 [] htab (fun z hz => by
        simp only [List.mem_cons, List.not_mem_nil, or_false] at hz
        rcases hz with rfl
        · exact ⟨by decide, eIO, q335, by simp [XP]⟩) (by decide) (by decide) q337 (by simp [XE]) hce hv hcl ?_
      refine lv_astore_n (lv' := [(3, .ref q9), (0, .ref (x.2.2 79)), (1, .int a1), (2, .ref (x.2.2 87))]) F.1 F.2.1 dL_multipliers_15 rfl hl (by decide) rfl (fun ls hl => ?_)
      refine lv_iconst (v := 2) F.1 F.2.1 dL_multipliers_16 (by decide) ?_
      exact r_iret F w1 hr1 dL_multipliers_17
  · intro hn H locs w
    replace hf0 := hf0 hn
    refine lv_i2l (v := Int32.toInt64 r1) F.1 F.2.1 dL_multipliers_7 rfl ?_
    refine r_last F w (k := 87) (a := 5) (n := 1) (by decide) (fun _ => rfl) rfl (by decide) dL_multipliers_8 (fun H locs w => ?_)
    refine lv_goto (tgt := 18) F.1 F.2.1 dL_multipliers_9 (by decide) ?_
    refine lv_iconst (v := 0) F.1 F.2.1 dL_multipliers_18 (by decide) ?_
    exact r_iret F w (oi_s hf0) dL_multipliers_19
set_option maxHeartbeats 4000000 in
set_option maxRecDepth 100000 in
theorem k_L_multipliers (l : Launch) (x : CX) (S : ST) (a1 : Int32) {res : Int32 × ST} (hf : f_L_multipliers S a1 = some res) (hls : l.stackTraces = false) (sz : Nat) : Met l yL_multipliers (Cond.codeWith yL_multipliers cL_multipliers 4 (some .int) [(0, 9, 12, 13), (0, 9, 15, 17)] :: GW) ({ frames := 8, cells := 2, slots := 12, locals := 142 } : Room) (PC x S sz [.ref (x.2.2 79), .int a1, .ref (x.2.2 87)]) (QI x res.2 res.1 sz) 2 12 (AA x sz) := by
  refine va_MetW (hh := [(0, 9, 12, 13), (0, 9, 15, 17)]) (cc := cL_multipliers) (maxL := 4) (ret := some .int) (by decide) rfl ?_
  intro p e s m args below meth c s₁ B hml hv
  obtain ⟨rfl, rfl, hPW⟩ := hv
  have F : MF p m meth c cL_multipliers 4 s _ RL (some .int) := MF.of B hml
  have htab : c.exceptionTable.toList = tableOf [(0, 9, 12, 13), (0, 9, 15, 17)] := vx_table (x := yL_multipliers) B (atoms_spec (ws := Cond.codeWith yL_multipliers cL_multipliers 4 (some .int) [(0, 9, 12, 13), (0, 9, 15, 17)] :: GW) B.pre _ List.mem_cons_self)
  have w := WD.of hPW
  have hl := lv_entry ([.ref (x.2.2 79), .int a1, .ref (x.2.2 87)]) (n := 4) (Nat.le_of_ble_eq_true rfl)
  rw [lg_entry_eq]
  generalize (lg_sl ([.ref (x.2.2 79), .int a1, .ref (x.2.2 87)]) ++ List.replicate (4 - (lg_sl ([.ref (x.2.2 79), .int a1, .ref (x.2.2 87)])).length) Slot.unset).toArray = ls at hl ⊢
  have hl : lv_has ls 4 [(0, .ref (x.2.2 79)), (1, .int a1), (2, .ref (x.2.2 87))] := hl
  exact b_L_multipliers F htab hls _ _ _ _ w a1 hl hf
def f_L_canonical (S : ST) (a1 : Int32) (a2 : Int32) : Option (Int32 × ST) := oY (f_X8_canonical S a1 a2) [(1, 1), (3, 2)] (fun r S1 => some (0, sB S1 5 (vp_updL (al S1 5) (Int32.toNatClampNeg 0) (Int32.toInt64 r))))
set_option maxHeartbeats 4000000 in
set_option maxRecDepth 100000 in
theorem b_L_canonical {p : Program} {l : Launch} {e : Env} {s : State} {m : MethodId} {args : Array Value} {below : List Frame} {meth : Method} {c : Code} {x : CX} {res : Int32 × ST} (F : MF p m meth c cL_canonical 5 s args RL (some .int)) (htab : c.exceptionTable.toList = tableOf [(0, 10, 13, 13), (0, 10, 17, 17)]) (hls : l.stackTraces = false) (H : Heap) (locs : List Loc) (ls : Array Slot) (S : ST) (w : WD x s S H locs) (a1 : Int32) (a2 : Int32) (hl : lv_has ls 5 [(0, .ref (x.2.2 79)), (1, .int a1), (2, .int a2), (3, .ref (x.2.2 87))]) (hf : f_L_canonical S a1 a2 = some res) : W p l e ({ frames := 8, cells := 4, slots := 24, locals := 172 } : Room) s m args below meth c H locs 0 0 (MQ below (QI x res.2 res.1 s.heap.size) args s 4 24 (AA x s.heap.size)) (F0 m 0 ls []) := by
  unfold f_L_canonical at hf
  obtain ⟨n1, r1, S1, hc, hf0, hx⟩ := oi_y hf
  refine lv_aload_n F.1 F.2.1 dL_canonical_0 rfl (lv_at hl 3 rfl) ?_
  refine lv_iconst (v := 0) F.1 F.2.1 dL_canonical_1 (by decide) ?_
  refine lv_aload_n F.1 F.2.1 dL_canonical_2 rfl (lv_at hl 0 rfl) ?_
  refine lv_iload_n F.1 F.2.1 dL_canonical_3 rfl (lv_at hl 1 rfl) ?_
  refine lv_iload_n F.1 F.2.1 dL_canonical_4 rfl (lv_at hl 2 rfl) ?_
  refine ky_i (S1 := S1) (n1 := n1) (r := r1) w (xrunV (As := [.int a1, .int a2]) (rest := [.int 0, .ref (x.2.2 87)]) (kb := 79) F w (k_X8_canonical l x S a1 a2 hc hls H.size) cy_X8_canonical q671 q672 q673 ⟨rfl, rfl⟩ ⟨Nat.le_of_ble_eq_true rfl, Nat.le_of_ble_eq_true rfl⟩ (by decide) rfl rfl rfl rfl hl.1 (Nat.le_of_ble_eq_true rfl) ⟨Nat.le_of_ble_eq_true rfl, Nat.le_of_ble_eq_true rfl⟩ dL_canonical_5) ?_ ?_
  · intro E ce q9 H1 locs1 hE w1 hce hv hcl
    obtain ⟨c1, hc1, hr1⟩ := hx (xk_ne hE)
    simp only [XK, List.mem_cons, List.not_mem_nil, or_false] at hE
    rcases hE with hE | hE | hE
    · cases hE
      have h9 : some (1 : Int32) = some c1 := hc1
      cases h9
      refine x_catch F w1 [] 0 10 13 13 [(0, 10, 17, 17)] htab (fun z hz => absurd hz List.not_mem_nil) (by decide) (by decide) q335 (by simp [XE]) hce hv hcl ?_
      refine lv_astore (lv' := [(4, .ref q9), (0, .ref (x.2.2 79)), (1, .int a1), (2, .int a2), (3, .ref (x.2.2 87))]) F.1 F.2.1 dL_canonical_13 hl (by decide) rfl (fun ls hl => ?_)
      refine lv_iconst (v := 1) F.1 F.2.1 dL_canonical_15 (by decide) ?_
      exact r_iret F w1 hr1 dL_canonical_16
    · cases hE
      have h9 : (none : Option Int32) = some c1 := hc1
      cases h9
    · cases hE
      have h9 : some (2 : Int32) = some c1 := hc1
      cases h9
      refine x_catch F w1 [(0, 10, 13, 13)] 0 10 17 17 [] htab (fun z hz => by
        simp only [List.mem_cons, List.not_mem_nil, or_false] at hz
        rcases hz with rfl
        · exact ⟨by decide, eIO, q335, by simp [XP]⟩) (by decide) (by decide) q337 (by simp [XE]) hce hv hcl ?_
      refine lv_astore (lv' := [(4, .ref q9), (0, .ref (x.2.2 79)), (1, .int a1), (2, .int a2), (3, .ref (x.2.2 87))]) F.1 F.2.1 dL_canonical_17 hl (by decide) rfl (fun ls hl => ?_)
      refine lv_iconst (v := 2) F.1 F.2.1 dL_canonical_19 (by decide) ?_
      exact r_iret F w1 hr1 dL_canonical_20
  · intro hn H locs w
    replace hf0 := hf0 hn
    refine lv_i2l (v := Int32.toInt64 r1) F.1 F.2.1 dL_canonical_8 rfl ?_
    refine r_last F w (k := 87) (a := 5) (n := 1) (by decide) (fun _ => rfl) rfl (by decide) dL_canonical_9 (fun H locs w => ?_)
    refine lv_goto (tgt := 21) F.1 F.2.1 dL_canonical_10 (by decide) ?_
    refine lv_iconst (v := 0) F.1 F.2.1 dL_canonical_21 (by decide) ?_
    exact r_iret F w (oi_s hf0) dL_canonical_22
set_option maxHeartbeats 4000000 in
set_option maxRecDepth 100000 in
theorem k_L_canonical (l : Launch) (x : CX) (S : ST) (a1 : Int32) (a2 : Int32) {res : Int32 × ST} (hf : f_L_canonical S a1 a2 = some res) (hls : l.stackTraces = false) (sz : Nat) : Met l yL_canonical (Cond.codeWith yL_canonical cL_canonical 5 (some .int) [(0, 10, 13, 13), (0, 10, 17, 17)] :: GW) ({ frames := 8, cells := 4, slots := 24, locals := 172 } : Room) (PC x S sz [.ref (x.2.2 79), .int a1, .int a2, .ref (x.2.2 87)]) (QI x res.2 res.1 sz) 4 24 (AA x sz) := by
  refine va_MetW (hh := [(0, 10, 13, 13), (0, 10, 17, 17)]) (cc := cL_canonical) (maxL := 5) (ret := some .int) (by decide) rfl ?_
  intro p e s m args below meth c s₁ B hml hv
  obtain ⟨rfl, rfl, hPW⟩ := hv
  have F : MF p m meth c cL_canonical 5 s _ RL (some .int) := MF.of B hml
  have htab : c.exceptionTable.toList = tableOf [(0, 10, 13, 13), (0, 10, 17, 17)] := vx_table (x := yL_canonical) B (atoms_spec (ws := Cond.codeWith yL_canonical cL_canonical 5 (some .int) [(0, 10, 13, 13), (0, 10, 17, 17)] :: GW) B.pre _ List.mem_cons_self)
  have w := WD.of hPW
  have hl := lv_entry ([.ref (x.2.2 79), .int a1, .int a2, .ref (x.2.2 87)]) (n := 5) (Nat.le_of_ble_eq_true rfl)
  rw [lg_entry_eq]
  generalize (lg_sl ([.ref (x.2.2 79), .int a1, .int a2, .ref (x.2.2 87)]) ++ List.replicate (5 - (lg_sl ([.ref (x.2.2 79), .int a1, .int a2, .ref (x.2.2 87)])).length) Slot.unset).toArray = ls at hl ⊢
  have hl : lv_has ls 5 [(0, .ref (x.2.2 79)), (1, .int a1), (2, .int a2), (3, .ref (x.2.2 87))] := hl
  exact b_L_canonical F htab hls _ _ _ _ w a1 a2 hl hf
def f_L_erdosTuran (S : ST) (a1 : Int32) (a2 : Int32) : Option (Int32 × ST) := oY (f_X8_erdosTuran S a1 a2) [(1, 1), (2, 2)] (fun r S1 => some (0, sB S1 5 (vp_updL (al S1 5) (Int32.toNatClampNeg 0) (Int32.toInt64 r))))
set_option maxHeartbeats 4000000 in
set_option maxRecDepth 100000 in
theorem b_L_erdosTuran {p : Program} {l : Launch} {e : Env} {s : State} {m : MethodId} {args : Array Value} {below : List Frame} {meth : Method} {c : Code} {x : CX} {res : Int32 × ST} (F : MF p m meth c cL_erdosTuran 5 s args RL (some .int)) (htab : c.exceptionTable.toList = tableOf [(0, 10, 13, 13), (0, 10, 17, 15)]) (hls : l.stackTraces = false) (H : Heap) (locs : List Loc) (ls : Array Slot) (S : ST) (w : WD x s S H locs) (a1 : Int32) (a2 : Int32) (hl : lv_has ls 5 [(0, .ref (x.2.2 79)), (1, .int a1), (2, .int a2), (3, .ref (x.2.2 87))]) (hf : f_L_erdosTuran S a1 a2 = some res) : W p l e ({ frames := 8, cells := 2, slots := 12, locals := 173 } : Room) s m args below meth c H locs 0 0 (MQ below (QI x res.2 res.1 s.heap.size) args s 2 12 (AA x s.heap.size)) (F0 m 0 ls []) := by
  unfold f_L_erdosTuran at hf
  obtain ⟨n1, r1, S1, hc, hf0, hx⟩ := oi_y hf
  refine lv_aload_n F.1 F.2.1 dL_erdosTuran_0 rfl (lv_at hl 3 rfl) ?_
  refine lv_iconst (v := 0) F.1 F.2.1 dL_erdosTuran_1 (by decide) ?_
  refine lv_aload_n F.1 F.2.1 dL_erdosTuran_2 rfl (lv_at hl 0 rfl) ?_
  refine lv_iload_n F.1 F.2.1 dL_erdosTuran_3 rfl (lv_at hl 1 rfl) ?_
  refine lv_iload_n F.1 F.2.1 dL_erdosTuran_4 rfl (lv_at hl 2 rfl) ?_
  refine ky_i (S1 := S1) (n1 := n1) (r := r1) w (xrunV (As := [.int a1, .int a2]) (rest := [.int 0, .ref (x.2.2 87)]) (kb := 79) F w (k_X8_erdosTuran l x S a1 a2 hc hls H.size) cy_X8_erdosTuran q732 q733 q734 ⟨rfl, rfl⟩ ⟨Nat.le_of_ble_eq_true rfl, Nat.le_of_ble_eq_true rfl⟩ (by decide) rfl rfl rfl rfl hl.1 (Nat.le_of_ble_eq_true rfl) ⟨Nat.le_of_ble_eq_true rfl, Nat.le_of_ble_eq_true rfl⟩ dL_erdosTuran_5) ?_ ?_
  · intro E ce q9 H1 locs1 hE w1 hce hv hcl
    obtain ⟨c1, hc1, hr1⟩ := hx (xk_ne hE)
    simp only [XK, List.mem_cons, List.not_mem_nil, or_false] at hE
    rcases hE with hE | hE | hE
    · cases hE
      have h9 : some (1 : Int32) = some c1 := hc1
      cases h9
      refine x_catch F w1 [] 0 10 13 13 [(0, 10, 17, 15)] htab (fun z hz => absurd hz List.not_mem_nil) (by decide) (by decide) q335 (by simp [XE]) hce hv hcl ?_
      refine lv_astore (lv' := [(4, .ref q9), (0, .ref (x.2.2 79)), (1, .int a1), (2, .int a2), (3, .ref (x.2.2 87))]) F.1 F.2.1 dL_erdosTuran_13 hl (by decide) rfl (fun ls hl => ?_)
      refine lv_iconst (v := 1) F.1 F.2.1 dL_erdosTuran_15 (by decide) ?_
      exact r_iret F w1 hr1 dL_erdosTuran_16
    · cases hE
      have h9 : some (2 : Int32) = some c1 := hc1
      cases h9
      refine x_catch F w1 [(0, 10, 13, 13)] 0 10 17 15 [] htab (fun z hz => by
        simp only [List.mem_cons, List.not_mem_nil, or_false] at hz
        rcases hz with rfl
        · exact ⟨by decide, eIO, q335, by simp [XP]⟩) (by decide) (by decide) q336 (by simp [XE]) hce hv hcl ?_
      refine lv_astore (lv' := [(4, .ref q9), (0, .ref (x.2.2 79)), (1, .int a1), (2, .int a2), (3, .ref (x.2.2 87))]) F.1 F.2.1 dL_erdosTuran_17 hl (by decide) rfl (fun ls hl => ?_)
      refine lv_iconst (v := 2) F.1 F.2.1 dL_erdosTuran_19 (by decide) ?_
      exact r_iret F w1 hr1 dL_erdosTuran_20
    · cases hE
      have h9 : (none : Option Int32) = some c1 := hc1
      cases h9
  · intro hn H locs w
    replace hf0 := hf0 hn
    refine lv_i2l (v := Int32.toInt64 r1) F.1 F.2.1 dL_erdosTuran_8 rfl ?_
    refine r_last F w (k := 87) (a := 5) (n := 1) (by decide) (fun _ => rfl) rfl (by decide) dL_erdosTuran_9 (fun H locs w => ?_)
    refine lv_goto (tgt := 21) F.1 F.2.1 dL_erdosTuran_10 (by decide) ?_
    refine lv_iconst (v := 0) F.1 F.2.1 dL_erdosTuran_21 (by decide) ?_
    exact r_iret F w (oi_s hf0) dL_erdosTuran_22
set_option maxHeartbeats 4000000 in
set_option maxRecDepth 100000 in
theorem k_L_erdosTuran (l : Launch) (x : CX) (S : ST) (a1 : Int32) (a2 : Int32) {res : Int32 × ST} (hf : f_L_erdosTuran S a1 a2 = some res) (hls : l.stackTraces = false) (sz : Nat) : Met l yL_erdosTuran (Cond.codeWith yL_erdosTuran cL_erdosTuran 5 (some .int) [(0, 10, 13, 13), (0, 10, 17, 15)] :: GW) ({ frames := 8, cells := 2, slots := 12, locals := 173 } : Room) (PC x S sz [.ref (x.2.2 79), .int a1, .int a2, .ref (x.2.2 87)]) (QI x res.2 res.1 sz) 2 12 (AA x sz) := by
  refine va_MetW (hh := [(0, 10, 13, 13), (0, 10, 17, 15)]) (cc := cL_erdosTuran) (maxL := 5) (ret := some .int) (by decide) rfl ?_
  intro p e s m args below meth c s₁ B hml hv
  obtain ⟨rfl, rfl, hPW⟩ := hv
  have F : MF p m meth c cL_erdosTuran 5 s _ RL (some .int) := MF.of B hml
  have htab : c.exceptionTable.toList = tableOf [(0, 10, 13, 13), (0, 10, 17, 15)] := vx_table (x := yL_erdosTuran) B (atoms_spec (ws := Cond.codeWith yL_erdosTuran cL_erdosTuran 5 (some .int) [(0, 10, 13, 13), (0, 10, 17, 15)] :: GW) B.pre _ List.mem_cons_self)
  have w := WD.of hPW
  have hl := lv_entry ([.ref (x.2.2 79), .int a1, .int a2, .ref (x.2.2 87)]) (n := 5) (Nat.le_of_ble_eq_true rfl)
  rw [lg_entry_eq]
  generalize (lg_sl ([.ref (x.2.2 79), .int a1, .int a2, .ref (x.2.2 87)]) ++ List.replicate (5 - (lg_sl ([.ref (x.2.2 79), .int a1, .int a2, .ref (x.2.2 87)])).length) Slot.unset).toArray = ls at hl ⊢
  have hl : lv_has ls 5 [(0, .ref (x.2.2 79)), (1, .int a1), (2, .int a2), (3, .ref (x.2.2 87))] := hl
  exact b_L_erdosTuran F htab hls _ _ _ _ w a1 a2 hl hf
def f_L_ruzsa (S : ST) (a1 : Int32) (a2 : Int32) (a3 : Int32) : Option (Int32 × ST) := oY (f_X8_ruzsa S a1 a2 a3) [(1, 1), (2, 2)] (fun r S1 => some (0, sB S1 5 (vp_updL (al S1 5) (Int32.toNatClampNeg 0) (Int32.toInt64 r))))
set_option maxHeartbeats 4000000 in
set_option maxRecDepth 100000 in
theorem b_L_ruzsa {p : Program} {l : Launch} {e : Env} {s : State} {m : MethodId} {args : Array Value} {below : List Frame} {meth : Method} {c : Code} {x : CX} {res : Int32 × ST} (F : MF p m meth c cL_ruzsa 6 s args RL (some .int)) (htab : c.exceptionTable.toList = tableOf [(0, 12, 15, 13), (0, 12, 19, 15)]) (hls : l.stackTraces = false) (H : Heap) (locs : List Loc) (ls : Array Slot) (S : ST) (w : WD x s S H locs) (a1 : Int32) (a2 : Int32) (a3 : Int32) (hl : lv_has ls 6 [(0, .ref (x.2.2 79)), (1, .int a1), (2, .int a2), (3, .int a3), (4, .ref (x.2.2 87))]) (hf : f_L_ruzsa S a1 a2 a3 = some res) : W p l e ({ frames := 8, cells := 3, slots := 18, locals := 176 } : Room) s m args below meth c H locs 0 0 (MQ below (QI x res.2 res.1 s.heap.size) args s 3 18 (AA x s.heap.size)) (F0 m 0 ls []) := by
  unfold f_L_ruzsa at hf
  obtain ⟨n1, r1, S1, hc, hf0, hx⟩ := oi_y hf
  refine lv_aload F.1 F.2.1 dL_ruzsa_0 (lv_at hl 4 rfl) ?_
  refine lv_iconst (v := 0) F.1 F.2.1 dL_ruzsa_2 (by decide) ?_
  refine lv_aload_n F.1 F.2.1 dL_ruzsa_3 rfl (lv_at hl 0 rfl) ?_
  refine lv_iload_n F.1 F.2.1 dL_ruzsa_4 rfl (lv_at hl 1 rfl) ?_
  refine lv_iload_n F.1 F.2.1 dL_ruzsa_5 rfl (lv_at hl 2 rfl) ?_
  refine lv_iload_n F.1 F.2.1 dL_ruzsa_6 rfl (lv_at hl 3 rfl) ?_
  refine ky_i (S1 := S1) (n1 := n1) (r := r1) w (xrunV (As := [.int a1, .int a2, .int a3]) (rest := [.int 0, .ref (x.2.2 87)]) (kb := 79) F w (k_X8_ruzsa l x S a1 a2 a3 hc hls H.size) cy_X8_ruzsa q746 q747 q748 ⟨rfl, rfl⟩ ⟨Nat.le_of_ble_eq_true rfl, Nat.le_of_ble_eq_true rfl⟩ (by decide) rfl rfl rfl rfl hl.1 (Nat.le_of_ble_eq_true rfl) ⟨Nat.le_of_ble_eq_true rfl, Nat.le_of_ble_eq_true rfl⟩ dL_ruzsa_7) ?_ ?_
  · intro E ce q9 H1 locs1 hE w1 hce hv hcl
    obtain ⟨c1, hc1, hr1⟩ := hx (xk_ne hE)
    simp only [XK, List.mem_cons, List.not_mem_nil, or_false] at hE
    rcases hE with hE | hE | hE
    · cases hE
      have h9 : some (1 : Int32) = some c1 := hc1
      cases h9
      refine x_catch F w1 [] 0 12 15 13 [(0, 12, 19, 15)] htab (fun z hz => absurd hz List.not_mem_nil) (by decide) (by decide) q335 (by simp [XE]) hce hv hcl ?_
      refine lv_astore (lv' := [(5, .ref q9), (0, .ref (x.2.2 79)), (1, .int a1), (2, .int a2), (3, .int a3), (4, .ref (x.2.2 87))]) F.1 F.2.1 dL_ruzsa_15 hl (by decide) rfl (fun ls hl => ?_)
      refine lv_iconst (v := 1) F.1 F.2.1 dL_ruzsa_17 (by decide) ?_
      exact r_iret F w1 hr1 dL_ruzsa_18
    · cases hE
      have h9 : some (2 : Int32) = some c1 := hc1
      cases h9
      refine x_catch F w1 [(0, 12, 15, 13)] 0 12 19 15 [] htab (fun z hz => by
        simp only [List.mem_cons, List.not_mem_nil, or_false] at hz
        rcases hz with rfl
        · exact ⟨by decide, eIO, q335, by simp [XP]⟩) (by decide) (by decide) q336 (by simp [XE]) hce hv hcl ?_
      refine lv_astore (lv' := [(5, .ref q9), (0, .ref (x.2.2 79)), (1, .int a1), (2, .int a2), (3, .int a3), (4, .ref (x.2.2 87))]) F.1 F.2.1 dL_ruzsa_19 hl (by decide) rfl (fun ls hl => ?_)
      refine lv_iconst (v := 2) F.1 F.2.1 dL_ruzsa_21 (by decide) ?_
      exact r_iret F w1 hr1 dL_ruzsa_22
    · cases hE
      have h9 : (none : Option Int32) = some c1 := hc1
      cases h9
  · intro hn H locs w
    replace hf0 := hf0 hn
    refine lv_i2l (v := Int32.toInt64 r1) F.1 F.2.1 dL_ruzsa_10 rfl ?_
    refine r_last F w (k := 87) (a := 5) (n := 1) (by decide) (fun _ => rfl) rfl (by decide) dL_ruzsa_11 (fun H locs w => ?_)
    refine lv_goto (tgt := 23) F.1 F.2.1 dL_ruzsa_12 (by decide) ?_
    refine lv_iconst (v := 0) F.1 F.2.1 dL_ruzsa_23 (by decide) ?_
    exact r_iret F w (oi_s hf0) dL_ruzsa_24
set_option maxHeartbeats 4000000 in
set_option maxRecDepth 100000 in
theorem k_L_ruzsa (l : Launch) (x : CX) (S : ST) (a1 : Int32) (a2 : Int32) (a3 : Int32) {res : Int32 × ST} (hf : f_L_ruzsa S a1 a2 a3 = some res) (hls : l.stackTraces = false) (sz : Nat) : Met l yL_ruzsa (Cond.codeWith yL_ruzsa cL_ruzsa 6 (some .int) [(0, 12, 15, 13), (0, 12, 19, 15)] :: GW) ({ frames := 8, cells := 3, slots := 18, locals := 176 } : Room) (PC x S sz [.ref (x.2.2 79), .int a1, .int a2, .int a3, .ref (x.2.2 87)]) (QI x res.2 res.1 sz) 3 18 (AA x sz) := by
  refine va_MetW (hh := [(0, 12, 15, 13), (0, 12, 19, 15)]) (cc := cL_ruzsa) (maxL := 6) (ret := some .int) (by decide) rfl ?_
  intro p e s m args below meth c s₁ B hml hv
  obtain ⟨rfl, rfl, hPW⟩ := hv
  have F : MF p m meth c cL_ruzsa 6 s _ RL (some .int) := MF.of B hml
  have htab : c.exceptionTable.toList = tableOf [(0, 12, 15, 13), (0, 12, 19, 15)] := vx_table (x := yL_ruzsa) B (atoms_spec (ws := Cond.codeWith yL_ruzsa cL_ruzsa 6 (some .int) [(0, 12, 15, 13), (0, 12, 19, 15)] :: GW) B.pre _ List.mem_cons_self)
  have w := WD.of hPW
  have hl := lv_entry ([.ref (x.2.2 79), .int a1, .int a2, .int a3, .ref (x.2.2 87)]) (n := 6) (Nat.le_of_ble_eq_true rfl)
  rw [lg_entry_eq]
  generalize (lg_sl ([.ref (x.2.2 79), .int a1, .int a2, .int a3, .ref (x.2.2 87)]) ++ List.replicate (6 - (lg_sl ([.ref (x.2.2 79), .int a1, .int a2, .int a3, .ref (x.2.2 87)])).length) Slot.unset).toArray = ls at hl ⊢
  have hl : lv_has ls 6 [(0, .ref (x.2.2 79)), (1, .int a1), (2, .int a2), (3, .int a3), (4, .ref (x.2.2 87))] := hl
  exact b_L_ruzsa F htab hls _ _ _ _ w a1 a2 a3 hl hf
def f_L_residues (S : ST) (a1 : Int32) (a2 : Int32) : Option (Int32 × ST) := oY (f_X8_residues S a1 a2) [(1, 1), (2, 2)] (fun r S1 => some (0, sB S1 5 (vp_updL (al S1 5) (Int32.toNatClampNeg 0) (Int32.toInt64 r))))
set_option maxHeartbeats 4000000 in
set_option maxRecDepth 100000 in
theorem b_L_residues {p : Program} {l : Launch} {e : Env} {s : State} {m : MethodId} {args : Array Value} {below : List Frame} {meth : Method} {c : Code} {x : CX} {res : Int32 × ST} (F : MF p m meth c cL_residues 5 s args RL (some .int)) (htab : c.exceptionTable.toList = tableOf [(0, 10, 13, 13), (0, 10, 17, 15)]) (hls : l.stackTraces = false) (H : Heap) (locs : List Loc) (ls : Array Slot) (S : ST) (w : WD x s S H locs) (a1 : Int32) (a2 : Int32) (hl : lv_has ls 5 [(0, .ref (x.2.2 79)), (1, .int a1), (2, .int a2), (3, .ref (x.2.2 87))]) (hf : f_L_residues S a1 a2 = some res) : W p l e ({ frames := 8, cells := 2, slots := 12, locals := 173 } : Room) s m args below meth c H locs 0 0 (MQ below (QI x res.2 res.1 s.heap.size) args s 2 12 (AA x s.heap.size)) (F0 m 0 ls []) := by
  unfold f_L_residues at hf
  obtain ⟨n1, r1, S1, hc, hf0, hx⟩ := oi_y hf
  refine lv_aload_n F.1 F.2.1 dL_residues_0 rfl (lv_at hl 3 rfl) ?_
  refine lv_iconst (v := 0) F.1 F.2.1 dL_residues_1 (by decide) ?_
  refine lv_aload_n F.1 F.2.1 dL_residues_2 rfl (lv_at hl 0 rfl) ?_
  refine lv_iload_n F.1 F.2.1 dL_residues_3 rfl (lv_at hl 1 rfl) ?_
  refine lv_iload_n F.1 F.2.1 dL_residues_4 rfl (lv_at hl 2 rfl) ?_
  refine ky_i (S1 := S1) (n1 := n1) (r := r1) w (xrunV (As := [.int a1, .int a2]) (rest := [.int 0, .ref (x.2.2 87)]) (kb := 79) F w (k_X8_residues l x S a1 a2 hc hls H.size) cy_X8_residues q757 q758 q759 ⟨rfl, rfl⟩ ⟨Nat.le_of_ble_eq_true rfl, Nat.le_of_ble_eq_true rfl⟩ (by decide) rfl rfl rfl rfl hl.1 (Nat.le_of_ble_eq_true rfl) ⟨Nat.le_of_ble_eq_true rfl, Nat.le_of_ble_eq_true rfl⟩ dL_residues_5) ?_ ?_
  · intro E ce q9 H1 locs1 hE w1 hce hv hcl
    obtain ⟨c1, hc1, hr1⟩ := hx (xk_ne hE)
    simp only [XK, List.mem_cons, List.not_mem_nil, or_false] at hE
    rcases hE with hE | hE | hE
    · cases hE
      have h9 : some (1 : Int32) = some c1 := hc1
      cases h9
      refine x_catch F w1 [] 0 10 13 13 [(0, 10, 17, 15)] htab (fun z hz => absurd hz List.not_mem_nil) (by decide) (by decide) q335 (by simp [XE]) hce hv hcl ?_
      refine lv_astore (lv' := [(4, .ref q9), (0, .ref (x.2.2 79)), (1, .int a1), (2, .int a2), (3, .ref (x.2.2 87))]) F.1 F.2.1 dL_residues_13 hl (by decide) rfl (fun ls hl => ?_)
      refine lv_iconst (v := 1) F.1 F.2.1 dL_residues_15 (by decide) ?_
      exact r_iret F w1 hr1 dL_residues_16
    · cases hE
      have h9 : some (2 : Int32) = some c1 := hc1
      cases h9
      refine x_catch F w1 [(0, 10, 13, 13)] 0 10 17 15 [] htab (fun z hz => by
        simp only [List.mem_cons, List.not_mem_nil, or_false] at hz
        rcases hz with rfl
        · exact ⟨by decide, eIO, q335, by simp [XP]⟩) (by decide) (by decide) q336 (by simp [XE]) hce hv hcl ?_
      refine lv_astore (lv' := [(4, .ref q9), (0, .ref (x.2.2 79)), (1, .int a1), (2, .int a2), (3, .ref (x.2.2 87))]) F.1 F.2.1 dL_residues_17 hl (by decide) rfl (fun ls hl => ?_)
      refine lv_iconst (v := 2) F.1 F.2.1 dL_residues_19 (by decide) ?_
      exact r_iret F w1 hr1 dL_residues_20
    · cases hE
      have h9 : (none : Option Int32) = some c1 := hc1
      cases h9
  · intro hn H locs w
    replace hf0 := hf0 hn
    refine lv_i2l (v := Int32.toInt64 r1) F.1 F.2.1 dL_residues_8 rfl ?_
    refine r_last F w (k := 87) (a := 5) (n := 1) (by decide) (fun _ => rfl) rfl (by decide) dL_residues_9 (fun H locs w => ?_)
    refine lv_goto (tgt := 21) F.1 F.2.1 dL_residues_10 (by decide) ?_
    refine lv_iconst (v := 0) F.1 F.2.1 dL_residues_21 (by decide) ?_
    exact r_iret F w (oi_s hf0) dL_residues_22
set_option maxHeartbeats 4000000 in
set_option maxRecDepth 100000 in
theorem k_L_residues (l : Launch) (x : CX) (S : ST) (a1 : Int32) (a2 : Int32) {res : Int32 × ST} (hf : f_L_residues S a1 a2 = some res) (hls : l.stackTraces = false) (sz : Nat) : Met l yL_residues (Cond.codeWith yL_residues cL_residues 5 (some .int) [(0, 10, 13, 13), (0, 10, 17, 15)] :: GW) ({ frames := 8, cells := 2, slots := 12, locals := 173 } : Room) (PC x S sz [.ref (x.2.2 79), .int a1, .int a2, .ref (x.2.2 87)]) (QI x res.2 res.1 sz) 2 12 (AA x sz) := by
  refine va_MetW (hh := [(0, 10, 13, 13), (0, 10, 17, 15)]) (cc := cL_residues) (maxL := 5) (ret := some .int) (by decide) rfl ?_
  intro p e s m args below meth c s₁ B hml hv
  obtain ⟨rfl, rfl, hPW⟩ := hv
  have F : MF p m meth c cL_residues 5 s _ RL (some .int) := MF.of B hml
  have htab : c.exceptionTable.toList = tableOf [(0, 10, 13, 13), (0, 10, 17, 15)] := vx_table (x := yL_residues) B (atoms_spec (ws := Cond.codeWith yL_residues cL_residues 5 (some .int) [(0, 10, 13, 13), (0, 10, 17, 15)] :: GW) B.pre _ List.mem_cons_self)
  have w := WD.of hPW
  have hl := lv_entry ([.ref (x.2.2 79), .int a1, .int a2, .ref (x.2.2 87)]) (n := 5) (Nat.le_of_ble_eq_true rfl)
  rw [lg_entry_eq]
  generalize (lg_sl ([.ref (x.2.2 79), .int a1, .int a2, .ref (x.2.2 87)]) ++ List.replicate (5 - (lg_sl ([.ref (x.2.2 79), .int a1, .int a2, .ref (x.2.2 87)])).length) Slot.unset).toArray = ls at hl ⊢
  have hl : lv_has ls 5 [(0, .ref (x.2.2 79)), (1, .int a1), (2, .int a2), (3, .ref (x.2.2 87))] := hl
  exact b_L_residues F htab hls _ _ _ _ w a1 a2 hl hf
def f_L_extend (S : ST) (a1 : Int32) (a2 : Int32) : Option (Int32 × ST) := oY (f_X8_extend S a1 a2) [(1, 1), (2, 2), (3, 3)] (fun r S1 => some (0, sB S1 5 (vp_updL (al S1 5) (Int32.toNatClampNeg 0) (Int32.toInt64 r))))
set_option maxHeartbeats 4000000 in
set_option maxRecDepth 100000 in
theorem b_L_extend {p : Program} {l : Launch} {e : Env} {s : State} {m : MethodId} {args : Array Value} {below : List Frame} {meth : Method} {c : Code} {x : CX} {res : Int32 × ST} (F : MF p m meth c cL_extend 5 s args RL (some .int)) (htab : c.exceptionTable.toList = tableOf [(0, 10, 13, 13), (0, 10, 17, 15), (0, 10, 21, 17)]) (hls : l.stackTraces = false) (H : Heap) (locs : List Loc) (ls : Array Slot) (S : ST) (w : WD x s S H locs) (a1 : Int32) (a2 : Int32) (hl : lv_has ls 5 [(0, .ref (x.2.2 79)), (1, .int a1), (2, .int a2), (3, .ref (x.2.2 87))]) (hf : f_L_extend S a1 a2 = some res) : W p l e ({ frames := 8, cells := 5, slots := 30, locals := 172 } : Room) s m args below meth c H locs 0 0 (MQ below (QI x res.2 res.1 s.heap.size) args s 5 30 (AA x s.heap.size)) (F0 m 0 ls []) := by
  unfold f_L_extend at hf
  obtain ⟨n1, r1, S1, hc, hf0, hx⟩ := oi_y hf
  refine lv_aload_n F.1 F.2.1 dL_extend_0 rfl (lv_at hl 3 rfl) ?_
  refine lv_iconst (v := 0) F.1 F.2.1 dL_extend_1 (by decide) ?_
  refine lv_aload_n F.1 F.2.1 dL_extend_2 rfl (lv_at hl 0 rfl) ?_
  refine lv_iload_n F.1 F.2.1 dL_extend_3 rfl (lv_at hl 1 rfl) ?_
  refine lv_iload_n F.1 F.2.1 dL_extend_4 rfl (lv_at hl 2 rfl) ?_
  refine ky_i (S1 := S1) (n1 := n1) (r := r1) w (xrunV (As := [.int a1, .int a2]) (rest := [.int 0, .ref (x.2.2 87)]) (kb := 79) F w (k_X8_extend l x S a1 a2 hc hls H.size) cy_X8_extend q764 q765 q766 ⟨rfl, rfl⟩ ⟨Nat.le_of_ble_eq_true rfl, Nat.le_of_ble_eq_true rfl⟩ (by decide) rfl rfl rfl rfl hl.1 (Nat.le_of_ble_eq_true rfl) ⟨Nat.le_of_ble_eq_true rfl, Nat.le_of_ble_eq_true rfl⟩ dL_extend_5) ?_ ?_
  · intro E ce q9 H1 locs1 hE w1 hce hv hcl
    obtain ⟨c1, hc1, hr1⟩ := hx (xk_ne hE)
    simp only [XK, List.mem_cons, List.not_mem_nil, or_false] at hE
    rcases hE with hE | hE | hE
    · cases hE
      have h9 : some (1 : Int32) = some c1 := hc1
      cases h9
      refine x_catch F w1 [] 0 10 13 13 [(0, 10, 17, 15), (0, 10, 21, 17)] htab (fun z hz => absurd hz List.not_mem_nil) (by decide) (by decide) q335 (by simp [XE]) hce hv hcl ?_
      refine lv_astore (lv' := [(4, .ref q9), (0, .ref (x.2.2 79)), (1, .int a1), (2, .int a2), (3, .ref (x.2.2 87))]) F.1 F.2.1 dL_extend_13 hl (by decide) rfl (fun ls hl => ?_)
      refine lv_iconst (v := 1) F.1 F.2.1 dL_extend_15 (by decide) ?_
      exact r_iret F w1 hr1 dL_extend_16
    · cases hE
      have h9 : some (2 : Int32) = some c1 := hc1
      cases h9
      refine x_catch F w1 [(0, 10, 13, 13)] 0 10 17 15 [(0, 10, 21, 17)] htab (fun z hz => by
        simp only [List.mem_cons, List.not_mem_nil, or_false] at hz
        rcases hz with rfl
        · exact ⟨by decide, eIO, q335, by simp [XP]⟩) (by decide) (by decide) q336 (by simp [XE]) hce hv hcl ?_
      refine lv_astore (lv' := [(4, .ref q9), (0, .ref (x.2.2 79)), (1, .int a1), (2, .int a2), (3, .ref (x.2.2 87))]) F.1 F.2.1 dL_extend_17 hl (by decide) rfl (fun ls hl => ?_)
      refine lv_iconst (v := 2) F.1 F.2.1 dL_extend_19 (by decide) ?_
      exact r_iret F w1 hr1 dL_extend_20
    · cases hE
      have h9 : some (3 : Int32) = some c1 := hc1
      cases h9
      refine x_catch F w1 [(0, 10, 13, 13), (0, 10, 17, 15)] 0 10 21 17 [] htab (fun z hz => by
        simp only [List.mem_cons, List.not_mem_nil, or_false] at hz
        rcases hz with rfl | rfl
        · exact ⟨by decide, eIO, q335, by simp [XP]⟩
        · exact ⟨by decide, eIA, q336, by simp [XP]⟩) (by decide) (by decide) q337 (by simp [XE]) hce hv hcl ?_
      refine lv_astore (lv' := [(4, .ref q9), (0, .ref (x.2.2 79)), (1, .int a1), (2, .int a2), (3, .ref (x.2.2 87))]) F.1 F.2.1 dL_extend_21 hl (by decide) rfl (fun ls hl => ?_)
      refine lv_iconst (v := 3) F.1 F.2.1 dL_extend_23 (by decide) ?_
      exact r_iret F w1 hr1 dL_extend_24
  · intro hn H locs w
    replace hf0 := hf0 hn
    refine lv_i2l (v := Int32.toInt64 r1) F.1 F.2.1 dL_extend_8 rfl ?_
    refine r_last F w (k := 87) (a := 5) (n := 1) (by decide) (fun _ => rfl) rfl (by decide) dL_extend_9 (fun H locs w => ?_)
    refine lv_goto (tgt := 25) F.1 F.2.1 dL_extend_10 (by decide) ?_
    refine lv_iconst (v := 0) F.1 F.2.1 dL_extend_25 (by decide) ?_
    exact r_iret F w (oi_s hf0) dL_extend_26
set_option maxHeartbeats 4000000 in
set_option maxRecDepth 100000 in
theorem k_L_extend (l : Launch) (x : CX) (S : ST) (a1 : Int32) (a2 : Int32) {res : Int32 × ST} (hf : f_L_extend S a1 a2 = some res) (hls : l.stackTraces = false) (sz : Nat) : Met l yL_extend (Cond.codeWith yL_extend cL_extend 5 (some .int) [(0, 10, 13, 13), (0, 10, 17, 15), (0, 10, 21, 17)] :: GW) ({ frames := 8, cells := 5, slots := 30, locals := 172 } : Room) (PC x S sz [.ref (x.2.2 79), .int a1, .int a2, .ref (x.2.2 87)]) (QI x res.2 res.1 sz) 5 30 (AA x sz) := by
  refine va_MetW (hh := [(0, 10, 13, 13), (0, 10, 17, 15), (0, 10, 21, 17)]) (cc := cL_extend) (maxL := 5) (ret := some .int) (by decide) rfl ?_
  intro p e s m args below meth c s₁ B hml hv
  obtain ⟨rfl, rfl, hPW⟩ := hv
  have F : MF p m meth c cL_extend 5 s _ RL (some .int) := MF.of B hml
  have htab : c.exceptionTable.toList = tableOf [(0, 10, 13, 13), (0, 10, 17, 15), (0, 10, 21, 17)] := vx_table (x := yL_extend) B (atoms_spec (ws := Cond.codeWith yL_extend cL_extend 5 (some .int) [(0, 10, 13, 13), (0, 10, 17, 15), (0, 10, 21, 17)] :: GW) B.pre _ List.mem_cons_self)
  have w := WD.of hPW
  have hl := lv_entry ([.ref (x.2.2 79), .int a1, .int a2, .ref (x.2.2 87)]) (n := 5) (Nat.le_of_ble_eq_true rfl)
  rw [lg_entry_eq]
  generalize (lg_sl ([.ref (x.2.2 79), .int a1, .int a2, .ref (x.2.2 87)]) ++ List.replicate (5 - (lg_sl ([.ref (x.2.2 79), .int a1, .int a2, .ref (x.2.2 87)])).length) Slot.unset).toArray = ls at hl ⊢
  have hl : lv_has ls 5 [(0, .ref (x.2.2 79)), (1, .int a1), (2, .int a2), (3, .ref (x.2.2 87))] := hl
  exact b_L_extend F htab hls _ _ _ _ w a1 a2 hl hf
def f_L_optimal (S : ST) (a1 : Int32) (a2 : Int32) : Option (Int32 × ST) := oY (f_X8_optimal S a1 a2) [(1, 1), (2, 2)] (fun r S1 => some (0, sB S1 5 (vp_updL (al S1 5) (Int32.toNatClampNeg 0) (Int32.toInt64 r))))
set_option maxHeartbeats 4000000 in
set_option maxRecDepth 100000 in
theorem b_L_optimal {p : Program} {l : Launch} {e : Env} {s : State} {m : MethodId} {args : Array Value} {below : List Frame} {meth : Method} {c : Code} {x : CX} {res : Int32 × ST} (F : MF p m meth c cL_optimal 5 s args RL (some .int)) (htab : c.exceptionTable.toList = tableOf [(0, 10, 13, 13), (0, 10, 17, 15)]) (hls : l.stackTraces = false) (H : Heap) (locs : List Loc) (ls : Array Slot) (S : ST) (w : WD x s S H locs) (a1 : Int32) (a2 : Int32) (hl : lv_has ls 5 [(0, .ref (x.2.2 79)), (1, .int a1), (2, .int a2), (3, .ref (x.2.2 87))]) (hf : f_L_optimal S a1 a2 = some res) : W p l e ({ frames := 29, cells := 2, slots := 12, locals := 911 } : Room) s m args below meth c H locs 0 0 (MQ below (QI x res.2 res.1 s.heap.size) args s 2 12 (AA x s.heap.size)) (F0 m 0 ls []) := by
  unfold f_L_optimal at hf
  obtain ⟨n1, r1, S1, hc, hf0, hx⟩ := oi_y hf
  refine lv_aload_n F.1 F.2.1 dL_optimal_0 rfl (lv_at hl 3 rfl) ?_
  refine lv_iconst (v := 0) F.1 F.2.1 dL_optimal_1 (by decide) ?_
  refine lv_aload_n F.1 F.2.1 dL_optimal_2 rfl (lv_at hl 0 rfl) ?_
  refine lv_iload_n F.1 F.2.1 dL_optimal_3 rfl (lv_at hl 1 rfl) ?_
  refine lv_iload_n F.1 F.2.1 dL_optimal_4 rfl (lv_at hl 2 rfl) ?_
  refine ky_i (S1 := S1) (n1 := n1) (r := r1) w (xrunV (As := [.int a1, .int a2]) (rest := [.int 0, .ref (x.2.2 87)]) (kb := 79) F w (k_X8_optimal l x S a1 a2 hc hls H.size) cy_X8_optimal q787 q788 q789 ⟨rfl, rfl⟩ ⟨Nat.le_of_ble_eq_true rfl, Nat.le_of_ble_eq_true rfl⟩ (by decide) rfl rfl rfl rfl hl.1 (Nat.le_of_ble_eq_true rfl) ⟨Nat.le_of_ble_eq_true rfl, Nat.le_of_ble_eq_true rfl⟩ dL_optimal_5) ?_ ?_
  · intro E ce q9 H1 locs1 hE w1 hce hv hcl
    obtain ⟨c1, hc1, hr1⟩ := hx (xk_ne hE)
    simp only [XK, List.mem_cons, List.not_mem_nil, or_false] at hE
    rcases hE with hE | hE | hE
    · cases hE
      have h9 : some (1 : Int32) = some c1 := hc1
      cases h9
      refine x_catch F w1 [] 0 10 13 13 [(0, 10, 17, 15)] htab (fun z hz => absurd hz List.not_mem_nil) (by decide) (by decide) q335 (by simp [XE]) hce hv hcl ?_
      refine lv_astore (lv' := [(4, .ref q9), (0, .ref (x.2.2 79)), (1, .int a1), (2, .int a2), (3, .ref (x.2.2 87))]) F.1 F.2.1 dL_optimal_13 hl (by decide) rfl (fun ls hl => ?_)
      refine lv_iconst (v := 1) F.1 F.2.1 dL_optimal_15 (by decide) ?_
      exact r_iret F w1 hr1 dL_optimal_16
    · cases hE
      have h9 : some (2 : Int32) = some c1 := hc1
      cases h9
      refine x_catch F w1 [(0, 10, 13, 13)] 0 10 17 15 [] htab (fun z hz => by
        simp only [List.mem_cons, List.not_mem_nil, or_false] at hz
        rcases hz with rfl
        · exact ⟨by decide, eIO, q335, by simp [XP]⟩) (by decide) (by decide) q336 (by simp [XE]) hce hv hcl ?_
      refine lv_astore (lv' := [(4, .ref q9), (0, .ref (x.2.2 79)), (1, .int a1), (2, .int a2), (3, .ref (x.2.2 87))]) F.1 F.2.1 dL_optimal_17 hl (by decide) rfl (fun ls hl => ?_)
      refine lv_iconst (v := 2) F.1 F.2.1 dL_optimal_19 (by decide) ?_
      exact r_iret F w1 hr1 dL_optimal_20
    · cases hE
      have h9 : (none : Option Int32) = some c1 := hc1
      cases h9
  · intro hn H locs w
    replace hf0 := hf0 hn
    refine lv_i2l (v := Int32.toInt64 r1) F.1 F.2.1 dL_optimal_8 rfl ?_
    refine r_last F w (k := 87) (a := 5) (n := 1) (by decide) (fun _ => rfl) rfl (by decide) dL_optimal_9 (fun H locs w => ?_)
    refine lv_goto (tgt := 21) F.1 F.2.1 dL_optimal_10 (by decide) ?_
    refine lv_iconst (v := 0) F.1 F.2.1 dL_optimal_21 (by decide) ?_
    exact r_iret F w (oi_s hf0) dL_optimal_22
set_option maxHeartbeats 4000000 in
set_option maxRecDepth 100000 in
theorem k_L_optimal (l : Launch) (x : CX) (S : ST) (a1 : Int32) (a2 : Int32) {res : Int32 × ST} (hf : f_L_optimal S a1 a2 = some res) (hls : l.stackTraces = false) (sz : Nat) : Met l yL_optimal (Cond.codeWith yL_optimal cL_optimal 5 (some .int) [(0, 10, 13, 13), (0, 10, 17, 15)] :: GW) ({ frames := 29, cells := 2, slots := 12, locals := 911 } : Room) (PC x S sz [.ref (x.2.2 79), .int a1, .int a2, .ref (x.2.2 87)]) (QI x res.2 res.1 sz) 2 12 (AA x sz) := by
  refine va_MetW (hh := [(0, 10, 13, 13), (0, 10, 17, 15)]) (cc := cL_optimal) (maxL := 5) (ret := some .int) (by decide) rfl ?_
  intro p e s m args below meth c s₁ B hml hv
  obtain ⟨rfl, rfl, hPW⟩ := hv
  have F : MF p m meth c cL_optimal 5 s _ RL (some .int) := MF.of B hml
  have htab : c.exceptionTable.toList = tableOf [(0, 10, 13, 13), (0, 10, 17, 15)] := vx_table (x := yL_optimal) B (atoms_spec (ws := Cond.codeWith yL_optimal cL_optimal 5 (some .int) [(0, 10, 13, 13), (0, 10, 17, 15)] :: GW) B.pre _ List.mem_cons_self)
  have w := WD.of hPW
  have hl := lv_entry ([.ref (x.2.2 79), .int a1, .int a2, .ref (x.2.2 87)]) (n := 5) (Nat.le_of_ble_eq_true rfl)
  rw [lg_entry_eq]
  generalize (lg_sl ([.ref (x.2.2 79), .int a1, .int a2, .ref (x.2.2 87)]) ++ List.replicate (5 - (lg_sl ([.ref (x.2.2 79), .int a1, .int a2, .ref (x.2.2 87)])).length) Slot.unset).toArray = ls at hl ⊢
  have hl : lv_has ls 5 [(0, .ref (x.2.2 79)), (1, .int a1), (2, .int a2), (3, .ref (x.2.2 87))] := hl
  exact b_L_optimal F htab hls _ _ _ _ w a1 a2 hl hf
def f_L_sparse (S : ST) (a1 : Int32) (a2 : Int32) : Option (Int32 × ST) := oY (f_X8_sparse S a1 a2) [(1, 1), (2, 2)] (fun r S1 => some (0, sB S1 5 (vp_updL (al S1 5) (Int32.toNatClampNeg 0) (Int32.toInt64 r))))
set_option maxHeartbeats 4000000 in
set_option maxRecDepth 100000 in
theorem b_L_sparse {p : Program} {l : Launch} {e : Env} {s : State} {m : MethodId} {args : Array Value} {below : List Frame} {meth : Method} {c : Code} {x : CX} {res : Int32 × ST} (F : MF p m meth c cL_sparse 5 s args RL (some .int)) (htab : c.exceptionTable.toList = tableOf [(0, 10, 13, 13), (0, 10, 17, 15)]) (hls : l.stackTraces = false) (H : Heap) (locs : List Loc) (ls : Array Slot) (S : ST) (w : WD x s S H locs) (a1 : Int32) (a2 : Int32) (hl : lv_has ls 5 [(0, .ref (x.2.2 79)), (1, .int a1), (2, .int a2), (3, .ref (x.2.2 87))]) (hf : f_L_sparse S a1 a2 = some res) : W p l e ({ frames := 29, cells := 2, slots := 12, locals := 913 } : Room) s m args below meth c H locs 0 0 (MQ below (QI x res.2 res.1 s.heap.size) args s 2 12 (AA x s.heap.size)) (F0 m 0 ls []) := by
  unfold f_L_sparse at hf
  obtain ⟨n1, r1, S1, hc, hf0, hx⟩ := oi_y hf
  refine lv_aload_n F.1 F.2.1 dL_sparse_0 rfl (lv_at hl 3 rfl) ?_
  refine lv_iconst (v := 0) F.1 F.2.1 dL_sparse_1 (by decide) ?_
  refine lv_aload_n F.1 F.2.1 dL_sparse_2 rfl (lv_at hl 0 rfl) ?_
  refine lv_iload_n F.1 F.2.1 dL_sparse_3 rfl (lv_at hl 1 rfl) ?_
  refine lv_iload_n F.1 F.2.1 dL_sparse_4 rfl (lv_at hl 2 rfl) ?_
  refine ky_i (S1 := S1) (n1 := n1) (r := r1) w (xrunV (As := [.int a1, .int a2]) (rest := [.int 0, .ref (x.2.2 87)]) (kb := 79) F w (k_X8_sparse l x S a1 a2 hc hls H.size) cy_X8_sparse q805 q806 q807 ⟨rfl, rfl⟩ ⟨Nat.le_of_ble_eq_true rfl, Nat.le_of_ble_eq_true rfl⟩ (by decide) rfl rfl rfl rfl hl.1 (Nat.le_of_ble_eq_true rfl) ⟨Nat.le_of_ble_eq_true rfl, Nat.le_of_ble_eq_true rfl⟩ dL_sparse_5) ?_ ?_
  · intro E ce q9 H1 locs1 hE w1 hce hv hcl
    obtain ⟨c1, hc1, hr1⟩ := hx (xk_ne hE)
    simp only [XK, List.mem_cons, List.not_mem_nil, or_false] at hE
    rcases hE with hE | hE | hE
    · cases hE
      have h9 : some (1 : Int32) = some c1 := hc1
      cases h9
      refine x_catch F w1 [] 0 10 13 13 [(0, 10, 17, 15)] htab (fun z hz => absurd hz List.not_mem_nil) (by decide) (by decide) q335 (by simp [XE]) hce hv hcl ?_
      refine lv_astore (lv' := [(4, .ref q9), (0, .ref (x.2.2 79)), (1, .int a1), (2, .int a2), (3, .ref (x.2.2 87))]) F.1 F.2.1 dL_sparse_13 hl (by decide) rfl (fun ls hl => ?_)
      refine lv_iconst (v := 1) F.1 F.2.1 dL_sparse_15 (by decide) ?_
      exact r_iret F w1 hr1 dL_sparse_16
    · cases hE
      have h9 : some (2 : Int32) = some c1 := hc1
      cases h9
      refine x_catch F w1 [(0, 10, 13, 13)] 0 10 17 15 [] htab (fun z hz => by
        simp only [List.mem_cons, List.not_mem_nil, or_false] at hz
        rcases hz with rfl
        · exact ⟨by decide, eIO, q335, by simp [XP]⟩) (by decide) (by decide) q336 (by simp [XE]) hce hv hcl ?_
      refine lv_astore (lv' := [(4, .ref q9), (0, .ref (x.2.2 79)), (1, .int a1), (2, .int a2), (3, .ref (x.2.2 87))]) F.1 F.2.1 dL_sparse_17 hl (by decide) rfl (fun ls hl => ?_)
      refine lv_iconst (v := 2) F.1 F.2.1 dL_sparse_19 (by decide) ?_
      exact r_iret F w1 hr1 dL_sparse_20
    · cases hE
      have h9 : (none : Option Int32) = some c1 := hc1
      cases h9
  · intro hn H locs w
    replace hf0 := hf0 hn
    refine lv_i2l (v := Int32.toInt64 r1) F.1 F.2.1 dL_sparse_8 rfl ?_
    refine r_last F w (k := 87) (a := 5) (n := 1) (by decide) (fun _ => rfl) rfl (by decide) dL_sparse_9 (fun H locs w => ?_)
    refine lv_goto (tgt := 21) F.1 F.2.1 dL_sparse_10 (by decide) ?_
    refine lv_iconst (v := 0) F.1 F.2.1 dL_sparse_21 (by decide) ?_
    exact r_iret F w (oi_s hf0) dL_sparse_22
set_option maxHeartbeats 4000000 in
set_option maxRecDepth 100000 in
theorem k_L_sparse (l : Launch) (x : CX) (S : ST) (a1 : Int32) (a2 : Int32) {res : Int32 × ST} (hf : f_L_sparse S a1 a2 = some res) (hls : l.stackTraces = false) (sz : Nat) : Met l yL_sparse (Cond.codeWith yL_sparse cL_sparse 5 (some .int) [(0, 10, 13, 13), (0, 10, 17, 15)] :: GW) ({ frames := 29, cells := 2, slots := 12, locals := 913 } : Room) (PC x S sz [.ref (x.2.2 79), .int a1, .int a2, .ref (x.2.2 87)]) (QI x res.2 res.1 sz) 2 12 (AA x sz) := by
  refine va_MetW (hh := [(0, 10, 13, 13), (0, 10, 17, 15)]) (cc := cL_sparse) (maxL := 5) (ret := some .int) (by decide) rfl ?_
  intro p e s m args below meth c s₁ B hml hv
  obtain ⟨rfl, rfl, hPW⟩ := hv
  have F : MF p m meth c cL_sparse 5 s _ RL (some .int) := MF.of B hml
  have htab : c.exceptionTable.toList = tableOf [(0, 10, 13, 13), (0, 10, 17, 15)] := vx_table (x := yL_sparse) B (atoms_spec (ws := Cond.codeWith yL_sparse cL_sparse 5 (some .int) [(0, 10, 13, 13), (0, 10, 17, 15)] :: GW) B.pre _ List.mem_cons_self)
  have w := WD.of hPW
  have hl := lv_entry ([.ref (x.2.2 79), .int a1, .int a2, .ref (x.2.2 87)]) (n := 5) (Nat.le_of_ble_eq_true rfl)
  rw [lg_entry_eq]
  generalize (lg_sl ([.ref (x.2.2 79), .int a1, .int a2, .ref (x.2.2 87)]) ++ List.replicate (5 - (lg_sl ([.ref (x.2.2 79), .int a1, .int a2, .ref (x.2.2 87)])).length) Slot.unset).toArray = ls at hl ⊢
  have hl : lv_has ls 5 [(0, .ref (x.2.2 79)), (1, .int a1), (2, .int a2), (3, .ref (x.2.2 87))] := hl
  exact b_L_sparse F htab hls _ _ _ _ w a1 a2 hl hf
def f_L_firstDifferenceSet (S : ST) (a1 : Int32) (a2 : Int32) (a3 : Int32) : Option (Int32 × ST) := oY (f_X8_firstDifferenceSet S a1 a2 a3) [(1, 1), (2, 2)] (fun r S1 => some (0, sB S1 5 (vp_updL (al S1 5) (Int32.toNatClampNeg 0) (Int32.toInt64 r))))
set_option maxHeartbeats 4000000 in
set_option maxRecDepth 100000 in
theorem b_L_firstDifferenceSet {p : Program} {l : Launch} {e : Env} {s : State} {m : MethodId} {args : Array Value} {below : List Frame} {meth : Method} {c : Code} {x : CX} {res : Int32 × ST} (F : MF p m meth c cL_firstDifferenceSet 6 s args RL (some .int)) (htab : c.exceptionTable.toList = tableOf [(0, 12, 15, 13), (0, 12, 19, 15)]) (hls : l.stackTraces = false) (H : Heap) (locs : List Loc) (ls : Array Slot) (S : ST) (w : WD x s S H locs) (a1 : Int32) (a2 : Int32) (a3 : Int32) (hl : lv_has ls 6 [(0, .ref (x.2.2 79)), (1, .int a1), (2, .int a2), (3, .int a3), (4, .ref (x.2.2 87))]) (hf : f_L_firstDifferenceSet S a1 a2 a3 = some res) : W p l e ({ frames := 29, cells := 2, slots := 12, locals := 724 } : Room) s m args below meth c H locs 0 0 (MQ below (QI x res.2 res.1 s.heap.size) args s 2 12 (AA x s.heap.size)) (F0 m 0 ls []) := by
  unfold f_L_firstDifferenceSet at hf
  obtain ⟨n1, r1, S1, hc, hf0, hx⟩ := oi_y hf
  refine lv_aload F.1 F.2.1 dL_firstDifferenceSet_0 (lv_at hl 4 rfl) ?_
  refine lv_iconst (v := 0) F.1 F.2.1 dL_firstDifferenceSet_2 (by decide) ?_
  refine lv_aload_n F.1 F.2.1 dL_firstDifferenceSet_3 rfl (lv_at hl 0 rfl) ?_
  refine lv_iload_n F.1 F.2.1 dL_firstDifferenceSet_4 rfl (lv_at hl 1 rfl) ?_
  refine lv_iload_n F.1 F.2.1 dL_firstDifferenceSet_5 rfl (lv_at hl 2 rfl) ?_
  refine lv_iload_n F.1 F.2.1 dL_firstDifferenceSet_6 rfl (lv_at hl 3 rfl) ?_
  refine ky_i (S1 := S1) (n1 := n1) (r := r1) w (xrunV (As := [.int a1, .int a2, .int a3]) (rest := [.int 0, .ref (x.2.2 87)]) (kb := 79) F w (k_X8_firstDifferenceSet l x S a1 a2 a3 hc hls H.size) cy_X8_firstDifferenceSet q822 q823 q824 ⟨rfl, rfl⟩ ⟨Nat.le_of_ble_eq_true rfl, Nat.le_of_ble_eq_true rfl⟩ (by decide) rfl rfl rfl rfl hl.1 (Nat.le_of_ble_eq_true rfl) ⟨Nat.le_of_ble_eq_true rfl, Nat.le_of_ble_eq_true rfl⟩ dL_firstDifferenceSet_7) ?_ ?_
  · intro E ce q9 H1 locs1 hE w1 hce hv hcl
    obtain ⟨c1, hc1, hr1⟩ := hx (xk_ne hE)
    simp only [XK, List.mem_cons, List.not_mem_nil, or_false] at hE
    rcases hE with hE | hE | hE
    · cases hE
      have h9 : some (1 : Int32) = some c1 := hc1
      cases h9
      refine x_catch F w1 [] 0 12 15 13 [(0, 12, 19, 15)] htab (fun z hz => absurd hz List.not_mem_nil) (by decide) (by decide) q335 (by simp [XE]) hce hv hcl ?_
      refine lv_astore (lv' := [(5, .ref q9), (0, .ref (x.2.2 79)), (1, .int a1), (2, .int a2), (3, .int a3), (4, .ref (x.2.2 87))]) F.1 F.2.1 dL_firstDifferenceSet_15 hl (by decide) rfl (fun ls hl => ?_)
      refine lv_iconst (v := 1) F.1 F.2.1 dL_firstDifferenceSet_17 (by decide) ?_
      exact r_iret F w1 hr1 dL_firstDifferenceSet_18
    · cases hE
      have h9 : some (2 : Int32) = some c1 := hc1
      cases h9
      refine x_catch F w1 [(0, 12, 15, 13)] 0 12 19 15 [] htab (fun z hz => by
        simp only [List.mem_cons, List.not_mem_nil, or_false] at hz
        rcases hz with rfl
        · exact ⟨by decide, eIO, q335, by simp [XP]⟩) (by decide) (by decide) q336 (by simp [XE]) hce hv hcl ?_
      refine lv_astore (lv' := [(5, .ref q9), (0, .ref (x.2.2 79)), (1, .int a1), (2, .int a2), (3, .int a3), (4, .ref (x.2.2 87))]) F.1 F.2.1 dL_firstDifferenceSet_19 hl (by decide) rfl (fun ls hl => ?_)
      refine lv_iconst (v := 2) F.1 F.2.1 dL_firstDifferenceSet_21 (by decide) ?_
      exact r_iret F w1 hr1 dL_firstDifferenceSet_22
    · cases hE
      have h9 : (none : Option Int32) = some c1 := hc1
      cases h9
  · intro hn H locs w
    replace hf0 := hf0 hn
    refine lv_i2l (v := Int32.toInt64 r1) F.1 F.2.1 dL_firstDifferenceSet_10 rfl ?_
    refine r_last F w (k := 87) (a := 5) (n := 1) (by decide) (fun _ => rfl) rfl (by decide) dL_firstDifferenceSet_11 (fun H locs w => ?_)
    refine lv_goto (tgt := 23) F.1 F.2.1 dL_firstDifferenceSet_12 (by decide) ?_
    refine lv_iconst (v := 0) F.1 F.2.1 dL_firstDifferenceSet_23 (by decide) ?_
    exact r_iret F w (oi_s hf0) dL_firstDifferenceSet_24
set_option maxHeartbeats 4000000 in
set_option maxRecDepth 100000 in
theorem k_L_firstDifferenceSet (l : Launch) (x : CX) (S : ST) (a1 : Int32) (a2 : Int32) (a3 : Int32) {res : Int32 × ST} (hf : f_L_firstDifferenceSet S a1 a2 a3 = some res) (hls : l.stackTraces = false) (sz : Nat) : Met l yL_firstDifferenceSet (Cond.codeWith yL_firstDifferenceSet cL_firstDifferenceSet 6 (some .int) [(0, 12, 15, 13), (0, 12, 19, 15)] :: GW) ({ frames := 29, cells := 2, slots := 12, locals := 724 } : Room) (PC x S sz [.ref (x.2.2 79), .int a1, .int a2, .int a3, .ref (x.2.2 87)]) (QI x res.2 res.1 sz) 2 12 (AA x sz) := by
  refine va_MetW (hh := [(0, 12, 15, 13), (0, 12, 19, 15)]) (cc := cL_firstDifferenceSet) (maxL := 6) (ret := some .int) (by decide) rfl ?_
  intro p e s m args below meth c s₁ B hml hv
  obtain ⟨rfl, rfl, hPW⟩ := hv
  have F : MF p m meth c cL_firstDifferenceSet 6 s _ RL (some .int) := MF.of B hml
  have htab : c.exceptionTable.toList = tableOf [(0, 12, 15, 13), (0, 12, 19, 15)] := vx_table (x := yL_firstDifferenceSet) B (atoms_spec (ws := Cond.codeWith yL_firstDifferenceSet cL_firstDifferenceSet 6 (some .int) [(0, 12, 15, 13), (0, 12, 19, 15)] :: GW) B.pre _ List.mem_cons_self)
  have w := WD.of hPW
  have hl := lv_entry ([.ref (x.2.2 79), .int a1, .int a2, .int a3, .ref (x.2.2 87)]) (n := 6) (Nat.le_of_ble_eq_true rfl)
  rw [lg_entry_eq]
  generalize (lg_sl ([.ref (x.2.2 79), .int a1, .int a2, .int a3, .ref (x.2.2 87)]) ++ List.replicate (6 - (lg_sl ([.ref (x.2.2 79), .int a1, .int a2, .int a3, .ref (x.2.2 87)])).length) Slot.unset).toArray = ls at hl ⊢
  have hl : lv_has ls 6 [(0, .ref (x.2.2 79)), (1, .int a1), (2, .int a2), (3, .int a3), (4, .ref (x.2.2 87))] := hl
  exact b_L_firstDifferenceSet F htab hls _ _ _ _ w a1 a2 a3 hl hf
def f_L_undo (S : ST)  : Option (Int32 × ST) := oY (f_X8_undo S ) [(3, 1)] (fun r S1 => some (0, sB S1 5 (vp_updL (al S1 5) (Int32.toNatClampNeg 0) (Int32.toInt64 r))))
set_option maxHeartbeats 4000000 in
set_option maxRecDepth 100000 in
theorem b_L_undo {p : Program} {l : Launch} {e : Env} {s : State} {m : MethodId} {args : Array Value} {below : List Frame} {meth : Method} {c : Code} {x : CX} {res : Int32 × ST} (F : MF p m meth c cL_undo 3 s args RL (some .int)) (htab : c.exceptionTable.toList = tableOf [(0, 8, 11, 17)]) (hls : l.stackTraces = false) (H : Heap) (locs : List Loc) (ls : Array Slot) (S : ST) (w : WD x s S H locs)  (hl : lv_has ls 3 [(0, .ref (x.2.2 79)), (1, .ref (x.2.2 87))]) (hf : f_L_undo S  = some res) : W p l e ({ frames := 7, cells := 1, slots := 6, locals := 149 } : Room) s m args below meth c H locs 0 0 (MQ below (QI x res.2 res.1 s.heap.size) args s 1 6 (AA x s.heap.size)) (F0 m 0 ls []) := by
  unfold f_L_undo at hf
  obtain ⟨n1, r1, S1, hc, hf0, hx⟩ := oi_y hf
  refine lv_aload_n F.1 F.2.1 dL_undo_0 rfl (lv_at hl 1 rfl) ?_
  refine lv_iconst (v := 0) F.1 F.2.1 dL_undo_1 (by decide) ?_
  refine lv_aload_n F.1 F.2.1 dL_undo_2 rfl (lv_at hl 0 rfl) ?_
  refine ky_i (S1 := S1) (n1 := n1) (r := r1) w (xrunV (As := []) (rest := [.int 0, .ref (x.2.2 87)]) (kb := 79) F w (k_X8_undo l x S  hc hls H.size) cy_X8_undo q848 q849 q850 ⟨rfl, rfl⟩ ⟨Nat.le_of_ble_eq_true rfl, Nat.le_of_ble_eq_true rfl⟩ (by decide) rfl rfl rfl rfl hl.1 (Nat.le_of_ble_eq_true rfl) ⟨Nat.le_of_ble_eq_true rfl, Nat.le_of_ble_eq_true rfl⟩ dL_undo_3) ?_ ?_
  · intro E ce q9 H1 locs1 hE w1 hce hv hcl
    obtain ⟨c1, hc1, hr1⟩ := hx (xk_ne hE)
    simp only [XK, List.mem_cons, List.not_mem_nil, or_false] at hE
    rcases hE with hE | hE | hE
    · cases hE
      have h9 : (none : Option Int32) = some c1 := hc1
      cases h9
    · cases hE
      have h9 : (none : Option Int32) = some c1 := hc1
      cases h9
    · cases hE
      have h9 : some (1 : Int32) = some c1 := hc1
      cases h9
      refine x_catch F w1 [] 0 8 11 17 [] htab (fun z hz => absurd hz List.not_mem_nil) (by decide) (by decide) q337 (by simp [XE]) hce hv hcl ?_
      refine lv_astore_n (lv' := [(2, .ref q9), (0, .ref (x.2.2 79)), (1, .ref (x.2.2 87))]) F.1 F.2.1 dL_undo_11 rfl hl (by decide) rfl (fun ls hl => ?_)
      refine lv_iconst (v := 1) F.1 F.2.1 dL_undo_12 (by decide) ?_
      exact r_iret F w1 hr1 dL_undo_13
  · intro hn H locs w
    replace hf0 := hf0 hn
    refine lv_i2l (v := Int32.toInt64 r1) F.1 F.2.1 dL_undo_6 rfl ?_
    refine r_last F w (k := 87) (a := 5) (n := 1) (by decide) (fun _ => rfl) rfl (by decide) dL_undo_7 (fun H locs w => ?_)
    refine lv_goto (tgt := 14) F.1 F.2.1 dL_undo_8 (by decide) ?_
    refine lv_iconst (v := 0) F.1 F.2.1 dL_undo_14 (by decide) ?_
    exact r_iret F w (oi_s hf0) dL_undo_15
set_option maxHeartbeats 4000000 in
set_option maxRecDepth 100000 in
theorem k_L_undo (l : Launch) (x : CX) (S : ST)  {res : Int32 × ST} (hf : f_L_undo S  = some res) (hls : l.stackTraces = false) (sz : Nat) : Met l yL_undo (Cond.codeWith yL_undo cL_undo 3 (some .int) [(0, 8, 11, 17)] :: GW) ({ frames := 7, cells := 1, slots := 6, locals := 149 } : Room) (PC x S sz [.ref (x.2.2 79), .ref (x.2.2 87)]) (QI x res.2 res.1 sz) 1 6 (AA x sz) := by
  refine va_MetW (hh := [(0, 8, 11, 17)]) (cc := cL_undo) (maxL := 3) (ret := some .int) (by decide) rfl ?_
  intro p e s m args below meth c s₁ B hml hv
  obtain ⟨rfl, rfl, hPW⟩ := hv
  have F : MF p m meth c cL_undo 3 s _ RL (some .int) := MF.of B hml
  have htab : c.exceptionTable.toList = tableOf [(0, 8, 11, 17)] := vx_table (x := yL_undo) B (atoms_spec (ws := Cond.codeWith yL_undo cL_undo 3 (some .int) [(0, 8, 11, 17)] :: GW) B.pre _ List.mem_cons_self)
  have w := WD.of hPW
  have hl := lv_entry ([.ref (x.2.2 79), .ref (x.2.2 87)]) (n := 3) (Nat.le_of_ble_eq_true rfl)
  rw [lg_entry_eq]
  generalize (lg_sl ([.ref (x.2.2 79), .ref (x.2.2 87)]) ++ List.replicate (3 - (lg_sl ([.ref (x.2.2 79), .ref (x.2.2 87)])).length) Slot.unset).toArray = ls at hl ⊢
  have hl : lv_has ls 3 [(0, .ref (x.2.2 79)), (1, .ref (x.2.2 87))] := hl
  exact b_L_undo F htab hls _ _ _ _ w  hl hf
