theorem cy_X1_at : CY yX1_at RX1 cX1_at 2 (some .int) 1 := ⟨q5, q705, rfl, by decide, by decide, by decide +kernel⟩
def f_X1_at_22 (S : ST) (as0 : Int32) : Option (Int32 × ST) := some (as0, S)
set_option maxHeartbeats 4000000 in
set_option maxRecDepth 100000 in
theorem b_X1_at_22 {p : Program} {l : Launch} {e : Env} {s : State} {m : MethodId} {args : Array Value} {below : List Frame} {meth : Method} {c : Code} {x : CX} {res : Int32 × ST} (F : MF p m meth c cX1_at 2 s args RX1 (some .int)) : ∀ (H : Heap) (locs : List Loc) (ls : Array Slot) (S : ST), WD x s S H locs → ∀ (as0 : Int32), lv_has ls 2 [] → f_X1_at_22 S as0 = some res → W p l e ({ frames := 0, cells := 0, slots := 0, locals := 0 } : Room) s m args below meth c H locs 0 0 (MQ below (QI x res.2 res.1 s.heap.size) args s 0 0 (AA x s.heap.size)) (F0 m 22 ls [.int as0]) := by
  intro H locs ls S w as0 hl hf
  unfold f_X1_at_22 at hf
  exact r_iret F w (oi_s hf) dX1_at_22
def f_X1_at_21 (S : ST)  : Option (Int32 × ST) := f_X1_at_22 S (-1)
set_option maxHeartbeats 4000000 in
set_option maxRecDepth 100000 in
theorem b_X1_at_21 {p : Program} {l : Launch} {e : Env} {s : State} {m : MethodId} {args : Array Value} {below : List Frame} {meth : Method} {c : Code} {x : CX} {res : Int32 × ST} (F : MF p m meth c cX1_at 2 s args RX1 (some .int)) : ∀ (H : Heap) (locs : List Loc) (ls : Array Slot) (S : ST), WD x s S H locs → lv_has ls 2 [] → f_X1_at_21 S = some res → W p l e ({ frames := 0, cells := 0, slots := 0, locals := 0 } : Room) s m args below meth c H locs 0 0 (MQ below (QI x res.2 res.1 s.heap.size) args s 0 0 (AA x s.heap.size)) (F0 m 21 ls []) := by
  intro H locs ls S w hl hf
  unfold f_X1_at_21 at hf
  refine lv_iconst (v := (-1)) F.1 F.2.1 dX1_at_21 (by decide) ?_
  exact b_X1_at_22 F  _ _ _ _ w (-1) (lv_sub hl [] rfl) hf
def f_X1_at_0 (S : ST) (i0 : Nat) (a1 : Int32) : Option (Int32 × ST) := (if a1 < 0 then f_X1_at_21 S else (if (fi S i0) ≤ a1 then f_X1_at_21 S else oG (inB a1 24) (f_X1_at_22 S (ai S i0 (Int32.toNatClampNeg a1)))))
set_option maxHeartbeats 4000000 in
set_option maxRecDepth 100000 in
theorem b_X1_at_0 {p : Program} {l : Launch} {e : Env} {s : State} {m : MethodId} {args : Array Value} {below : List Frame} {meth : Method} {c : Code} {x : CX} {res : Int32 × ST} (F : MF p m meth c cX1_at 2 s args RX1 (some .int)) : ∀ (H : Heap) (locs : List Loc) (ls : Array Slot) (S : ST), WD x s S H locs → ∀ (i0 : Nat) (a1 : Int32), 22 ≤ i0 ∧ i0 < 24 → lv_has ls 2 [(0, .ref (x.2.2 (2 * i0))), (1, .int a1)] → f_X1_at_0 S i0 a1 = some res → W p l e ({ frames := 0, cells := 0, slots := 0, locals := 0 } : Room) s m args below meth c H locs 0 0 (MQ below (QI x res.2 res.1 s.heap.size) args s 0 0 (AA x s.heap.size)) (F0 m 0 ls []) := by
  intro H locs ls S w i0 a1 h0 hl hf
  unfold f_X1_at_0 at hf
  refine lv_iload_n F.1 F.2.1 dX1_at_0 rfl (lv_at hl 1 rfl) ?_
  refine lv_if_lt (tgt := 21) F.1 F.2.1 dX1_at_1 (by decide) (fun c1 => ?_) (fun c1 => ?_)
  · replace hf := oi_t hf c1
    exact b_X1_at_21 F  _ _ _ _ w  (lv_sub hl [] rfl) hf
  · replace hf := oi_f hf c1
    refine lv_iload_n F.1 F.2.1 dX1_at_4 rfl (lv_at hl 1 rfl) ?_
    refine lv_aload_n F.1 F.2.1 dX1_at_5 rfl (lv_at hl 0 rfl) ?_
    refine g_GP_count (i := i0) F w h0 q95 dX1_at_6 ?_
    refine lv_icmp_ge (tgt := 21) F.1 F.2.1 dX1_at_9 (by decide) (fun c2 => ?_) (fun c2 => ?_)
    · replace hf := oi_t hf c2
      exact b_X1_at_21 F  _ _ _ _ w  (lv_sub hl [] rfl) hf
    · replace hf := oi_f hf c2
      refine lv_aload_n F.1 F.2.1 dX1_at_12 rfl (lv_at hl 0 rfl) ?_
      refine g_GP_gaps (i := i0) F w h0 q94 dX1_at_13 ?_
      refine lv_iload_n F.1 F.2.1 dX1_at_16 rfl (lv_at hl 1 rfl) ?_
      obtain ⟨hb3, hf⟩ := oi_g hf
      refine r_iald F w (k := 2 * i0 + 1) (f := ai S i0) (k_ma (And.right h0)) (enc_ma x S (And.right h0)) hb3 dX1_at_17 ?_
      refine lv_goto (tgt := 22) F.1 F.2.1 dX1_at_18 (by decide) ?_
      exact b_X1_at_22 F  _ _ _ _ w (ai S i0 (Int32.toNatClampNeg a1)) (lv_sub hl [] rfl) hf
def f_X1_at (S : ST) (i0 : Nat) (a1 : Int32) : Option (Int32 × ST) := f_X1_at_0 S i0 a1
set_option maxHeartbeats 4000000 in
set_option maxRecDepth 100000 in
theorem k_X1_at (l : Launch) (x : CX) (S : ST) (i0 : Nat) (a1 : Int32) (h0 : 22 ≤ i0 ∧ i0 < 24) {res : Int32 × ST} (hf : f_X1_at S i0 a1 = some res) (sz : Nat) : Met l yX1_at (Cond.code yX1_at cX1_at 2 (some .int) :: GW) ({ frames := 0, cells := 0, slots := 0, locals := 0 } : Room) (PC x S sz [.ref (x.2.2 (2 * i0)), .int a1]) (QI x res.2 res.1 sz) 0 0 (AA x sz) := by
  refine Met.ofW (cc := cX1_at) (maxL := 2) (ret := (some .int)) (by decide) rfl ?_
  intro p e s m args below meth c s₁ B hml hv
  obtain ⟨rfl, rfl, hPW⟩ := hv
  have F : MF p m meth c cX1_at 2 s _ RX1 (some .int) := MF.of B hml
  have w := WD.of hPW
  have hl := lv_entry ([.ref (x.2.2 (2 * i0)), .int a1]) (n := 2) (Nat.le_of_ble_eq_true rfl)
  rw [lg_entry_eq]
  generalize (lg_sl ([.ref (x.2.2 (2 * i0)), .int a1]) ++ List.replicate (2 - (lg_sl ([.ref (x.2.2 (2 * i0)), .int a1])).length) Slot.unset).toArray = ls at hl ⊢
  have hl : lv_has ls 2 [(0, .ref (x.2.2 (2 * i0))), (1, .int a1)] := hl
  unfold f_X1_at at hf
  exact b_X1_at_0 F  _ _ _ _ w i0 a1 h0 (lv_sub hl [0, 1] rfl) hf
theorem cy_X1_around : CY yX1_around RX1 cX1_around 2 (some .int) 1 := ⟨q5, q701, rfl, by decide, by decide, by decide +kernel⟩
def f_X1_around_26 (S : ST) (as0 : Int32) : Option (Int32 × ST) := some (as0, S)
set_option maxHeartbeats 4000000 in
set_option maxRecDepth 100000 in
theorem b_X1_around_26 {p : Program} {l : Launch} {e : Env} {s : State} {m : MethodId} {args : Array Value} {below : List Frame} {meth : Method} {c : Code} {x : CX} {res : Int32 × ST} (F : MF p m meth c cX1_around 2 s args RX1 (some .int)) : ∀ (H : Heap) (locs : List Loc) (ls : Array Slot) (S : ST), WD x s S H locs → ∀ (as0 : Int32), lv_has ls 2 [] → f_X1_around_26 S as0 = some res → W p l e ({ frames := 1, cells := 0, slots := 0, locals := 21 } : Room) s m args below meth c H locs 0 0 (MQ below (QI x res.2 res.1 s.heap.size) args s 0 0 (AA x s.heap.size)) (F0 m 26 ls [.int as0]) := by
  intro H locs ls S w as0 hl hf
  unfold f_X1_around_26 at hf
  exact r_iret F w (oi_s hf) dX1_around_26
def f_X1_around_0 (S : ST) (i0 : Nat) (a1 : Int32) : Option (Int32 × ST) := (if (fi S i0) ≤ a1 then oB (f_X1_at S i0 (a1 - (fi S i0))) (fun (r3 : Int32) (S2 : ST) => f_X1_around_26 S2 r3) else oB (f_X1_at S i0 a1) (fun (r5 : Int32) (S4 : ST) => f_X1_around_26 S4 r5))
set_option maxHeartbeats 4000000 in
set_option maxRecDepth 100000 in
theorem b_X1_around_0 {p : Program} {l : Launch} {e : Env} {s : State} {m : MethodId} {args : Array Value} {below : List Frame} {meth : Method} {c : Code} {x : CX} {res : Int32 × ST} (F : MF p m meth c cX1_around 2 s args RX1 (some .int)) : ∀ (H : Heap) (locs : List Loc) (ls : Array Slot) (S : ST), WD x s S H locs → ∀ (i0 : Nat) (a1 : Int32), 22 ≤ i0 ∧ i0 < 24 → lv_has ls 2 [(0, .ref (x.2.2 (2 * i0))), (1, .int a1)] → f_X1_around_0 S i0 a1 = some res → W p l e ({ frames := 1, cells := 0, slots := 0, locals := 21 } : Room) s m args below meth c H locs 0 0 (MQ below (QI x res.2 res.1 s.heap.size) args s 0 0 (AA x s.heap.size)) (F0 m 0 ls []) := by
  intro H locs ls S w i0 a1 h0 hl hf
  unfold f_X1_around_0 at hf
  refine lv_iload_n F.1 F.2.1 dX1_around_0 rfl (lv_at hl 1 rfl) ?_
  refine lv_aload_n F.1 F.2.1 dX1_around_1 rfl (lv_at hl 0 rfl) ?_
  refine g_GP_count (i := i0) F w h0 q95 dX1_around_2 ?_
  refine lv_icmp_ge (tgt := 16) F.1 F.2.1 dX1_around_5 (by decide) (fun c1 => ?_) (fun c1 => ?_)
  · replace hf := oi_t hf c1
    refine lv_aload_n F.1 F.2.1 dX1_around_16 rfl (lv_at hl 0 rfl) ?_
    refine lv_iload_n F.1 F.2.1 dX1_around_17 rfl (lv_at hl 1 rfl) ?_
    refine lv_aload_n F.1 F.2.1 dX1_around_18 rfl (lv_at hl 0 rfl) ?_
    refine g_GP_count (i := i0) F w h0 q95 dX1_around_19 ?_
    refine lv_isub F.1 F.2.1 dX1_around_22 ?_
    obtain ⟨r3, S2, hc, hf⟩ := oi_b hf
    refine k_i0 (S' := S2) (r := r3) w (runV (As := [.int (a1 - (fi S i0))]) (rest := []) (kb := 2 * i0) F w (k_X1_at l x S i0 (a1 - (fi S i0)) h0 hc H.size) cy_X1_at q702 q703 q704 ⟨rfl, rfl⟩ ⟨Nat.le_of_ble_eq_true rfl, Nat.le_of_ble_eq_true rfl⟩ (k_gp h0) (enc_gp x S h0) rfl rfl rfl hl.1 (Nat.le_of_ble_eq_true rfl) ⟨Nat.le_of_ble_eq_true rfl, Nat.le_of_ble_eq_true rfl⟩ dX1_around_23) (fun H locs w => ?_)
    exact b_X1_around_26 F  _ _ _ _ w r3 (lv_sub hl [] rfl) hf
  · replace hf := oi_f hf c1
    refine lv_aload_n F.1 F.2.1 dX1_around_8 rfl (lv_at hl 0 rfl) ?_
    refine lv_iload_n F.1 F.2.1 dX1_around_9 rfl (lv_at hl 1 rfl) ?_
    obtain ⟨r5, S4, hc, hf⟩ := oi_b hf
    refine k_i0 (S' := S4) (r := r5) w (runV (As := [.int a1]) (rest := []) (kb := 2 * i0) F w (k_X1_at l x S i0 a1 h0 hc H.size) cy_X1_at q702 q703 q704 ⟨rfl, rfl⟩ ⟨Nat.le_of_ble_eq_true rfl, Nat.le_of_ble_eq_true rfl⟩ (k_gp h0) (enc_gp x S h0) rfl rfl rfl hl.1 (Nat.le_of_ble_eq_true rfl) ⟨Nat.le_of_ble_eq_true rfl, Nat.le_of_ble_eq_true rfl⟩ dX1_around_10) (fun H locs w => ?_)
    refine lv_goto (tgt := 26) F.1 F.2.1 dX1_around_13 (by decide) ?_
    exact b_X1_around_26 F  _ _ _ _ w r5 (lv_sub hl [] rfl) hf
def f_X1_around (S : ST) (i0 : Nat) (a1 : Int32) : Option (Int32 × ST) := f_X1_around_0 S i0 a1
set_option maxHeartbeats 4000000 in
set_option maxRecDepth 100000 in
theorem k_X1_around (l : Launch) (x : CX) (S : ST) (i0 : Nat) (a1 : Int32) (h0 : 22 ≤ i0 ∧ i0 < 24) {res : Int32 × ST} (hf : f_X1_around S i0 a1 = some res) (sz : Nat) : Met l yX1_around (Cond.code yX1_around cX1_around 2 (some .int) :: GW) ({ frames := 1, cells := 0, slots := 0, locals := 21 } : Room) (PC x S sz [.ref (x.2.2 (2 * i0)), .int a1]) (QI x res.2 res.1 sz) 0 0 (AA x sz) := by
  refine Met.ofW (cc := cX1_around) (maxL := 2) (ret := (some .int)) (by decide) rfl ?_
  intro p e s m args below meth c s₁ B hml hv
  obtain ⟨rfl, rfl, hPW⟩ := hv
  have F : MF p m meth c cX1_around 2 s _ RX1 (some .int) := MF.of B hml
  have w := WD.of hPW
  have hl := lv_entry ([.ref (x.2.2 (2 * i0)), .int a1]) (n := 2) (Nat.le_of_ble_eq_true rfl)
  rw [lg_entry_eq]
  generalize (lg_sl ([.ref (x.2.2 (2 * i0)), .int a1]) ++ List.replicate (2 - (lg_sl ([.ref (x.2.2 (2 * i0)), .int a1])).length) Slot.unset).toArray = ls at hl ⊢
  have hl : lv_has ls 2 [(0, .ref (x.2.2 (2 * i0))), (1, .int a1)] := hl
  unfold f_X1_around at hf
  exact b_X1_around_0 F  _ _ _ _ w i0 a1 h0 (lv_sub hl [0, 1] rfl) hf
theorem cy_X1_push : CY yX1_push RX1 cX1_push 2 none 1 := ⟨q5, q688, rfl, by decide, by decide, by decide +kernel⟩
def f_X1_push_29 (S : ST)  : Option (ST) := some S
set_option maxHeartbeats 4000000 in
set_option maxRecDepth 100000 in
theorem b_X1_push_29 {p : Program} {l : Launch} {e : Env} {s : State} {m : MethodId} {args : Array Value} {below : List Frame} {meth : Method} {c : Code} {x : CX} {res : ST} (F : MF p m meth c cX1_push 2 s args RX1 none) : ∀ (H : Heap) (locs : List Loc) (ls : Array Slot) (S : ST), WD x s S H locs → lv_has ls 2 [] → f_X1_push_29 S = some res → W p l e ({ frames := 0, cells := 0, slots := 0, locals := 0 } : Room) s m args below meth c H locs 0 0 (MQ below (QV x res s.heap.size) args s 0 0 (AA x s.heap.size)) (F0 m 29 ls []) := by
  intro H locs ls S w hl hf
  unfold f_X1_push_29 at hf
  exact r_vret F w (oi_s hf) dX1_push_29
def f_X1_push_0 (S : ST) (i0 : Nat) (a1 : Int32) : Option (ST) := (if 24 ≤ (fi S i0) then f_X1_push_29 S else oG (inB (fi S i0) 24) (oL (sA S i0 (upd (ai S i0) (Int32.toNatClampNeg (fi S i0)) a1)) (fun (S3 : ST) => oL (sI S3 i0 ((fi S3 i0) + (1 : Int32))) (fun (S4 : ST) => f_X1_push_29 S4))))
set_option maxHeartbeats 4000000 in
set_option maxRecDepth 100000 in
theorem b_X1_push_0 {p : Program} {l : Launch} {e : Env} {s : State} {m : MethodId} {args : Array Value} {below : List Frame} {meth : Method} {c : Code} {x : CX} {res : ST} (F : MF p m meth c cX1_push 2 s args RX1 none) : ∀ (H : Heap) (locs : List Loc) (ls : Array Slot) (S : ST), WD x s S H locs → ∀ (i0 : Nat) (a1 : Int32), 22 ≤ i0 ∧ i0 < 24 → lv_has ls 2 [(0, .ref (x.2.2 (2 * i0))), (1, .int a1)] → f_X1_push_0 S i0 a1 = some res → W p l e ({ frames := 0, cells := 0, slots := 0, locals := 0 } : Room) s m args below meth c H locs 0 0 (MQ below (QV x res s.heap.size) args s 0 0 (AA x s.heap.size)) (F0 m 0 ls []) := by
  intro H locs ls S w i0 a1 h0 hl hf
  unfold f_X1_push_0 at hf
  refine lv_aload_n F.1 F.2.1 dX1_push_0 rfl (lv_at hl 0 rfl) ?_
  refine g_GP_count (i := i0) F w h0 q95 dX1_push_1 ?_
  refine lv_bipush (v := 24) F.1 F.2.1 dX1_push_4 (by decide) ?_
  refine lv_icmp_ge (tgt := 29) F.1 F.2.1 dX1_push_6 (by decide) (fun c1 => ?_) (fun c1 => ?_)
  · replace hf := oi_t hf c1
    exact b_X1_push_29 F  _ _ _ _ w  (lv_sub hl [] rfl) hf
  · replace hf := oi_f hf c1
    refine lv_aload_n F.1 F.2.1 dX1_push_9 rfl (lv_at hl 0 rfl) ?_
    refine g_GP_gaps (i := i0) F w h0 q94 dX1_push_10 ?_
    refine lv_aload_n F.1 F.2.1 dX1_push_13 rfl (lv_at hl 0 rfl) ?_
    refine g_GP_count (i := i0) F w h0 q95 dX1_push_14 ?_
    refine lv_iload_n F.1 F.2.1 dX1_push_17 rfl (lv_at hl 1 rfl) ?_
    obtain ⟨hb2, hf⟩ := oi_g hf
    refine r_iast F w (k := 2 * i0 + 1) (a := i0) (n := 24) (k_ma (And.right h0)) (fun S9 => (enc_ma x S9 (And.right h0))) (cA_ma (And.right h0)) hb2 dX1_push_18 (fun H locs w => ?_)
    obtain ⟨S3, e_S3⟩ : ∃ y : ST, y = sA S i0 (upd (ai S i0) (Int32.toNatClampNeg (fi S i0)) a1) := ⟨_, rfl⟩
    replace w : WD x s S3 H locs := by rw [e_S3]; exact w
    replace hf := oi_l hf e_S3
    refine lv_aload_n F.1 F.2.1 dX1_push_19 rfl (lv_at hl 0 rfl) ?_
    refine lv_dup F.1 F.2.1 dX1_push_20 rfl ?_
    refine g_GP_count (i := i0) F w h0 q95 dX1_push_21 ?_
    refine lv_iconst (v := 1) F.1 F.2.1 dX1_push_24 (by decide) ?_
    refine lv_iadd F.1 F.2.1 dX1_push_25 ?_
    refine p_GP_count (i := i0) F w h0 q95 dX1_push_26 (fun H locs w => ?_)
    obtain ⟨S4, e_S4⟩ : ∃ y : ST, y = sI S3 i0 ((fi S3 i0) + (1 : Int32)) := ⟨_, rfl⟩
    replace w : WD x s S4 H locs := by rw [e_S4]; exact w
    replace hf := oi_l hf e_S4
    exact b_X1_push_29 F  _ _ _ _ w  (lv_sub hl [] rfl) hf
def f_X1_push (S : ST) (i0 : Nat) (a1 : Int32) : Option (ST) := f_X1_push_0 S i0 a1
set_option maxHeartbeats 4000000 in
set_option maxRecDepth 100000 in
theorem k_X1_push (l : Launch) (x : CX) (S : ST) (i0 : Nat) (a1 : Int32) (h0 : 22 ≤ i0 ∧ i0 < 24) {res : ST} (hf : f_X1_push S i0 a1 = some res) (sz : Nat) : Met l yX1_push (Cond.code yX1_push cX1_push 2 none :: GW) ({ frames := 0, cells := 0, slots := 0, locals := 0 } : Room) (PC x S sz [.ref (x.2.2 (2 * i0)), .int a1]) (QV x res sz) 0 0 (AA x sz) := by
  refine Met.ofW (cc := cX1_push) (maxL := 2) (ret := none) (by decide) rfl ?_
  intro p e s m args below meth c s₁ B hml hv
  obtain ⟨rfl, rfl, hPW⟩ := hv
  have F : MF p m meth c cX1_push 2 s _ RX1 none := MF.of B hml
  have w := WD.of hPW
  have hl := lv_entry ([.ref (x.2.2 (2 * i0)), .int a1]) (n := 2) (Nat.le_of_ble_eq_true rfl)
  rw [lg_entry_eq]
  generalize (lg_sl ([.ref (x.2.2 (2 * i0)), .int a1]) ++ List.replicate (2 - (lg_sl ([.ref (x.2.2 (2 * i0)), .int a1])).length) Slot.unset).toArray = ls at hl ⊢
  have hl : lv_has ls 2 [(0, .ref (x.2.2 (2 * i0))), (1, .int a1)] := hl
  unfold f_X1_push at hf
  exact b_X1_push_0 F  _ _ _ _ w i0 a1 h0 (lv_sub hl [0, 1] rfl) hf
theorem cy_X1_measure : CY yX1_measure RX1 cX1_measure 4 none 2 := ⟨q5, q683, rfl, by decide, by decide, by decide +kernel⟩
def f_X1_measure_7 : Nat → ST → Nat → Nat → Int32 → Int32 → Option (ST)
  | 0, _, _, _, _, _ => none
  | n + 1, S, i0, i1, a2, a3 => (if (fi S i1) ≤ a3 then oB (f_X2_span S i1) (fun (r3 : Int32) (S2 : ST) => oV (f_X1_push S2 i0 (a2 - r3)) (fun (S4 : ST) => some S4)) else oB (f_X2_at S i1 a3) (fun (r6 : Int32) (S5 : ST) => oB (f_X2_at S5 i1 (a3 - (1 : Int32))) (fun (r8 : Int32) (S7 : ST) => oV (f_X1_push S7 i0 (r6 - r8)) (fun (S9 : ST) => oL (a3 + 1) (fun (v10 : Int32) => (f_X1_measure_7 n) S9 i0 i1 a2 v10)))))
set_option maxHeartbeats 4000000 in
set_option maxRecDepth 100000 in
theorem b_X1_measure_7 {p : Program} {l : Launch} {e : Env} {s : State} {m : MethodId} {args : Array Value} {below : List Frame} {meth : Method} {c : Code} {x : CX} {res : ST} (F : MF p m meth c cX1_measure 4 s args RX1 none) : ∀ (n : Nat), ∀ (H : Heap) (locs : List Loc) (ls : Array Slot) (S : ST), WD x s S H locs → ∀ (i0 : Nat) (i1 : Nat) (a2 : Int32) (a3 : Int32), 22 ≤ i0 ∧ i0 < 24 → i1 < 22 → lv_has ls 4 [(0, .ref (x.2.2 (2 * i0))), (1, .ref (x.2.2 (2 * i1))), (2, .int a2), (3, .int a3)] → f_X1_measure_7 n S i0 i1 a2 a3 = some res → W p l e ({ frames := 3, cells := 0, slots := 0, locals := 61 } : Room) s m args below meth c H locs 0 0 (MQ below (QV x res s.heap.size) args s 0 0 (AA x s.heap.size)) (F0 m 7 ls []) := by
  intro n
  induction n with
  | zero =>
    intro H locs ls S w i0 i1 a2 a3 h0 h1 hl hf
    have hf : (none : Option (ST)) = some res := hf
    cases hf
  | succ n ih =>
    intro H locs ls S w i0 i1 a2 a3 h0 h1 hl hf
    unfold f_X1_measure_7 at hf
    refine lv_iload_n F.1 F.2.1 dX1_measure_7 rfl (lv_at hl 3 rfl) ?_
    refine lv_aload_n F.1 F.2.1 dX1_measure_8 rfl (lv_at hl 1 rfl) ?_
    refine gN_MS_count (i := i1) F w h1 (by simp [NF]) dX1_measure_9 ?_
    refine lv_icmp_ge (tgt := 38) F.1 F.2.1 dX1_measure_12 (by decide) (fun c1 => ?_) (fun c1 => ?_)
    · replace hf := oi_t hf c1
      refine lv_aload_n F.1 F.2.1 dX1_measure_38 rfl (lv_at hl 0 rfl) ?_
      refine lv_iload_n F.1 F.2.1 dX1_measure_39 rfl (lv_at hl 2 rfl) ?_
      refine lv_aload_n F.1 F.2.1 dX1_measure_40 rfl (lv_at hl 1 rfl) ?_
      obtain ⟨r3, S2, hc, hf⟩ := oi_b hf
      refine k_i0 (S' := S2) (r := r3) w (runV (As := []) (rest := [.int a2, .ref (x.2.2 (2 * i0))]) (kb := 2 * i1) F w (k_X2_span l x S i1 h1 hc H.size) cy_X2_span q689 q535 q536 ⟨rfl, rfl⟩ ⟨Nat.le_of_ble_eq_true rfl, Nat.le_of_ble_eq_true rfl⟩ (k_ms h1) (enc_ms x S h1) rfl rfl rfl hl.1 (Nat.le_of_ble_eq_true rfl) ⟨Nat.le_of_ble_eq_true rfl, Nat.le_of_ble_eq_true rfl⟩ dX1_measure_41) (fun H locs w => ?_)
      refine lv_isub F.1 F.2.1 dX1_measure_44 ?_
      obtain ⟨S4, hc, hf⟩ := oi_v hf
      refine k_v0 (S' := S4) w (runV (As := [.int (a2 - r3)]) (rest := []) (kb := 2 * i0) F w (k_X1_push l x S2 i0 (a2 - r3) h0 hc H.size) cy_X1_push q685 q686 q687 ⟨rfl, rfl⟩ ⟨Nat.le_of_ble_eq_true rfl, Nat.le_of_ble_eq_true rfl⟩ (k_gp h0) (enc_gp x S2 h0) rfl rfl rfl hl.1 (Nat.le_of_ble_eq_true rfl) ⟨Nat.le_of_ble_eq_true rfl, Nat.le_of_ble_eq_true rfl⟩ dX1_measure_45) (fun H locs w => ?_)
      exact r_vret F w (oi_s hf) dX1_measure_48
    · replace hf := oi_f hf c1
      refine lv_aload_n F.1 F.2.1 dX1_measure_15 rfl (lv_at hl 0 rfl) ?_
      refine lv_aload_n F.1 F.2.1 dX1_measure_16 rfl (lv_at hl 1 rfl) ?_
      refine lv_iload_n F.1 F.2.1 dX1_measure_17 rfl (lv_at hl 3 rfl) ?_
      obtain ⟨r6, S5, hc, hf⟩ := oi_b hf
      refine k_i0 (S' := S5) (r := r6) w (runV (As := [.int a3]) (rest := [.ref (x.2.2 (2 * i0))]) (kb := 2 * i1) F w (k_X2_at l x S i1 a3 h1 hc H.size) cy_X2_at q684 q217 q218 ⟨rfl, rfl⟩ ⟨Nat.le_of_ble_eq_true rfl, Nat.le_of_ble_eq_true rfl⟩ (k_ms h1) (enc_ms x S h1) rfl rfl rfl hl.1 (Nat.le_of_ble_eq_true rfl) ⟨Nat.le_of_ble_eq_true rfl, Nat.le_of_ble_eq_true rfl⟩ dX1_measure_18) (fun H locs w => ?_)
      refine lv_aload_n F.1 F.2.1 dX1_measure_21 rfl (lv_at hl 1 rfl) ?_
      refine lv_iload_n F.1 F.2.1 dX1_measure_22 rfl (lv_at hl 3 rfl) ?_
      refine lv_iconst (v := 1) F.1 F.2.1 dX1_measure_23 (by decide) ?_
      refine lv_isub F.1 F.2.1 dX1_measure_24 ?_
      obtain ⟨r8, S7, hc, hf⟩ := oi_b hf
      refine k_i0 (S' := S7) (r := r8) w (runV (As := [.int (a3 - (1 : Int32))]) (rest := [.int r6, .ref (x.2.2 (2 * i0))]) (kb := 2 * i1) F w (k_X2_at l x S5 i1 (a3 - (1 : Int32)) h1 hc H.size) cy_X2_at q684 q217 q218 ⟨rfl, rfl⟩ ⟨Nat.le_of_ble_eq_true rfl, Nat.le_of_ble_eq_true rfl⟩ (k_ms h1) (enc_ms x S5 h1) rfl rfl rfl hl.1 (Nat.le_of_ble_eq_true rfl) ⟨Nat.le_of_ble_eq_true rfl, Nat.le_of_ble_eq_true rfl⟩ dX1_measure_25) (fun H locs w => ?_)
      refine lv_isub F.1 F.2.1 dX1_measure_28 ?_
      obtain ⟨S9, hc, hf⟩ := oi_v hf
      refine k_v0 (S' := S9) w (runV (As := [.int (r6 - r8)]) (rest := []) (kb := 2 * i0) F w (k_X1_push l x S7 i0 (r6 - r8) h0 hc H.size) cy_X1_push q685 q686 q687 ⟨rfl, rfl⟩ ⟨Nat.le_of_ble_eq_true rfl, Nat.le_of_ble_eq_true rfl⟩ (k_gp h0) (enc_gp x S7 h0) rfl rfl rfl hl.1 (Nat.le_of_ble_eq_true rfl) ⟨Nat.le_of_ble_eq_true rfl, Nat.le_of_ble_eq_true rfl⟩ dX1_measure_29) (fun H locs w => ?_)
      obtain ⟨v10, e_v10⟩ : ∃ y : Int32, y = (a3 + 1) := ⟨_, rfl⟩
      replace hf := oi_l hf e_v10
      refine lv_iinc (v := v10) (lv' := [(3, .int v10), (0, .ref (x.2.2 (2 * i0))), (1, .ref (x.2.2 (2 * i1))), (2, .int a2)]) F.1 F.2.1 dX1_measure_32 hl (k := 3) rfl (by rw [e_v10]; rfl) (by decide) rfl (fun ls hl => ?_)
      refine lv_goto (tgt := 7) F.1 F.2.1 dX1_measure_35 (by decide) ?_
      exact ih _ _ _ _ w i0 i1 a2 v10 h0 h1 (lv_sub hl [1, 2, 3, 0] rfl) hf
def f_X1_measure_0 (S : ST) (i0 : Nat) (i1 : Nat) (a2 : Int32) : Option (ST) := oL (sI S i0 0) (fun (S1 : ST) => f_X1_measure_7 FU S1 i0 i1 a2 1)
set_option maxHeartbeats 4000000 in
set_option maxRecDepth 100000 in
theorem b_X1_measure_0 {p : Program} {l : Launch} {e : Env} {s : State} {m : MethodId} {args : Array Value} {below : List Frame} {meth : Method} {c : Code} {x : CX} {res : ST} (F : MF p m meth c cX1_measure 4 s args RX1 none) : ∀ (H : Heap) (locs : List Loc) (ls : Array Slot) (S : ST), WD x s S H locs → ∀ (i0 : Nat) (i1 : Nat) (a2 : Int32), 22 ≤ i0 ∧ i0 < 24 → i1 < 22 → lv_has ls 4 [(0, .ref (x.2.2 (2 * i0))), (1, .ref (x.2.2 (2 * i1))), (2, .int a2)] → f_X1_measure_0 S i0 i1 a2 = some res → W p l e ({ frames := 3, cells := 0, slots := 0, locals := 61 } : Room) s m args below meth c H locs 0 0 (MQ below (QV x res s.heap.size) args s 0 0 (AA x s.heap.size)) (F0 m 0 ls []) := by
  intro H locs ls S w i0 i1 a2 h0 h1 hl hf
  unfold f_X1_measure_0 at hf
  refine lv_aload_n F.1 F.2.1 dX1_measure_0 rfl (lv_at hl 0 rfl) ?_
  refine lv_iconst (v := 0) F.1 F.2.1 dX1_measure_1 (by decide) ?_
  refine p_GP_count (i := i0) F w h0 q95 dX1_measure_2 (fun H locs w => ?_)
  obtain ⟨S1, e_S1⟩ : ∃ y : ST, y = sI S i0 0 := ⟨_, rfl⟩
  replace w : WD x s S1 H locs := by rw [e_S1]; exact w
  replace hf := oi_l hf e_S1
  refine lv_iconst (v := 1) F.1 F.2.1 dX1_measure_5 (by decide) ?_
  refine lv_istore_n (lv' := [(3, .int 1), (0, .ref (x.2.2 (2 * i0))), (1, .ref (x.2.2 (2 * i1))), (2, .int a2)]) F.1 F.2.1 dX1_measure_6 rfl hl (by decide) rfl (fun ls hl => ?_)
  exact b_X1_measure_7 F FU _ _ _ _ w i0 i1 a2 1 h0 h1 (lv_sub hl [1, 2, 3, 0] rfl) hf
def f_X1_measure (S : ST) (i0 : Nat) (i1 : Nat) (a2 : Int32) : Option (ST) := f_X1_measure_0 S i0 i1 a2
set_option maxHeartbeats 4000000 in
set_option maxRecDepth 100000 in
theorem k_X1_measure (l : Launch) (x : CX) (S : ST) (i0 : Nat) (i1 : Nat) (a2 : Int32) (h0 : 22 ≤ i0 ∧ i0 < 24) (h1 : i1 < 22) {res : ST} (hf : f_X1_measure S i0 i1 a2 = some res) (sz : Nat) : Met l yX1_measure (Cond.code yX1_measure cX1_measure 4 none :: GW) ({ frames := 3, cells := 0, slots := 0, locals := 61 } : Room) (PC x S sz [.ref (x.2.2 (2 * i0)), .ref (x.2.2 (2 * i1)), .int a2]) (QV x res sz) 0 0 (AA x sz) := by
  refine Met.ofW (cc := cX1_measure) (maxL := 4) (ret := none) (by decide) rfl ?_
  intro p e s m args below meth c s₁ B hml hv
  obtain ⟨rfl, rfl, hPW⟩ := hv
  have F : MF p m meth c cX1_measure 4 s _ RX1 none := MF.of B hml
  have w := WD.of hPW
  have hl := lv_entry ([.ref (x.2.2 (2 * i0)), .ref (x.2.2 (2 * i1)), .int a2]) (n := 4) (Nat.le_of_ble_eq_true rfl)
  rw [lg_entry_eq]
  generalize (lg_sl ([.ref (x.2.2 (2 * i0)), .ref (x.2.2 (2 * i1)), .int a2]) ++ List.replicate (4 - (lg_sl ([.ref (x.2.2 (2 * i0)), .ref (x.2.2 (2 * i1)), .int a2])).length) Slot.unset).toArray = ls at hl ⊢
  have hl : lv_has ls 4 [(0, .ref (x.2.2 (2 * i0))), (1, .ref (x.2.2 (2 * i1))), (2, .int a2)] := hl
  unfold f_X1_measure at hf
  exact b_X1_measure_0 F  _ _ _ _ w i0 i1 a2 h0 h1 (lv_sub hl [0, 1, 2] rfl) hf
theorem cy_X1_reverse : CY yX1_reverse RX1 cX1_reverse 4 none 0 := ⟨q5, q722, rfl, by decide, by decide, by decide +kernel⟩
def f_X1_reverse_9 : Nat → ST → Nat → Int32 → Int32 → Option (ST)
  | 0, _, _, _, _ => none
  | n + 1, S, i0, a1, a2 => (if a2 ≤ a1 then some S else oG (inB a1 24) (oL (ai S i0 (Int32.toNatClampNeg a1)) (fun (v3 : Int32) => oG (inB a2 24) (oG (inB a1 24) (oL (sA S i0 (upd (ai S i0) (Int32.toNatClampNeg a1) (ai S i0 (Int32.toNatClampNeg a2)))) (fun (S6 : ST) => oG (inB a2 24) (oL (sA S6 i0 (upd (ai S6 i0) (Int32.toNatClampNeg a2) v3)) (fun (S8 : ST) => oL (a1 + 1) (fun (v9 : Int32) => oL (a2 + (-1)) (fun (v10 : Int32) => (f_X1_reverse_9 n) S8 i0 v9 v10))))))))))
set_option maxHeartbeats 4000000 in
set_option maxRecDepth 100000 in
theorem b_X1_reverse_9 {p : Program} {l : Launch} {e : Env} {s : State} {m : MethodId} {args : Array Value} {below : List Frame} {meth : Method} {c : Code} {x : CX} {res : ST} (F : MF p m meth c cX1_reverse 4 s args RX1 none) : ∀ (n : Nat), ∀ (H : Heap) (locs : List Loc) (ls : Array Slot) (S : ST), WD x s S H locs → ∀ (i0 : Nat) (a1 : Int32) (a2 : Int32), 22 ≤ i0 ∧ i0 < 24 → lv_has ls 4 [(0, .ref (x.2.2 (2 * i0))), (1, .int a1), (2, .int a2)] → f_X1_reverse_9 n S i0 a1 a2 = some res → W p l e ({ frames := 0, cells := 0, slots := 0, locals := 0 } : Room) s m args below meth c H locs 0 0 (MQ below (QV x res s.heap.size) args s 0 0 (AA x s.heap.size)) (F0 m 9 ls []) := by
  intro n
  induction n with
  | zero =>
    intro H locs ls S w i0 a1 a2 h0 hl hf
    have hf : (none : Option (ST)) = some res := hf
    cases hf
  | succ n ih =>
    intro H locs ls S w i0 a1 a2 h0 hl hf
    unfold f_X1_reverse_9 at hf
    refine lv_iload_n F.1 F.2.1 dX1_reverse_9 rfl (lv_at hl 1 rfl) ?_
    refine lv_iload_n F.1 F.2.1 dX1_reverse_10 rfl (lv_at hl 2 rfl) ?_
    refine lv_icmp_ge (tgt := 49) F.1 F.2.1 dX1_reverse_11 (by decide) (fun c1 => ?_) (fun c1 => ?_)
    · replace hf := oi_t hf c1
      exact r_vret F w (oi_s hf) dX1_reverse_49
    · replace hf := oi_f hf c1
      refine lv_aload_n F.1 F.2.1 dX1_reverse_14 rfl (lv_at hl 0 rfl) ?_
      refine g_GP_gaps (i := i0) F w h0 q94 dX1_reverse_15 ?_
      refine lv_iload_n F.1 F.2.1 dX1_reverse_18 rfl (lv_at hl 1 rfl) ?_
      obtain ⟨hb2, hf⟩ := oi_g hf
      refine r_iald F w (k := 2 * i0 + 1) (f := ai S i0) (k_ma (And.right h0)) (enc_ma x S (And.right h0)) hb2 dX1_reverse_19 ?_
      refine lv_topi (fun v3 e_v3 => ?_)
      replace hf := oi_l hf e_v3
      refine lv_istore_n (lv' := [(3, .int v3), (0, .ref (x.2.2 (2 * i0))), (1, .int a1), (2, .int a2)]) F.1 F.2.1 dX1_reverse_20 rfl hl (by decide) rfl (fun ls hl => ?_)
      refine lv_aload_n F.1 F.2.1 dX1_reverse_21 rfl (lv_at hl 1 rfl) ?_
      refine g_GP_gaps (i := i0) F w h0 q94 dX1_reverse_22 ?_
      refine lv_iload_n F.1 F.2.1 dX1_reverse_25 rfl (lv_at hl 2 rfl) ?_
      refine lv_aload_n F.1 F.2.1 dX1_reverse_26 rfl (lv_at hl 1 rfl) ?_
      refine g_GP_gaps (i := i0) F w h0 q94 dX1_reverse_27 ?_
      refine lv_iload_n F.1 F.2.1 dX1_reverse_30 rfl (lv_at hl 3 rfl) ?_
      obtain ⟨hb4, hf⟩ := oi_g hf
      refine r_iald F w (k := 2 * i0 + 1) (f := ai S i0) (k_ma (And.right h0)) (enc_ma x S (And.right h0)) hb4 dX1_reverse_31 ?_
      obtain ⟨hb5, hf⟩ := oi_g hf
      refine r_iast F w (k := 2 * i0 + 1) (a := i0) (n := 24) (k_ma (And.right h0)) (fun S9 => (enc_ma x S9 (And.right h0))) (cA_ma (And.right h0)) hb5 dX1_reverse_32 (fun H locs w => ?_)
      obtain ⟨S6, e_S6⟩ : ∃ y : ST, y = sA S i0 (upd (ai S i0) (Int32.toNatClampNeg a1) (ai S i0 (Int32.toNatClampNeg a2))) := ⟨_, rfl⟩
      replace w : WD x s S6 H locs := by rw [e_S6]; exact w
      replace hf := oi_l hf e_S6
      refine lv_aload_n F.1 F.2.1 dX1_reverse_33 rfl (lv_at hl 1 rfl) ?_
      refine g_GP_gaps (i := i0) F w h0 q94 dX1_reverse_34 ?_
      refine lv_iload_n F.1 F.2.1 dX1_reverse_37 rfl (lv_at hl 3 rfl) ?_
      refine lv_iload_n F.1 F.2.1 dX1_reverse_38 rfl (lv_at hl 0 rfl) ?_
      obtain ⟨hb7, hf⟩ := oi_g hf
      refine r_iast F w (k := 2 * i0 + 1) (a := i0) (n := 24) (k_ma (And.right h0)) (fun S9 => (enc_ma x S9 (And.right h0))) (cA_ma (And.right h0)) hb7 dX1_reverse_39 (fun H locs w => ?_)
      obtain ⟨S8, e_S8⟩ : ∃ y : ST, y = sA S6 i0 (upd (ai S6 i0) (Int32.toNatClampNeg a2) v3) := ⟨_, rfl⟩
      replace w : WD x s S8 H locs := by rw [e_S8]; exact w
      replace hf := oi_l hf e_S8
      obtain ⟨v9, e_v9⟩ : ∃ y : Int32, y = (a1 + 1) := ⟨_, rfl⟩
      replace hf := oi_l hf e_v9
      refine lv_iinc (v := v9) (lv' := [(1, .int v9), (3, .int v3), (0, .ref (x.2.2 (2 * i0))), (2, .int a2)]) F.1 F.2.1 dX1_reverse_40 hl (k := 2) rfl (by rw [e_v9]; rfl) (by decide) rfl (fun ls hl => ?_)
      obtain ⟨v10, e_v10⟩ : ∃ y : Int32, y = (a2 + (-1)) := ⟨_, rfl⟩
      replace hf := oi_l hf e_v10
      refine lv_iinc (v := v10) (lv' := [(2, .int v10), (1, .int v9), (3, .int v3), (0, .ref (x.2.2 (2 * i0)))]) F.1 F.2.1 dX1_reverse_43 hl (k := 3) rfl (by rw [e_v10]; rfl) (by decide) rfl (fun ls hl => ?_)
      refine lv_goto (tgt := 9) F.1 F.2.1 dX1_reverse_46 (by decide) ?_
      exact ih _ _ _ _ w i0 v9 v10 h0 (lv_sub hl [3, 1, 0] rfl) hf
def f_X1_reverse_0 (S : ST) (i0 : Nat) : Option (ST) := oL ((fi S i0) - (1 : Int32)) (fun (v1 : Int32) => f_X1_reverse_9 FU S i0 0 v1)
set_option maxHeartbeats 4000000 in
set_option maxRecDepth 100000 in
theorem b_X1_reverse_0 {p : Program} {l : Launch} {e : Env} {s : State} {m : MethodId} {args : Array Value} {below : List Frame} {meth : Method} {c : Code} {x : CX} {res : ST} (F : MF p m meth c cX1_reverse 4 s args RX1 none) : ∀ (H : Heap) (locs : List Loc) (ls : Array Slot) (S : ST), WD x s S H locs → ∀ (i0 : Nat), 22 ≤ i0 ∧ i0 < 24 → lv_has ls 4 [(0, .ref (x.2.2 (2 * i0)))] → f_X1_reverse_0 S i0 = some res → W p l e ({ frames := 0, cells := 0, slots := 0, locals := 0 } : Room) s m args below meth c H locs 0 0 (MQ below (QV x res s.heap.size) args s 0 0 (AA x s.heap.size)) (F0 m 0 ls []) := by
  intro H locs ls S w i0 h0 hl hf
  unfold f_X1_reverse_0 at hf
  refine lv_iconst (v := 0) F.1 F.2.1 dX1_reverse_0 (by decide) ?_
  refine lv_istore_n (lv' := [(1, .int 0), (0, .ref (x.2.2 (2 * i0)))]) F.1 F.2.1 dX1_reverse_1 rfl hl (by decide) rfl (fun ls hl => ?_)
  refine lv_aload_n F.1 F.2.1 dX1_reverse_2 rfl (lv_at hl 1 rfl) ?_
  refine g_GP_count (i := i0) F w h0 q95 dX1_reverse_3 ?_
  refine lv_iconst (v := 1) F.1 F.2.1 dX1_reverse_6 (by decide) ?_
  refine lv_isub F.1 F.2.1 dX1_reverse_7 ?_
  refine lv_topi (fun v1 e_v1 => ?_)
  replace hf := oi_l hf e_v1
  refine lv_istore_n (lv' := [(2, .int v1), (1, .int 0), (0, .ref (x.2.2 (2 * i0)))]) F.1 F.2.1 dX1_reverse_8 rfl hl (by decide) rfl (fun ls hl => ?_)
  exact b_X1_reverse_9 F FU _ _ _ _ w i0 0 v1 h0 (lv_sub hl [2, 1, 0] rfl) hf
def f_X1_reverse (S : ST) (i0 : Nat) : Option (ST) := f_X1_reverse_0 S i0
set_option maxHeartbeats 4000000 in
set_option maxRecDepth 100000 in
theorem k_X1_reverse (l : Launch) (x : CX) (S : ST) (i0 : Nat) (h0 : 22 ≤ i0 ∧ i0 < 24) {res : ST} (hf : f_X1_reverse S i0 = some res) (sz : Nat) : Met l yX1_reverse (Cond.code yX1_reverse cX1_reverse 4 none :: GW) ({ frames := 0, cells := 0, slots := 0, locals := 0 } : Room) (PC x S sz [.ref (x.2.2 (2 * i0))]) (QV x res sz) 0 0 (AA x sz) := by
  refine Met.ofW (cc := cX1_reverse) (maxL := 4) (ret := none) (by decide) rfl ?_
  intro p e s m args below meth c s₁ B hml hv
  obtain ⟨rfl, rfl, hPW⟩ := hv
  have F : MF p m meth c cX1_reverse 4 s _ RX1 none := MF.of B hml
  have w := WD.of hPW
  have hl := lv_entry ([.ref (x.2.2 (2 * i0))]) (n := 4) (Nat.le_of_ble_eq_true rfl)
  rw [lg_entry_eq]
  generalize (lg_sl ([.ref (x.2.2 (2 * i0))]) ++ List.replicate (4 - (lg_sl ([.ref (x.2.2 (2 * i0))])).length) Slot.unset).toArray = ls at hl ⊢
  have hl : lv_has ls 4 [(0, .ref (x.2.2 (2 * i0)))] := hl
  unfold f_X1_reverse at hf
  exact b_X1_reverse_0 F  _ _ _ _ w i0 h0 (lv_sub hl [0] rfl) hf
theorem cy_X1_mayComeBefore : CY yX1_mayComeBefore RX1 cX1_mayComeBefore 5 (some .boolean) 1 := ⟨q5, q714, rfl, by decide, by decide, by decide +kernel⟩
def f_X1_mayComeBefore_58 (S : ST)  : Option (Int32 × ST) := some (1, S)
set_option maxHeartbeats 4000000 in
set_option maxRecDepth 100000 in
theorem b_X1_mayComeBefore_58 {p : Program} {l : Launch} {e : Env} {s : State} {m : MethodId} {args : Array Value} {below : List Frame} {meth : Method} {c : Code} {x : CX} {res : Int32 × ST} (F : MF p m meth c cX1_mayComeBefore 5 s args RX1 (some .boolean)) : ∀ (H : Heap) (locs : List Loc) (ls : Array Slot) (S : ST), WD x s S H locs → lv_has ls 5 [] → f_X1_mayComeBefore_58 S = some res → W p l e ({ frames := 2, cells := 0, slots := 0, locals := 42 } : Room) s m args below meth c H locs 0 0 (MQ below (QI x res.2 res.1 s.heap.size) args s 0 0 (AA x s.heap.size)) (F0 m 58 ls []) := by
  intro H locs ls S w hl hf
  unfold f_X1_mayComeBefore_58 at hf
  refine lv_iconst (v := 1) F.1 F.2.1 dX1_mayComeBefore_58 (by decide) ?_
  exact r_zret F w rfl (oi_s hf) dX1_mayComeBefore_59
def f_X1_mayComeBefore_60 (k15 : ST → Nat → Int32 → Int32 → Int32 → Option (Int32 × ST)) (S : ST) (i0 : Nat) (a2 : Int32) (a3 : Int32) (a4 : Int32) : Option (Int32 × ST) := oL (a4 + 1) (fun (v1 : Int32) => k15 S i0 a2 a3 v1)
set_option maxHeartbeats 4000000 in
set_option maxRecDepth 100000 in
theorem b_X1_mayComeBefore_60 {p : Program} {l : Launch} {e : Env} {s : State} {m : MethodId} {args : Array Value} {below : List Frame} {meth : Method} {c : Code} {x : CX} {res : Int32 × ST} (F : MF p m meth c cX1_mayComeBefore 5 s args RX1 (some .boolean)) (k15 : ST → Nat → Int32 → Int32 → Int32 → Option (Int32 × ST)) (hk15 : ∀ (H : Heap) (locs : List Loc) (ls : Array Slot) (S : ST), WD x s S H locs → ∀ (i0 : Nat) (a2 : Int32) (a3 : Int32) (a4 : Int32), 22 ≤ i0 ∧ i0 < 24 → lv_has ls 5 [(0, .ref (x.2.2 (2 * i0))), (2, .int a2), (3, .int a3), (4, .int a4)] → k15 S i0 a2 a3 a4 = some res → W p l e ({ frames := 2, cells := 0, slots := 0, locals := 42 } : Room) s m args below meth c H locs 0 0 (MQ below (QI x res.2 res.1 s.heap.size) args s 0 0 (AA x s.heap.size)) (F0 m 15 ls [])) : ∀ (H : Heap) (locs : List Loc) (ls : Array Slot) (S : ST), WD x s S H locs → ∀ (i0 : Nat) (a2 : Int32) (a3 : Int32) (a4 : Int32), 22 ≤ i0 ∧ i0 < 24 → lv_has ls 5 [(0, .ref (x.2.2 (2 * i0))), (2, .int a2), (3, .int a3), (4, .int a4)] → f_X1_mayComeBefore_60 k15 S i0 a2 a3 a4 = some res → W p l e ({ frames := 2, cells := 0, slots := 0, locals := 42 } : Room) s m args below meth c H locs 0 0 (MQ below (QI x res.2 res.1 s.heap.size) args s 0 0 (AA x s.heap.size)) (F0 m 60 ls []) := by
  intro H locs ls S w i0 a2 a3 a4 h0 hl hf
  unfold f_X1_mayComeBefore_60 at hf
  obtain ⟨v1, e_v1⟩ : ∃ y : Int32, y = (a4 + 1) := ⟨_, rfl⟩
  replace hf := oi_l hf e_v1
  refine lv_iinc (v := v1) (lv' := [(4, .int v1), (0, .ref (x.2.2 (2 * i0))), (2, .int a2), (3, .int a3)]) F.1 F.2.1 dX1_mayComeBefore_60 hl (k := 3) rfl (by rw [e_v1]; rfl) (by decide) rfl (fun ls hl => ?_)
  refine lv_goto (tgt := 15) F.1 F.2.1 dX1_mayComeBefore_63 (by decide) ?_
  exact hk15 _ _ _ _ w i0 a2 a3 v1 h0 (lv_sub hl [1, 2, 3, 0] rfl) hf
def f_X1_mayComeBefore_15 : Nat → ST → Nat → Int32 → Int32 → Int32 → Option (Int32 × ST)
  | 0, _, _, _, _, _ => none
  | n + 1, S, i0, a2, a3, a4 => (if (fi S i0) ≤ a4 then some (0, S) else oG (inB a4 24) ((if (ai S i0 (Int32.toNatClampNeg a4)) < a2 then f_X1_mayComeBefore_58 S else oG (inB a4 24) ((if (ai S i0 (Int32.toNatClampNeg a4)) = a2 then oB (f_X1_around S i0 (a4 + (1 : Int32))) (fun (r7 : Int32) (S6 : ST) => (if a3 < r7 then f_X1_mayComeBefore_60 (f_X1_mayComeBefore_15 n) S6 i0 a2 a3 a4 else f_X1_mayComeBefore_58 S6)) else f_X1_mayComeBefore_60 (f_X1_mayComeBefore_15 n) S i0 a2 a3 a4)))))
set_option maxHeartbeats 4000000 in
set_option maxRecDepth 100000 in
theorem b_X1_mayComeBefore_15 {p : Program} {l : Launch} {e : Env} {s : State} {m : MethodId} {args : Array Value} {below : List Frame} {meth : Method} {c : Code} {x : CX} {res : Int32 × ST} (F : MF p m meth c cX1_mayComeBefore 5 s args RX1 (some .boolean)) : ∀ (n : Nat), ∀ (H : Heap) (locs : List Loc) (ls : Array Slot) (S : ST), WD x s S H locs → ∀ (i0 : Nat) (a2 : Int32) (a3 : Int32) (a4 : Int32), 22 ≤ i0 ∧ i0 < 24 → lv_has ls 5 [(0, .ref (x.2.2 (2 * i0))), (2, .int a2), (3, .int a3), (4, .int a4)] → f_X1_mayComeBefore_15 n S i0 a2 a3 a4 = some res → W p l e ({ frames := 2, cells := 0, slots := 0, locals := 42 } : Room) s m args below meth c H locs 0 0 (MQ below (QI x res.2 res.1 s.heap.size) args s 0 0 (AA x s.heap.size)) (F0 m 15 ls []) := by
  intro n
  induction n with
  | zero =>
    intro H locs ls S w i0 a2 a3 a4 h0 hl hf
    have hf : (none : Option (Int32 × ST)) = some res := hf
    cases hf
  | succ n ih =>
    intro H locs ls S w i0 a2 a3 a4 h0 hl hf
    unfold f_X1_mayComeBefore_15 at hf
    refine lv_iload F.1 F.2.1 dX1_mayComeBefore_15 (lv_at hl 3 rfl) ?_
    refine lv_aload_n F.1 F.2.1 dX1_mayComeBefore_17 rfl (lv_at hl 0 rfl) ?_
    refine g_GP_count (i := i0) F w h0 q95 dX1_mayComeBefore_18 ?_
    refine lv_icmp_ge (tgt := 66) F.1 F.2.1 dX1_mayComeBefore_21 (by decide) (fun c1 => ?_) (fun c1 => ?_)
    · replace hf := oi_t hf c1
      refine lv_iconst (v := 0) F.1 F.2.1 dX1_mayComeBefore_66 (by decide) ?_
      exact r_zret F w rfl (oi_s hf) dX1_mayComeBefore_67
    · replace hf := oi_f hf c1
      refine lv_aload_n F.1 F.2.1 dX1_mayComeBefore_24 rfl (lv_at hl 0 rfl) ?_
      refine g_GP_gaps (i := i0) F w h0 q94 dX1_mayComeBefore_25 ?_
      refine lv_iload F.1 F.2.1 dX1_mayComeBefore_28 (lv_at hl 3 rfl) ?_
      obtain ⟨hb2, hf⟩ := oi_g hf
      refine r_iald F w (k := 2 * i0 + 1) (f := ai S i0) (k_ma (And.right h0)) (enc_ma x S (And.right h0)) hb2 dX1_mayComeBefore_30 ?_
      refine lv_iload_n F.1 F.2.1 dX1_mayComeBefore_31 rfl (lv_at hl 1 rfl) ?_
      refine lv_icmp_lt (tgt := 58) F.1 F.2.1 dX1_mayComeBefore_32 (by decide) (fun c3 => ?_) (fun c3 => ?_)
      · replace hf := oi_t hf c3
        exact b_X1_mayComeBefore_58 F  _ _ _ _ w  (lv_sub hl [] rfl) hf
      · replace hf := oi_f hf c3
        refine lv_aload_n F.1 F.2.1 dX1_mayComeBefore_35 rfl (lv_at hl 0 rfl) ?_
        refine g_GP_gaps (i := i0) F w h0 q94 dX1_mayComeBefore_36 ?_
        refine lv_iload F.1 F.2.1 dX1_mayComeBefore_39 (lv_at hl 3 rfl) ?_
        obtain ⟨hb4, hf⟩ := oi_g hf
        refine r_iald F w (k := 2 * i0 + 1) (f := ai S i0) (k_ma (And.right h0)) (enc_ma x S (And.right h0)) hb4 dX1_mayComeBefore_41 ?_
        refine lv_iload_n F.1 F.2.1 dX1_mayComeBefore_42 rfl (lv_at hl 1 rfl) ?_
        refine lv_icmp_ne (tgt := 60) F.1 F.2.1 dX1_mayComeBefore_43 (by decide) (fun c5 => ?_) (fun c5 => ?_)
        · replace hf := oi_f hf c5
          exact b_X1_mayComeBefore_60 F (f_X1_mayComeBefore_15 n) ih _ _ _ _ w i0 a2 a3 a4 h0 (lv_sub hl [0, 1, 2, 3] rfl) hf
        · replace hf := oi_t hf c5
          refine lv_aload_n F.1 F.2.1 dX1_mayComeBefore_46 rfl (lv_at hl 0 rfl) ?_
          refine lv_iload F.1 F.2.1 dX1_mayComeBefore_47 (lv_at hl 3 rfl) ?_
          refine lv_iconst (v := 1) F.1 F.2.1 dX1_mayComeBefore_49 (by decide) ?_
          refine lv_iadd F.1 F.2.1 dX1_mayComeBefore_50 ?_
          obtain ⟨r7, S6, hc, hf⟩ := oi_b hf
          refine k_i0 (S' := S6) (r := r7) w (runV (As := [.int (a4 + (1 : Int32))]) (rest := []) (kb := 2 * i0) F w (k_X1_around l x S i0 (a4 + (1 : Int32)) h0 hc H.size) cy_X1_around q698 q699 q700 ⟨rfl, rfl⟩ ⟨Nat.le_of_ble_eq_true rfl, Nat.le_of_ble_eq_true rfl⟩ (k_gp h0) (enc_gp x S h0) rfl rfl rfl hl.1 (Nat.le_of_ble_eq_true rfl) ⟨Nat.le_of_ble_eq_true rfl, Nat.le_of_ble_eq_true rfl⟩ dX1_mayComeBefore_51) (fun H locs w => ?_)
          refine lv_iload_n F.1 F.2.1 dX1_mayComeBefore_54 rfl (lv_at hl 2 rfl) ?_
          refine lv_icmp_gt (tgt := 60) F.1 F.2.1 dX1_mayComeBefore_55 (by decide) (fun c8 => ?_) (fun c8 => ?_)
          · replace hf := oi_t hf c8
            exact b_X1_mayComeBefore_60 F (f_X1_mayComeBefore_15 n) ih _ _ _ _ w i0 a2 a3 a4 h0 (lv_sub hl [0, 1, 2, 3] rfl) hf
          · replace hf := oi_f hf c8
            exact b_X1_mayComeBefore_58 F  _ _ _ _ w  (lv_sub hl [] rfl) hf
def f_X1_mayComeBefore_0 (S : ST) (i0 : Nat) (i1 : Nat) : Option (Int32 × ST) := oB (f_X1_at S i1 0) (fun (r2 : Int32) (S1 : ST) => oB (f_X1_around S1 i1 1) (fun (r4 : Int32) (S3 : ST) => f_X1_mayComeBefore_15 FU S3 i0 r2 r4 0))
set_option maxHeartbeats 4000000 in
set_option maxRecDepth 100000 in
theorem b_X1_mayComeBefore_0 {p : Program} {l : Launch} {e : Env} {s : State} {m : MethodId} {args : Array Value} {below : List Frame} {meth : Method} {c : Code} {x : CX} {res : Int32 × ST} (F : MF p m meth c cX1_mayComeBefore 5 s args RX1 (some .boolean)) : ∀ (H : Heap) (locs : List Loc) (ls : Array Slot) (S : ST), WD x s S H locs → ∀ (i0 : Nat) (i1 : Nat), 22 ≤ i0 ∧ i0 < 24 → 22 ≤ i1 ∧ i1 < 24 → lv_has ls 5 [(0, .ref (x.2.2 (2 * i0))), (1, .ref (x.2.2 (2 * i1)))] → f_X1_mayComeBefore_0 S i0 i1 = some res → W p l e ({ frames := 2, cells := 0, slots := 0, locals := 42 } : Room) s m args below meth c H locs 0 0 (MQ below (QI x res.2 res.1 s.heap.size) args s 0 0 (AA x s.heap.size)) (F0 m 0 ls []) := by
  intro H locs ls S w i0 i1 h0 h1 hl hf
  unfold f_X1_mayComeBefore_0 at hf
  refine lv_aload_n F.1 F.2.1 dX1_mayComeBefore_0 rfl (lv_at hl 1 rfl) ?_
  refine lv_iconst (v := 0) F.1 F.2.1 dX1_mayComeBefore_1 (by decide) ?_
  obtain ⟨r2, S1, hc, hf⟩ := oi_b hf
  refine k_i0 (S' := S1) (r := r2) w (runV (As := [.int 0]) (rest := []) (kb := 2 * i1) F w (k_X1_at l x S i1 0 h1 hc H.size) cy_X1_at q702 q703 q704 ⟨rfl, rfl⟩ ⟨Nat.le_of_ble_eq_true rfl, Nat.le_of_ble_eq_true rfl⟩ (k_gp h1) (enc_gp x S h1) rfl rfl rfl hl.1 (Nat.le_of_ble_eq_true rfl) ⟨Nat.le_of_ble_eq_true rfl, Nat.le_of_ble_eq_true rfl⟩ dX1_mayComeBefore_2) (fun H locs w => ?_)
  refine lv_istore_n (lv' := [(2, .int r2), (0, .ref (x.2.2 (2 * i0))), (1, .ref (x.2.2 (2 * i1)))]) F.1 F.2.1 dX1_mayComeBefore_5 rfl hl (by decide) rfl (fun ls hl => ?_)
  refine lv_aload_n F.1 F.2.1 dX1_mayComeBefore_6 rfl (lv_at hl 2 rfl) ?_
  refine lv_iconst (v := 1) F.1 F.2.1 dX1_mayComeBefore_7 (by decide) ?_
  obtain ⟨r4, S3, hc, hf⟩ := oi_b hf
  refine k_i0 (S' := S3) (r := r4) w (runV (As := [.int 1]) (rest := []) (kb := 2 * i1) F w (k_X1_around l x S1 i1 1 h1 hc H.size) cy_X1_around q698 q699 q700 ⟨rfl, rfl⟩ ⟨Nat.le_of_ble_eq_true rfl, Nat.le_of_ble_eq_true rfl⟩ (k_gp h1) (enc_gp x S1 h1) rfl rfl rfl hl.1 (Nat.le_of_ble_eq_true rfl) ⟨Nat.le_of_ble_eq_true rfl, Nat.le_of_ble_eq_true rfl⟩ dX1_mayComeBefore_8) (fun H locs w => ?_)
  refine lv_istore_n (lv' := [(3, .int r4), (2, .int r2), (0, .ref (x.2.2 (2 * i0))), (1, .ref (x.2.2 (2 * i1)))]) F.1 F.2.1 dX1_mayComeBefore_11 rfl hl (by decide) rfl (fun ls hl => ?_)
  refine lv_iconst (v := 0) F.1 F.2.1 dX1_mayComeBefore_12 (by decide) ?_
  refine lv_istore (lv' := [(4, .int 0), (3, .int r4), (2, .int r2), (0, .ref (x.2.2 (2 * i0))), (1, .ref (x.2.2 (2 * i1)))]) F.1 F.2.1 dX1_mayComeBefore_13 hl (by decide) rfl (fun ls hl => ?_)
  exact b_X1_mayComeBefore_15 F FU _ _ _ _ w i0 r2 r4 0 h0 (lv_sub hl [3, 2, 1, 0] rfl) hf
def f_X1_mayComeBefore (S : ST) (i0 : Nat) (i1 : Nat) : Option (Int32 × ST) := f_X1_mayComeBefore_0 S i0 i1
set_option maxHeartbeats 4000000 in
set_option maxRecDepth 100000 in
theorem k_X1_mayComeBefore (l : Launch) (x : CX) (S : ST) (i0 : Nat) (i1 : Nat) (h0 : 22 ≤ i0 ∧ i0 < 24) (h1 : 22 ≤ i1 ∧ i1 < 24) {res : Int32 × ST} (hf : f_X1_mayComeBefore S i0 i1 = some res) (sz : Nat) : Met l yX1_mayComeBefore (Cond.code yX1_mayComeBefore cX1_mayComeBefore 5 (some .boolean) :: GW) ({ frames := 2, cells := 0, slots := 0, locals := 42 } : Room) (PC x S sz [.ref (x.2.2 (2 * i0)), .ref (x.2.2 (2 * i1))]) (QI x res.2 res.1 sz) 0 0 (AA x sz) := by
  refine Met.ofW (cc := cX1_mayComeBefore) (maxL := 5) (ret := (some .boolean)) (by decide) rfl ?_
  intro p e s m args below meth c s₁ B hml hv
  obtain ⟨rfl, rfl, hPW⟩ := hv
  have F : MF p m meth c cX1_mayComeBefore 5 s _ RX1 (some .boolean) := MF.of B hml
  have w := WD.of hPW
  have hl := lv_entry ([.ref (x.2.2 (2 * i0)), .ref (x.2.2 (2 * i1))]) (n := 5) (Nat.le_of_ble_eq_true rfl)
  rw [lg_entry_eq]
  generalize (lg_sl ([.ref (x.2.2 (2 * i0)), .ref (x.2.2 (2 * i1))]) ++ List.replicate (5 - (lg_sl ([.ref (x.2.2 (2 * i0)), .ref (x.2.2 (2 * i1))])).length) Slot.unset).toArray = ls at hl ⊢
  have hl : lv_has ls 5 [(0, .ref (x.2.2 (2 * i0))), (1, .ref (x.2.2 (2 * i1)))] := hl
  unfold f_X1_mayComeBefore at hf
  exact b_X1_mayComeBefore_0 F  _ _ _ _ w i0 i1 h0 h1 (lv_sub hl [0, 1] rfl) hf
theorem cy_X1_firstRotation : CY yX1_firstRotation RX1 cX1_firstRotation 6 (some .int) 0 := ⟨q5, q697, rfl, by decide, by decide, by decide +kernel⟩
def f_X1_firstRotation_113 (k9 : ST → Nat → Int32 → Int32 → Int32 → Int32 → Option (Int32 × ST)) (S : ST) (i0 : Nat) (a1 : Int32) (a2 : Int32) (a3 : Int32) (a4 : Int32) : Option (Int32 × ST) := oL (a4 + 1) (fun (v1 : Int32) => k9 S i0 a1 a2 a3 v1)
set_option maxHeartbeats 4000000 in
set_option maxRecDepth 100000 in
theorem b_X1_firstRotation_113 {p : Program} {l : Launch} {e : Env} {s : State} {m : MethodId} {args : Array Value} {below : List Frame} {meth : Method} {c : Code} {x : CX} {res : Int32 × ST} (F : MF p m meth c cX1_firstRotation 6 s args RX1 (some .int)) (k9 : ST → Nat → Int32 → Int32 → Int32 → Int32 → Option (Int32 × ST)) (hk9 : ∀ (H : Heap) (locs : List Loc) (ls : Array Slot) (S : ST), WD x s S H locs → ∀ (i0 : Nat) (a1 : Int32) (a2 : Int32) (a3 : Int32) (a4 : Int32), 22 ≤ i0 ∧ i0 < 24 → lv_has ls 6 [(0, .ref (x.2.2 (2 * i0))), (1, .int a1), (2, .int a2), (3, .int a3), (4, .int a4)] → k9 S i0 a1 a2 a3 a4 = some res → W p l e ({ frames := 2, cells := 0, slots := 0, locals := 42 } : Room) s m args below meth c H locs 0 0 (MQ below (QI x res.2 res.1 s.heap.size) args s 0 0 (AA x s.heap.size)) (F0 m 9 ls [])) : ∀ (H : Heap) (locs : List Loc) (ls : Array Slot) (S : ST), WD x s S H locs → ∀ (i0 : Nat) (a1 : Int32) (a2 : Int32) (a3 : Int32) (a4 : Int32), 22 ≤ i0 ∧ i0 < 24 → lv_has ls 6 [(0, .ref (x.2.2 (2 * i0))), (1, .int a1), (2, .int a2), (3, .int a3), (4, .int a4)] → f_X1_firstRotation_113 k9 S i0 a1 a2 a3 a4 = some res → W p l e ({ frames := 2, cells := 0, slots := 0, locals := 42 } : Room) s m args below meth c H locs 0 0 (MQ below (QI x res.2 res.1 s.heap.size) args s 0 0 (AA x s.heap.size)) (F0 m 113 ls []) := by
  intro H locs ls S w i0 a1 a2 a3 a4 h0 hl hf
  unfold f_X1_firstRotation_113 at hf
  obtain ⟨v1, e_v1⟩ : ∃ y : Int32, y = (a4 + 1) := ⟨_, rfl⟩
  replace hf := oi_l hf e_v1
  refine lv_iinc (v := v1) (lv' := [(4, .int v1), (0, .ref (x.2.2 (2 * i0))), (1, .int a1), (2, .int a2), (3, .int a3)]) F.1 F.2.1 dX1_firstRotation_113 hl (k := 4) rfl (by rw [e_v1]; rfl) (by decide) rfl (fun ls hl => ?_)
  refine lv_goto (tgt := 9) F.1 F.2.1 dX1_firstRotation_116 (by decide) ?_
  exact hk9 _ _ _ _ w i0 a1 a2 a3 v1 h0 (lv_sub hl [1, 2, 3, 4, 0] rfl) hf
def f_X1_firstRotation_109 (k9 : ST → Nat → Int32 → Int32 → Int32 → Int32 → Option (Int32 × ST)) (S : ST) (i0 : Nat) (a1 : Int32) (a4 : Int32) (as0 : Int32) (as1 : Int32) : Option (Int32 × ST) := oL (as1 + as0) (fun (v1 : Int32) => f_X1_firstRotation_113 k9 S i0 a1 v1 0 a4)
set_option maxHeartbeats 4000000 in
set_option maxRecDepth 100000 in
theorem b_X1_firstRotation_109 {p : Program} {l : Launch} {e : Env} {s : State} {m : MethodId} {args : Array Value} {below : List Frame} {meth : Method} {c : Code} {x : CX} {res : Int32 × ST} (F : MF p m meth c cX1_firstRotation 6 s args RX1 (some .int)) (k9 : ST → Nat → Int32 → Int32 → Int32 → Int32 → Option (Int32 × ST)) (hk9 : ∀ (H : Heap) (locs : List Loc) (ls : Array Slot) (S : ST), WD x s S H locs → ∀ (i0 : Nat) (a1 : Int32) (a2 : Int32) (a3 : Int32) (a4 : Int32), 22 ≤ i0 ∧ i0 < 24 → lv_has ls 6 [(0, .ref (x.2.2 (2 * i0))), (1, .int a1), (2, .int a2), (3, .int a3), (4, .int a4)] → k9 S i0 a1 a2 a3 a4 = some res → W p l e ({ frames := 2, cells := 0, slots := 0, locals := 42 } : Room) s m args below meth c H locs 0 0 (MQ below (QI x res.2 res.1 s.heap.size) args s 0 0 (AA x s.heap.size)) (F0 m 9 ls [])) : ∀ (H : Heap) (locs : List Loc) (ls : Array Slot) (S : ST), WD x s S H locs → ∀ (i0 : Nat) (a1 : Int32) (a4 : Int32) (as0 : Int32) (as1 : Int32), 22 ≤ i0 ∧ i0 < 24 → lv_has ls 6 [(0, .ref (x.2.2 (2 * i0))), (1, .int a1), (4, .int a4)] → f_X1_firstRotation_109 k9 S i0 a1 a4 as0 as1 = some res → W p l e ({ frames := 2, cells := 0, slots := 0, locals := 42 } : Room) s m args below meth c H locs 0 0 (MQ below (QI x res.2 res.1 s.heap.size) args s 0 0 (AA x s.heap.size)) (F0 m 109 ls [.int as0, .int as1]) := by
  intro H locs ls S w i0 a1 a4 as0 as1 h0 hl hf
  unfold f_X1_firstRotation_109 at hf
  refine lv_iadd F.1 F.2.1 dX1_firstRotation_109 ?_
  refine lv_topi (fun v1 e_v1 => ?_)
  replace hf := oi_l hf e_v1
  refine lv_istore_n (lv' := [(2, .int v1), (0, .ref (x.2.2 (2 * i0))), (1, .int a1), (4, .int a4)]) F.1 F.2.1 dX1_firstRotation_110 rfl hl (by decide) rfl (fun ls hl => ?_)
  refine lv_iconst (v := 0) F.1 F.2.1 dX1_firstRotation_111 (by decide) ?_
  refine lv_istore_n (lv' := [(3, .int 0), (2, .int v1), (0, .ref (x.2.2 (2 * i0))), (1, .int a1), (4, .int a4)]) F.1 F.2.1 dX1_firstRotation_112 rfl hl (by decide) rfl (fun ls hl => ?_)
  exact b_X1_firstRotation_113 F k9 hk9 _ _ _ _ w i0 a1 v1 0 a4 h0 (lv_sub hl [2, 3, 1, 0, 4] rfl) hf
def f_X1_firstRotation_96 (k9 : ST → Nat → Int32 → Int32 → Int32 → Int32 → Option (Int32 × ST)) (S : ST) (i0 : Nat) (a1 : Int32) (a4 : Int32) (as0 : Int32) (as1 : Int32) : Option (Int32 × ST) := oL (as1 + as0) (fun (v1 : Int32) => (if a1 = v1 then f_X1_firstRotation_109 k9 S i0 a1 a4 1 v1 else f_X1_firstRotation_109 k9 S i0 a1 a4 0 v1))
set_option maxHeartbeats 4000000 in
set_option maxRecDepth 100000 in
theorem b_X1_firstRotation_96 {p : Program} {l : Launch} {e : Env} {s : State} {m : MethodId} {args : Array Value} {below : List Frame} {meth : Method} {c : Code} {x : CX} {res : Int32 × ST} (F : MF p m meth c cX1_firstRotation 6 s args RX1 (some .int)) (k9 : ST → Nat → Int32 → Int32 → Int32 → Int32 → Option (Int32 × ST)) (hk9 : ∀ (H : Heap) (locs : List Loc) (ls : Array Slot) (S : ST), WD x s S H locs → ∀ (i0 : Nat) (a1 : Int32) (a2 : Int32) (a3 : Int32) (a4 : Int32), 22 ≤ i0 ∧ i0 < 24 → lv_has ls 6 [(0, .ref (x.2.2 (2 * i0))), (1, .int a1), (2, .int a2), (3, .int a3), (4, .int a4)] → k9 S i0 a1 a2 a3 a4 = some res → W p l e ({ frames := 2, cells := 0, slots := 0, locals := 42 } : Room) s m args below meth c H locs 0 0 (MQ below (QI x res.2 res.1 s.heap.size) args s 0 0 (AA x s.heap.size)) (F0 m 9 ls [])) : ∀ (H : Heap) (locs : List Loc) (ls : Array Slot) (S : ST), WD x s S H locs → ∀ (i0 : Nat) (a1 : Int32) (a4 : Int32) (as0 : Int32) (as1 : Int32), 22 ≤ i0 ∧ i0 < 24 → lv_has ls 6 [(0, .ref (x.2.2 (2 * i0))), (1, .int a1), (4, .int a4)] → f_X1_firstRotation_96 k9 S i0 a1 a4 as0 as1 = some res → W p l e ({ frames := 2, cells := 0, slots := 0, locals := 42 } : Room) s m args below meth c H locs 0 0 (MQ below (QI x res.2 res.1 s.heap.size) args s 0 0 (AA x s.heap.size)) (F0 m 96 ls [.int as0, .int as1]) := by
  intro H locs ls S w i0 a1 a4 as0 as1 h0 hl hf
  unfold f_X1_firstRotation_96 at hf
  refine lv_iadd F.1 F.2.1 dX1_firstRotation_96 ?_
  refine lv_topi (fun v1 e_v1 => ?_)
  replace hf := oi_l hf e_v1
  refine lv_istore_n (lv' := [(2, .int v1), (0, .ref (x.2.2 (2 * i0))), (1, .int a1), (4, .int a4)]) F.1 F.2.1 dX1_firstRotation_97 rfl hl (by decide) rfl (fun ls hl => ?_)
  refine lv_iload_n F.1 F.2.1 dX1_firstRotation_98 rfl (lv_at hl 0 rfl) ?_
  refine lv_iload_n F.1 F.2.1 dX1_firstRotation_99 rfl (lv_at hl 2 rfl) ?_
  refine lv_iload_n F.1 F.2.1 dX1_firstRotation_100 rfl (lv_at hl 0 rfl) ?_
  refine lv_icmp_ne (tgt := 108) F.1 F.2.1 dX1_firstRotation_101 (by decide) (fun c2 => ?_) (fun c2 => ?_)
  · replace hf := oi_f hf c2
    refine lv_iconst (v := 0) F.1 F.2.1 dX1_firstRotation_108 (by decide) ?_
    exact b_X1_firstRotation_109 F k9 hk9 _ _ _ _ w i0 a1 a4 0 v1 h0 (lv_sub hl [1, 2, 3] rfl) hf
  · replace hf := oi_t hf c2
    refine lv_iconst (v := 1) F.1 F.2.1 dX1_firstRotation_104 (by decide) ?_
    refine lv_goto (tgt := 109) F.1 F.2.1 dX1_firstRotation_105 (by decide) ?_
    exact b_X1_firstRotation_109 F k9 hk9 _ _ _ _ w i0 a1 a4 1 v1 h0 (lv_sub hl [1, 2, 3] rfl) hf
def f_X1_firstRotation_81 (k9 : ST → Nat → Int32 → Int32 → Int32 → Int32 → Option (Int32 × ST)) (S : ST) (i0 : Nat) (a2 : Int32) (a3 : Int32) (a4 : Int32) (a5 : Int32) (as0 : Int32) (as1 : Int32) : Option (Int32 × ST) := oL (as1 + as0) (fun (v1 : Int32) => (if 0 ≤ a5 then f_X1_firstRotation_96 k9 S i0 v1 a4 0 a2 else f_X1_firstRotation_96 k9 S i0 v1 a4 (a3 + (1 : Int32)) a2))
set_option maxHeartbeats 4000000 in
set_option maxRecDepth 100000 in
theorem b_X1_firstRotation_81 {p : Program} {l : Launch} {e : Env} {s : State} {m : MethodId} {args : Array Value} {below : List Frame} {meth : Method} {c : Code} {x : CX} {res : Int32 × ST} (F : MF p m meth c cX1_firstRotation 6 s args RX1 (some .int)) (k9 : ST → Nat → Int32 → Int32 → Int32 → Int32 → Option (Int32 × ST)) (hk9 : ∀ (H : Heap) (locs : List Loc) (ls : Array Slot) (S : ST), WD x s S H locs → ∀ (i0 : Nat) (a1 : Int32) (a2 : Int32) (a3 : Int32) (a4 : Int32), 22 ≤ i0 ∧ i0 < 24 → lv_has ls 6 [(0, .ref (x.2.2 (2 * i0))), (1, .int a1), (2, .int a2), (3, .int a3), (4, .int a4)] → k9 S i0 a1 a2 a3 a4 = some res → W p l e ({ frames := 2, cells := 0, slots := 0, locals := 42 } : Room) s m args below meth c H locs 0 0 (MQ below (QI x res.2 res.1 s.heap.size) args s 0 0 (AA x s.heap.size)) (F0 m 9 ls [])) : ∀ (H : Heap) (locs : List Loc) (ls : Array Slot) (S : ST), WD x s S H locs → ∀ (i0 : Nat) (a2 : Int32) (a3 : Int32) (a4 : Int32) (a5 : Int32) (as0 : Int32) (as1 : Int32), 22 ≤ i0 ∧ i0 < 24 → lv_has ls 6 [(0, .ref (x.2.2 (2 * i0))), (2, .int a2), (3, .int a3), (4, .int a4), (5, .int a5)] → f_X1_firstRotation_81 k9 S i0 a2 a3 a4 a5 as0 as1 = some res → W p l e ({ frames := 2, cells := 0, slots := 0, locals := 42 } : Room) s m args below meth c H locs 0 0 (MQ below (QI x res.2 res.1 s.heap.size) args s 0 0 (AA x s.heap.size)) (F0 m 81 ls [.int as0, .int as1]) := by
  intro H locs ls S w i0 a2 a3 a4 a5 as0 as1 h0 hl hf
  unfold f_X1_firstRotation_81 at hf
  refine lv_iadd F.1 F.2.1 dX1_firstRotation_81 ?_
  refine lv_topi (fun v1 e_v1 => ?_)
  replace hf := oi_l hf e_v1
  refine lv_istore_n (lv' := [(1, .int v1), (0, .ref (x.2.2 (2 * i0))), (2, .int a2), (3, .int a3), (4, .int a4), (5, .int a5)]) F.1 F.2.1 dX1_firstRotation_82 rfl hl (by decide) rfl (fun ls hl => ?_)
  refine lv_iload_n F.1 F.2.1 dX1_firstRotation_83 rfl (lv_at hl 2 rfl) ?_
  refine lv_iload F.1 F.2.1 dX1_firstRotation_84 (lv_at hl 5 rfl) ?_
  refine lv_if_ge (tgt := 95) F.1 F.2.1 dX1_firstRotation_86 (by decide) (fun c2 => ?_) (fun c2 => ?_)
  · replace hf := oi_t hf c2
    refine lv_iconst (v := 0) F.1 F.2.1 dX1_firstRotation_95 (by decide) ?_
    exact b_X1_firstRotation_96 F k9 hk9 _ _ _ _ w i0 v1 a4 0 a2 h0 (lv_sub hl [1, 0, 4] rfl) hf
  · replace hf := oi_f hf c2
    refine lv_iload_n F.1 F.2.1 dX1_firstRotation_89 rfl (lv_at hl 3 rfl) ?_
    refine lv_iconst (v := 1) F.1 F.2.1 dX1_firstRotation_90 (by decide) ?_
    refine lv_iadd F.1 F.2.1 dX1_firstRotation_91 ?_
    refine lv_goto (tgt := 96) F.1 F.2.1 dX1_firstRotation_92 (by decide) ?_
    exact b_X1_firstRotation_96 F k9 hk9 _ _ _ _ w i0 v1 a4 (a3 + (1 : Int32)) a2 h0 (lv_sub hl [1, 0, 4] rfl) hf
def f_X1_firstRotation_119 (S : ST) (a1 : Int32) (a2 : Int32) : Option (Int32 × ST) := some ((if a2 < a1 then a2 else a1), S)
set_option maxHeartbeats 4000000 in
set_option maxRecDepth 100000 in
theorem b_X1_firstRotation_119 {p : Program} {l : Launch} {e : Env} {s : State} {m : MethodId} {args : Array Value} {below : List Frame} {meth : Method} {c : Code} {x : CX} {res : Int32 × ST} (F : MF p m meth c cX1_firstRotation 6 s args RX1 (some .int)) : ∀ (H : Heap) (locs : List Loc) (ls : Array Slot) (S : ST), WD x s S H locs → ∀ (a1 : Int32) (a2 : Int32), lv_has ls 6 [(1, .int a1), (2, .int a2)] → f_X1_firstRotation_119 S a1 a2 = some res → W p l e ({ frames := 2, cells := 0, slots := 0, locals := 42 } : Room) s m args below meth c H locs 0 0 (MQ below (QI x res.2 res.1 s.heap.size) args s 0 0 (AA x s.heap.size)) (F0 m 119 ls []) := by
  intro H locs ls S w a1 a2 hl hf
  unfold f_X1_firstRotation_119 at hf
  refine lv_iload_n F.1 F.2.1 dX1_firstRotation_119 rfl (lv_at hl 0 rfl) ?_
  refine lv_iload_n F.1 F.2.1 dX1_firstRotation_120 rfl (lv_at hl 1 rfl) ?_
  refine va_mmin F.1 F.2.1 (F.2.2.1.trans hl.1.symm) F.2.2.2.1 (F.2.2.2.2.1 _ q706) (F.2.2.2.2.1 _ q482) (F.2.2.2.2.1 _ q18) (F.2.2.2.2.1 _ q483) (Nat.le_of_ble_eq_true rfl) (Nat.le_of_ble_eq_true rfl) (Nat.le_of_ble_eq_true rfl) (Nat.le_of_ble_eq_true rfl) dX1_firstRotation_121 ?_
  exact r_iret F w (oi_s hf) dX1_firstRotation_124
def f_X1_firstRotation_9 : Nat → ST → Nat → Int32 → Int32 → Int32 → Int32 → Option (Int32 × ST)
  | 0, _, _, _, _, _, _ => none
  | n + 1, S, i0, a1, a2, a3, a4 => (if 72 ≤ a4 then f_X1_firstRotation_119 S a1 a2 else (if (fi S i0) ≤ a1 then f_X1_firstRotation_119 S a1 a2 else (if (fi S i0) ≤ a2 then f_X1_firstRotation_119 S a1 a2 else (if (fi S i0) ≤ a3 then f_X1_firstRotation_119 S a1 a2 else oB (f_X1_around S i0 (a1 + a3)) (fun (r6 : Int32) (S5 : ST) => oB (f_X1_around S5 i0 (a2 + a3)) (fun (r8 : Int32) (S7 : ST) => oL (r6 - r8) (fun (v9 : Int32) => (if v9 = 0 then oL (a3 + 1) (fun (v12 : Int32) => f_X1_firstRotation_113 (f_X1_firstRotation_9 n) S7 i0 a1 a2 v12 a4) else (if v9 ≤ 0 then f_X1_firstRotation_81 (f_X1_firstRotation_9 n) S7 i0 a2 a3 a4 v9 0 a1 else f_X1_firstRotation_81 (f_X1_firstRotation_9 n) S7 i0 a2 a3 a4 v9 (a3 + (1 : Int32)) a1)))))))))
set_option maxHeartbeats 4000000 in
set_option maxRecDepth 100000 in
theorem b_X1_firstRotation_9 {p : Program} {l : Launch} {e : Env} {s : State} {m : MethodId} {args : Array Value} {below : List Frame} {meth : Method} {c : Code} {x : CX} {res : Int32 × ST} (F : MF p m meth c cX1_firstRotation 6 s args RX1 (some .int)) : ∀ (n : Nat), ∀ (H : Heap) (locs : List Loc) (ls : Array Slot) (S : ST), WD x s S H locs → ∀ (i0 : Nat) (a1 : Int32) (a2 : Int32) (a3 : Int32) (a4 : Int32), 22 ≤ i0 ∧ i0 < 24 → lv_has ls 6 [(0, .ref (x.2.2 (2 * i0))), (1, .int a1), (2, .int a2), (3, .int a3), (4, .int a4)] → f_X1_firstRotation_9 n S i0 a1 a2 a3 a4 = some res → W p l e ({ frames := 2, cells := 0, slots := 0, locals := 42 } : Room) s m args below meth c H locs 0 0 (MQ below (QI x res.2 res.1 s.heap.size) args s 0 0 (AA x s.heap.size)) (F0 m 9 ls []) := by
  intro n
  induction n with
  | zero =>
    intro H locs ls S w i0 a1 a2 a3 a4 h0 hl hf
    have hf : (none : Option (Int32 × ST)) = some res := hf
    cases hf
  | succ n ih =>
    intro H locs ls S w i0 a1 a2 a3 a4 h0 hl hf
    unfold f_X1_firstRotation_9 at hf
    refine lv_iload F.1 F.2.1 dX1_firstRotation_9 (lv_at hl 4 rfl) ?_
    refine lv_bipush (v := 72) F.1 F.2.1 dX1_firstRotation_11 (by decide) ?_
    refine lv_icmp_ge (tgt := 119) F.1 F.2.1 dX1_firstRotation_13 (by decide) (fun c1 => ?_) (fun c1 => ?_)
    · replace hf := oi_t hf c1
      exact b_X1_firstRotation_119 F  _ _ _ _ w a1 a2 (lv_sub hl [1, 2] rfl) hf
    · replace hf := oi_f hf c1
      refine lv_iload_n F.1 F.2.1 dX1_firstRotation_16 rfl (lv_at hl 1 rfl) ?_
      refine lv_aload_n F.1 F.2.1 dX1_firstRotation_17 rfl (lv_at hl 0 rfl) ?_
      refine g_GP_count (i := i0) F w h0 q95 dX1_firstRotation_18 ?_
      refine lv_icmp_ge (tgt := 119) F.1 F.2.1 dX1_firstRotation_21 (by decide) (fun c2 => ?_) (fun c2 => ?_)
      · replace hf := oi_t hf c2
        exact b_X1_firstRotation_119 F  _ _ _ _ w a1 a2 (lv_sub hl [1, 2] rfl) hf
      · replace hf := oi_f hf c2
        refine lv_iload_n F.1 F.2.1 dX1_firstRotation_24 rfl (lv_at hl 2 rfl) ?_
        refine lv_aload_n F.1 F.2.1 dX1_firstRotation_25 rfl (lv_at hl 0 rfl) ?_
        refine g_GP_count (i := i0) F w h0 q95 dX1_firstRotation_26 ?_
        refine lv_icmp_ge (tgt := 119) F.1 F.2.1 dX1_firstRotation_29 (by decide) (fun c3 => ?_) (fun c3 => ?_)
        · replace hf := oi_t hf c3
          exact b_X1_firstRotation_119 F  _ _ _ _ w a1 a2 (lv_sub hl [1, 2] rfl) hf
        · replace hf := oi_f hf c3
          refine lv_iload_n F.1 F.2.1 dX1_firstRotation_32 rfl (lv_at hl 3 rfl) ?_
          refine lv_aload_n F.1 F.2.1 dX1_firstRotation_33 rfl (lv_at hl 0 rfl) ?_
          refine g_GP_count (i := i0) F w h0 q95 dX1_firstRotation_34 ?_
          refine lv_icmp_ge (tgt := 119) F.1 F.2.1 dX1_firstRotation_37 (by decide) (fun c4 => ?_) (fun c4 => ?_)
          · replace hf := oi_t hf c4
            exact b_X1_firstRotation_119 F  _ _ _ _ w a1 a2 (lv_sub hl [1, 2] rfl) hf
          · replace hf := oi_f hf c4
            refine lv_aload_n F.1 F.2.1 dX1_firstRotation_40 rfl (lv_at hl 0 rfl) ?_
            refine lv_iload_n F.1 F.2.1 dX1_firstRotation_41 rfl (lv_at hl 1 rfl) ?_
            refine lv_iload_n F.1 F.2.1 dX1_firstRotation_42 rfl (lv_at hl 3 rfl) ?_
            refine lv_iadd F.1 F.2.1 dX1_firstRotation_43 ?_
            obtain ⟨r6, S5, hc, hf⟩ := oi_b hf
            refine k_i0 (S' := S5) (r := r6) w (runV (As := [.int (a1 + a3)]) (rest := []) (kb := 2 * i0) F w (k_X1_around l x S i0 (a1 + a3) h0 hc H.size) cy_X1_around q698 q699 q700 ⟨rfl, rfl⟩ ⟨Nat.le_of_ble_eq_true rfl, Nat.le_of_ble_eq_true rfl⟩ (k_gp h0) (enc_gp x S h0) rfl rfl rfl hl.1 (Nat.le_of_ble_eq_true rfl) ⟨Nat.le_of_ble_eq_true rfl, Nat.le_of_ble_eq_true rfl⟩ dX1_firstRotation_44) (fun H locs w => ?_)
            refine lv_aload_n F.1 F.2.1 dX1_firstRotation_47 rfl (lv_at hl 0 rfl) ?_
            refine lv_iload_n F.1 F.2.1 dX1_firstRotation_48 rfl (lv_at hl 2 rfl) ?_
            refine lv_iload_n F.1 F.2.1 dX1_firstRotation_49 rfl (lv_at hl 3 rfl) ?_
            refine lv_iadd F.1 F.2.1 dX1_firstRotation_50 ?_
            obtain ⟨r8, S7, hc, hf⟩ := oi_b hf
            refine k_i0 (S' := S7) (r := r8) w (runV (As := [.int (a2 + a3)]) (rest := [.int r6]) (kb := 2 * i0) F w (k_X1_around l x S5 i0 (a2 + a3) h0 hc H.size) cy_X1_around q698 q699 q700 ⟨rfl, rfl⟩ ⟨Nat.le_of_ble_eq_true rfl, Nat.le_of_ble_eq_true rfl⟩ (k_gp h0) (enc_gp x S5 h0) rfl rfl rfl hl.1 (Nat.le_of_ble_eq_true rfl) ⟨Nat.le_of_ble_eq_true rfl, Nat.le_of_ble_eq_true rfl⟩ dX1_firstRotation_51) (fun H locs w => ?_)
            refine lv_isub F.1 F.2.1 dX1_firstRotation_54 ?_
            refine lv_topi (fun v9 e_v9 => ?_)
            replace hf := oi_l hf e_v9
            refine lv_istore (lv' := [(5, .int v9), (0, .ref (x.2.2 (2 * i0))), (1, .int a1), (2, .int a2), (3, .int a3), (4, .int a4)]) F.1 F.2.1 dX1_firstRotation_55 hl (by decide) rfl (fun ls hl => ?_)
            refine lv_iload F.1 F.2.1 dX1_firstRotation_57 (lv_at hl 0 rfl) ?_
            refine lv_if_ne (tgt := 68) F.1 F.2.1 dX1_firstRotation_59 (by decide) (fun c10 => ?_) (fun c10 => ?_)
            · replace hf := oi_f hf c10
              refine lv_iload_n F.1 F.2.1 dX1_firstRotation_68 rfl (lv_at hl 2 rfl) ?_
              refine lv_iload F.1 F.2.1 dX1_firstRotation_69 (lv_at hl 0 rfl) ?_
              refine lv_if_le (tgt := 80) F.1 F.2.1 dX1_firstRotation_71 (by decide) (fun c11 => ?_) (fun c11 => ?_)
              · replace hf := oi_t hf c11
                refine lv_iconst (v := 0) F.1 F.2.1 dX1_firstRotation_80 (by decide) ?_
                exact b_X1_firstRotation_81 F (f_X1_firstRotation_9 n) ih _ _ _ _ w i0 a2 a3 a4 v9 0 a1 h0 (lv_sub hl [1, 3, 4, 5, 0] rfl) hf
              · replace hf := oi_f hf c11
                refine lv_iload_n F.1 F.2.1 dX1_firstRotation_74 rfl (lv_at hl 4 rfl) ?_
                refine lv_iconst (v := 1) F.1 F.2.1 dX1_firstRotation_75 (by decide) ?_
                refine lv_iadd F.1 F.2.1 dX1_firstRotation_76 ?_
                refine lv_goto (tgt := 81) F.1 F.2.1 dX1_firstRotation_77 (by decide) ?_
                exact b_X1_firstRotation_81 F (f_X1_firstRotation_9 n) ih _ _ _ _ w i0 a2 a3 a4 v9 (a3 + (1 : Int32)) a1 h0 (lv_sub hl [1, 3, 4, 5, 0] rfl) hf
            · replace hf := oi_t hf c10
              obtain ⟨v12, e_v12⟩ : ∃ y : Int32, y = (a3 + 1) := ⟨_, rfl⟩
              replace hf := oi_l hf e_v12
              refine lv_iinc (v := v12) (lv' := [(3, .int v12), (5, .int v9), (0, .ref (x.2.2 (2 * i0))), (1, .int a1), (2, .int a2), (4, .int a4)]) F.1 F.2.1 dX1_firstRotation_62 hl (k := 4) rfl (by rw [e_v12]; rfl) (by decide) rfl (fun ls hl => ?_)
              refine lv_goto (tgt := 113) F.1 F.2.1 dX1_firstRotation_65 (by decide) ?_
              exact b_X1_firstRotation_113 F (f_X1_firstRotation_9 n) ih _ _ _ _ w i0 a1 a2 v12 a4 h0 (lv_sub hl [2, 3, 4, 0, 5] rfl) hf
def f_X1_firstRotation_0 (S : ST) (i0 : Nat) : Option (Int32 × ST) := f_X1_firstRotation_9 FU S i0 0 1 0 0
set_option maxHeartbeats 4000000 in
set_option maxRecDepth 100000 in
theorem b_X1_firstRotation_0 {p : Program} {l : Launch} {e : Env} {s : State} {m : MethodId} {args : Array Value} {below : List Frame} {meth : Method} {c : Code} {x : CX} {res : Int32 × ST} (F : MF p m meth c cX1_firstRotation 6 s args RX1 (some .int)) : ∀ (H : Heap) (locs : List Loc) (ls : Array Slot) (S : ST), WD x s S H locs → ∀ (i0 : Nat), 22 ≤ i0 ∧ i0 < 24 → lv_has ls 6 [(0, .ref (x.2.2 (2 * i0)))] → f_X1_firstRotation_0 S i0 = some res → W p l e ({ frames := 2, cells := 0, slots := 0, locals := 42 } : Room) s m args below meth c H locs 0 0 (MQ below (QI x res.2 res.1 s.heap.size) args s 0 0 (AA x s.heap.size)) (F0 m 0 ls []) := by
  intro H locs ls S w i0 h0 hl hf
  unfold f_X1_firstRotation_0 at hf
  refine lv_iconst (v := 0) F.1 F.2.1 dX1_firstRotation_0 (by decide) ?_
  refine lv_istore_n (lv' := [(1, .int 0), (0, .ref (x.2.2 (2 * i0)))]) F.1 F.2.1 dX1_firstRotation_1 rfl hl (by decide) rfl (fun ls hl => ?_)
  refine lv_iconst (v := 1) F.1 F.2.1 dX1_firstRotation_2 (by decide) ?_
  refine lv_istore_n (lv' := [(2, .int 1), (1, .int 0), (0, .ref (x.2.2 (2 * i0)))]) F.1 F.2.1 dX1_firstRotation_3 rfl hl (by decide) rfl (fun ls hl => ?_)
  refine lv_iconst (v := 0) F.1 F.2.1 dX1_firstRotation_4 (by decide) ?_
  refine lv_istore_n (lv' := [(3, .int 0), (2, .int 1), (1, .int 0), (0, .ref (x.2.2 (2 * i0)))]) F.1 F.2.1 dX1_firstRotation_5 rfl hl (by decide) rfl (fun ls hl => ?_)
  refine lv_iconst (v := 0) F.1 F.2.1 dX1_firstRotation_6 (by decide) ?_
  refine lv_istore (lv' := [(4, .int 0), (3, .int 0), (2, .int 1), (1, .int 0), (0, .ref (x.2.2 (2 * i0)))]) F.1 F.2.1 dX1_firstRotation_7 hl (by decide) rfl (fun ls hl => ?_)
  exact b_X1_firstRotation_9 F FU _ _ _ _ w i0 0 1 0 0 h0 (lv_sub hl [4, 3, 2, 1, 0] rfl) hf
def f_X1_firstRotation (S : ST) (i0 : Nat) : Option (Int32 × ST) := f_X1_firstRotation_0 S i0
set_option maxHeartbeats 4000000 in
set_option maxRecDepth 100000 in
theorem k_X1_firstRotation (l : Launch) (x : CX) (S : ST) (i0 : Nat) (h0 : 22 ≤ i0 ∧ i0 < 24) {res : Int32 × ST} (hf : f_X1_firstRotation S i0 = some res) (sz : Nat) : Met l yX1_firstRotation (Cond.code yX1_firstRotation cX1_firstRotation 6 (some .int) :: GW) ({ frames := 2, cells := 0, slots := 0, locals := 42 } : Room) (PC x S sz [.ref (x.2.2 (2 * i0))]) (QI x res.2 res.1 sz) 0 0 (AA x sz) := by
  refine Met.ofW (cc := cX1_firstRotation) (maxL := 6) (ret := (some .int)) (by decide) rfl ?_
  intro p e s m args below meth c s₁ B hml hv
  obtain ⟨rfl, rfl, hPW⟩ := hv
  have F : MF p m meth c cX1_firstRotation 6 s _ RX1 (some .int) := MF.of B hml
  have w := WD.of hPW
  have hl := lv_entry ([.ref (x.2.2 (2 * i0))]) (n := 6) (Nat.le_of_ble_eq_true rfl)
  rw [lg_entry_eq]
  generalize (lg_sl ([.ref (x.2.2 (2 * i0))]) ++ List.replicate (6 - (lg_sl ([.ref (x.2.2 (2 * i0))])).length) Slot.unset).toArray = ls at hl ⊢
  have hl : lv_has ls 6 [(0, .ref (x.2.2 (2 * i0)))] := hl
  unfold f_X1_firstRotation at hf
  exact b_X1_firstRotation_0 F  _ _ _ _ w i0 h0 (lv_sub hl [0] rfl) hf
theorem cy_X1_comeBefore : CY yX1_comeBefore RX1 cX1_comeBefore 5 (some .boolean) 2 := ⟨q5, q718, rfl, by decide, by decide, by decide +kernel⟩
def f_X1_comeBefore_40 (S : ST) (as0 : Int32) : Option (Int32 × ST) := oG (isB as0) (some (as0, S))
set_option maxHeartbeats 4000000 in
set_option maxRecDepth 100000 in
theorem b_X1_comeBefore_40 {p : Program} {l : Launch} {e : Env} {s : State} {m : MethodId} {args : Array Value} {below : List Frame} {meth : Method} {c : Code} {x : CX} {res : Int32 × ST} (F : MF p m meth c cX1_comeBefore 5 s args RX1 (some .boolean)) : ∀ (H : Heap) (locs : List Loc) (ls : Array Slot) (S : ST), WD x s S H locs → ∀ (as0 : Int32), lv_has ls 5 [] → f_X1_comeBefore_40 S as0 = some res → W p l e ({ frames := 2, cells := 0, slots := 0, locals := 42 } : Room) s m args below meth c H locs 0 0 (MQ below (QI x res.2 res.1 s.heap.size) args s 0 0 (AA x s.heap.size)) (F0 m 40 ls [.int as0]) := by
  intro H locs ls S w as0 hl hf
  unfold f_X1_comeBefore_40 at hf
  obtain ⟨hz1, hf⟩ := oi_g hf
  exact r_zret F w (isB_nar hz1) (oi_s hf) dX1_comeBefore_40
def f_X1_comeBefore_2 : Nat → ST → Nat → Int32 → Nat → Int32 → Option (Int32 × ST)
  | 0, _, _, _, _, _ => none
  | n + 1, S, i0, a1, i2, a3 => (if (fi S i0) ≤ a3 then some (0, S) else oB (f_X1_around S i0 (a1 + a3)) (fun (r3 : Int32) (S2 : ST) => oB (f_X1_at S2 i2 a3) (fun (r5 : Int32) (S4 : ST) => oL (r3 - r5) (fun (v6 : Int32) => (if v6 = 0 then oL (a3 + 1) (fun (v8 : Int32) => (f_X1_comeBefore_2 n) S4 i0 a1 i2 v8) else (if 0 ≤ v6 then f_X1_comeBefore_40 S4 0 else f_X1_comeBefore_40 S4 1))))))
set_option maxHeartbeats 4000000 in
set_option maxRecDepth 100000 in
theorem b_X1_comeBefore_2 {p : Program} {l : Launch} {e : Env} {s : State} {m : MethodId} {args : Array Value} {below : List Frame} {meth : Method} {c : Code} {x : CX} {res : Int32 × ST} (F : MF p m meth c cX1_comeBefore 5 s args RX1 (some .boolean)) : ∀ (n : Nat), ∀ (H : Heap) (locs : List Loc) (ls : Array Slot) (S : ST), WD x s S H locs → ∀ (i0 : Nat) (a1 : Int32) (i2 : Nat) (a3 : Int32), 22 ≤ i0 ∧ i0 < 24 → 22 ≤ i2 ∧ i2 < 24 → lv_has ls 5 [(0, .ref (x.2.2 (2 * i0))), (1, .int a1), (2, .ref (x.2.2 (2 * i2))), (3, .int a3)] → f_X1_comeBefore_2 n S i0 a1 i2 a3 = some res → W p l e ({ frames := 2, cells := 0, slots := 0, locals := 42 } : Room) s m args below meth c H locs 0 0 (MQ below (QI x res.2 res.1 s.heap.size) args s 0 0 (AA x s.heap.size)) (F0 m 2 ls []) := by
  intro n
  induction n with
  | zero =>
    intro H locs ls S w i0 a1 i2 a3 h0 h2 hl hf
    have hf : (none : Option (Int32 × ST)) = some res := hf
    cases hf
  | succ n ih =>
    intro H locs ls S w i0 a1 i2 a3 h0 h2 hl hf
    unfold f_X1_comeBefore_2 at hf
    refine lv_iload_n F.1 F.2.1 dX1_comeBefore_2 rfl (lv_at hl 3 rfl) ?_
    refine lv_aload_n F.1 F.2.1 dX1_comeBefore_3 rfl (lv_at hl 0 rfl) ?_
    refine g_GP_count (i := i0) F w h0 q95 dX1_comeBefore_4 ?_
    refine lv_icmp_ge (tgt := 47) F.1 F.2.1 dX1_comeBefore_7 (by decide) (fun c1 => ?_) (fun c1 => ?_)
    · replace hf := oi_t hf c1
      refine lv_iconst (v := 0) F.1 F.2.1 dX1_comeBefore_47 (by decide) ?_
      exact r_zret F w rfl (oi_s hf) dX1_comeBefore_48
    · replace hf := oi_f hf c1
      refine lv_aload_n F.1 F.2.1 dX1_comeBefore_10 rfl (lv_at hl 0 rfl) ?_
      refine lv_iload_n F.1 F.2.1 dX1_comeBefore_11 rfl (lv_at hl 1 rfl) ?_
      refine lv_iload_n F.1 F.2.1 dX1_comeBefore_12 rfl (lv_at hl 3 rfl) ?_
      refine lv_iadd F.1 F.2.1 dX1_comeBefore_13 ?_
      obtain ⟨r3, S2, hc, hf⟩ := oi_b hf
      refine k_i0 (S' := S2) (r := r3) w (runV (As := [.int (a1 + a3)]) (rest := []) (kb := 2 * i0) F w (k_X1_around l x S i0 (a1 + a3) h0 hc H.size) cy_X1_around q698 q699 q700 ⟨rfl, rfl⟩ ⟨Nat.le_of_ble_eq_true rfl, Nat.le_of_ble_eq_true rfl⟩ (k_gp h0) (enc_gp x S h0) rfl rfl rfl hl.1 (Nat.le_of_ble_eq_true rfl) ⟨Nat.le_of_ble_eq_true rfl, Nat.le_of_ble_eq_true rfl⟩ dX1_comeBefore_14) (fun H locs w => ?_)
      refine lv_aload_n F.1 F.2.1 dX1_comeBefore_17 rfl (lv_at hl 2 rfl) ?_
      refine lv_iload_n F.1 F.2.1 dX1_comeBefore_18 rfl (lv_at hl 3 rfl) ?_
      obtain ⟨r5, S4, hc, hf⟩ := oi_b hf
      refine k_i0 (S' := S4) (r := r5) w (runV (As := [.int a3]) (rest := [.int r3]) (kb := 2 * i2) F w (k_X1_at l x S2 i2 a3 h2 hc H.size) cy_X1_at q702 q703 q704 ⟨rfl, rfl⟩ ⟨Nat.le_of_ble_eq_true rfl, Nat.le_of_ble_eq_true rfl⟩ (k_gp h2) (enc_gp x S2 h2) rfl rfl rfl hl.1 (Nat.le_of_ble_eq_true rfl) ⟨Nat.le_of_ble_eq_true rfl, Nat.le_of_ble_eq_true rfl⟩ dX1_comeBefore_19) (fun H locs w => ?_)
      refine lv_isub F.1 F.2.1 dX1_comeBefore_22 ?_
      refine lv_topi (fun v6 e_v6 => ?_)
      replace hf := oi_l hf e_v6
      refine lv_istore (lv' := [(4, .int v6), (0, .ref (x.2.2 (2 * i0))), (1, .int a1), (2, .ref (x.2.2 (2 * i2))), (3, .int a3)]) F.1 F.2.1 dX1_comeBefore_23 hl (by decide) rfl (fun ls hl => ?_)
      refine lv_iload F.1 F.2.1 dX1_comeBefore_25 (lv_at hl 0 rfl) ?_
      refine lv_if_eq (tgt := 41) F.1 F.2.1 dX1_comeBefore_27 (by decide) (fun c7 => ?_) (fun c7 => ?_)
      · replace hf := oi_t hf c7
        obtain ⟨v8, e_v8⟩ : ∃ y : Int32, y = (a3 + 1) := ⟨_, rfl⟩
        replace hf := oi_l hf e_v8
        refine lv_iinc (v := v8) (lv' := [(3, .int v8), (4, .int v6), (0, .ref (x.2.2 (2 * i0))), (1, .int a1), (2, .ref (x.2.2 (2 * i2)))]) F.1 F.2.1 dX1_comeBefore_41 hl (k := 4) rfl (by rw [e_v8]; rfl) (by decide) rfl (fun ls hl => ?_)
        refine lv_goto (tgt := 2) F.1 F.2.1 dX1_comeBefore_44 (by decide) ?_
        exact ih _ _ _ _ w i0 a1 i2 v8 h0 h2 (lv_sub hl [2, 3, 4, 0] rfl) hf
      · replace hf := oi_f hf c7
        refine lv_iload F.1 F.2.1 dX1_comeBefore_30 (lv_at hl 0 rfl) ?_
        refine lv_if_ge (tgt := 39) F.1 F.2.1 dX1_comeBefore_32 (by decide) (fun c9 => ?_) (fun c9 => ?_)
        · replace hf := oi_t hf c9
          refine lv_iconst (v := 0) F.1 F.2.1 dX1_comeBefore_39 (by decide) ?_
          exact b_X1_comeBefore_40 F  _ _ _ _ w 0 (lv_sub hl [] rfl) hf
        · replace hf := oi_f hf c9
          refine lv_iconst (v := 1) F.1 F.2.1 dX1_comeBefore_35 (by decide) ?_
          refine lv_goto (tgt := 40) F.1 F.2.1 dX1_comeBefore_36 (by decide) ?_
          exact b_X1_comeBefore_40 F  _ _ _ _ w 1 (lv_sub hl [] rfl) hf
def f_X1_comeBefore_0 (S : ST) (i0 : Nat) (a1 : Int32) (i2 : Nat) : Option (Int32 × ST) := f_X1_comeBefore_2 FU S i0 a1 i2 0
set_option maxHeartbeats 4000000 in
set_option maxRecDepth 100000 in
theorem b_X1_comeBefore_0 {p : Program} {l : Launch} {e : Env} {s : State} {m : MethodId} {args : Array Value} {below : List Frame} {meth : Method} {c : Code} {x : CX} {res : Int32 × ST} (F : MF p m meth c cX1_comeBefore 5 s args RX1 (some .boolean)) : ∀ (H : Heap) (locs : List Loc) (ls : Array Slot) (S : ST), WD x s S H locs → ∀ (i0 : Nat) (a1 : Int32) (i2 : Nat), 22 ≤ i0 ∧ i0 < 24 → 22 ≤ i2 ∧ i2 < 24 → lv_has ls 5 [(0, .ref (x.2.2 (2 * i0))), (1, .int a1), (2, .ref (x.2.2 (2 * i2)))] → f_X1_comeBefore_0 S i0 a1 i2 = some res → W p l e ({ frames := 2, cells := 0, slots := 0, locals := 42 } : Room) s m args below meth c H locs 0 0 (MQ below (QI x res.2 res.1 s.heap.size) args s 0 0 (AA x s.heap.size)) (F0 m 0 ls []) := by
  intro H locs ls S w i0 a1 i2 h0 h2 hl hf
  unfold f_X1_comeBefore_0 at hf
  refine lv_iconst (v := 0) F.1 F.2.1 dX1_comeBefore_0 (by decide) ?_
  refine lv_istore_n (lv' := [(3, .int 0), (0, .ref (x.2.2 (2 * i0))), (1, .int a1), (2, .ref (x.2.2 (2 * i2)))]) F.1 F.2.1 dX1_comeBefore_1 rfl hl (by decide) rfl (fun ls hl => ?_)
  exact b_X1_comeBefore_2 F FU _ _ _ _ w i0 a1 i2 0 h0 h2 (lv_sub hl [1, 2, 3, 0] rfl) hf
def f_X1_comeBefore (S : ST) (i0 : Nat) (a1 : Int32) (i2 : Nat) : Option (Int32 × ST) := f_X1_comeBefore_0 S i0 a1 i2
set_option maxHeartbeats 4000000 in
set_option maxRecDepth 100000 in
theorem k_X1_comeBefore (l : Launch) (x : CX) (S : ST) (i0 : Nat) (a1 : Int32) (i2 : Nat) (h0 : 22 ≤ i0 ∧ i0 < 24) (h2 : 22 ≤ i2 ∧ i2 < 24) {res : Int32 × ST} (hf : f_X1_comeBefore S i0 a1 i2 = some res) (sz : Nat) : Met l yX1_comeBefore (Cond.code yX1_comeBefore cX1_comeBefore 5 (some .boolean) :: GW) ({ frames := 2, cells := 0, slots := 0, locals := 42 } : Room) (PC x S sz [.ref (x.2.2 (2 * i0)), .int a1, .ref (x.2.2 (2 * i2))]) (QI x res.2 res.1 sz) 0 0 (AA x sz) := by
  refine Met.ofW (cc := cX1_comeBefore) (maxL := 5) (ret := (some .boolean)) (by decide) rfl ?_
  intro p e s m args below meth c s₁ B hml hv
  obtain ⟨rfl, rfl, hPW⟩ := hv
  have F : MF p m meth c cX1_comeBefore 5 s _ RX1 (some .boolean) := MF.of B hml
  have w := WD.of hPW
  have hl := lv_entry ([.ref (x.2.2 (2 * i0)), .int a1, .ref (x.2.2 (2 * i2))]) (n := 5) (Nat.le_of_ble_eq_true rfl)
  rw [lg_entry_eq]
  generalize (lg_sl ([.ref (x.2.2 (2 * i0)), .int a1, .ref (x.2.2 (2 * i2))]) ++ List.replicate (5 - (lg_sl ([.ref (x.2.2 (2 * i0)), .int a1, .ref (x.2.2 (2 * i2))])).length) Slot.unset).toArray = ls at hl ⊢
  have hl : lv_has ls 5 [(0, .ref (x.2.2 (2 * i0))), (1, .int a1), (2, .ref (x.2.2 (2 * i2)))] := hl
  unfold f_X1_comeBefore at hf
  exact b_X1_comeBefore_0 F  _ _ _ _ w i0 a1 i2 h0 h2 (lv_sub hl [0, 1, 2] rfl) hf
theorem cy_X1_takeFrom : CY yX1_takeFrom RX1 cX1_takeFrom 4 none 2 := ⟨q5, q710, rfl, by decide, by decide, by decide +kernel⟩
def f_X1_takeFrom_7 : Nat → ST → Nat → Nat → Int32 → Int32 → Option (ST)
  | 0, _, _, _, _, _ => none
  | n + 1, S, i0, i1, a2, a3 => (if (fi S i1) ≤ a3 then some S else oB (f_X1_around S i1 (a2 + a3)) (fun (r3 : Int32) (S2 : ST) => oV (f_X1_push S2 i0 r3) (fun (S4 : ST) => oL (a3 + 1) (fun (v5 : Int32) => (f_X1_takeFrom_7 n) S4 i0 i1 a2 v5))))
set_option maxHeartbeats 4000000 in
set_option maxRecDepth 100000 in
theorem b_X1_takeFrom_7 {p : Program} {l : Launch} {e : Env} {s : State} {m : MethodId} {args : Array Value} {below : List Frame} {meth : Method} {c : Code} {x : CX} {res : ST} (F : MF p m meth c cX1_takeFrom 4 s args RX1 none) : ∀ (n : Nat), ∀ (H : Heap) (locs : List Loc) (ls : Array Slot) (S : ST), WD x s S H locs → ∀ (i0 : Nat) (i1 : Nat) (a2 : Int32) (a3 : Int32), 22 ≤ i0 ∧ i0 < 24 → 22 ≤ i1 ∧ i1 < 24 → lv_has ls 4 [(0, .ref (x.2.2 (2 * i0))), (1, .ref (x.2.2 (2 * i1))), (2, .int a2), (3, .int a3)] → f_X1_takeFrom_7 n S i0 i1 a2 a3 = some res → W p l e ({ frames := 2, cells := 0, slots := 0, locals := 42 } : Room) s m args below meth c H locs 0 0 (MQ below (QV x res s.heap.size) args s 0 0 (AA x s.heap.size)) (F0 m 7 ls []) := by
  intro n
  induction n with
  | zero =>
    intro H locs ls S w i0 i1 a2 a3 h0 h1 hl hf
    have hf : (none : Option (ST)) = some res := hf
    cases hf
  | succ n ih =>
    intro H locs ls S w i0 i1 a2 a3 h0 h1 hl hf
    unfold f_X1_takeFrom_7 at hf
    refine lv_iload_n F.1 F.2.1 dX1_takeFrom_7 rfl (lv_at hl 3 rfl) ?_
    refine lv_aload_n F.1 F.2.1 dX1_takeFrom_8 rfl (lv_at hl 1 rfl) ?_
    refine g_GP_count (i := i1) F w h1 q95 dX1_takeFrom_9 ?_
    refine lv_icmp_ge (tgt := 32) F.1 F.2.1 dX1_takeFrom_12 (by decide) (fun c1 => ?_) (fun c1 => ?_)
    · replace hf := oi_t hf c1
      exact r_vret F w (oi_s hf) dX1_takeFrom_32
    · replace hf := oi_f hf c1
      refine lv_aload_n F.1 F.2.1 dX1_takeFrom_15 rfl (lv_at hl 0 rfl) ?_
      refine lv_aload_n F.1 F.2.1 dX1_takeFrom_16 rfl (lv_at hl 1 rfl) ?_
      refine lv_iload_n F.1 F.2.1 dX1_takeFrom_17 rfl (lv_at hl 2 rfl) ?_
      refine lv_iload_n F.1 F.2.1 dX1_takeFrom_18 rfl (lv_at hl 3 rfl) ?_
      refine lv_iadd F.1 F.2.1 dX1_takeFrom_19 ?_
      obtain ⟨r3, S2, hc, hf⟩ := oi_b hf
      refine k_i0 (S' := S2) (r := r3) w (runV (As := [.int (a2 + a3)]) (rest := [.ref (x.2.2 (2 * i0))]) (kb := 2 * i1) F w (k_X1_around l x S i1 (a2 + a3) h1 hc H.size) cy_X1_around q698 q699 q700 ⟨rfl, rfl⟩ ⟨Nat.le_of_ble_eq_true rfl, Nat.le_of_ble_eq_true rfl⟩ (k_gp h1) (enc_gp x S h1) rfl rfl rfl hl.1 (Nat.le_of_ble_eq_true rfl) ⟨Nat.le_of_ble_eq_true rfl, Nat.le_of_ble_eq_true rfl⟩ dX1_takeFrom_20) (fun H locs w => ?_)
      obtain ⟨S4, hc, hf⟩ := oi_v hf
      refine k_v0 (S' := S4) w (runV (As := [.int r3]) (rest := []) (kb := 2 * i0) F w (k_X1_push l x S2 i0 r3 h0 hc H.size) cy_X1_push q685 q686 q687 ⟨rfl, rfl⟩ ⟨Nat.le_of_ble_eq_true rfl, Nat.le_of_ble_eq_true rfl⟩ (k_gp h0) (enc_gp x S2 h0) rfl rfl rfl hl.1 (Nat.le_of_ble_eq_true rfl) ⟨Nat.le_of_ble_eq_true rfl, Nat.le_of_ble_eq_true rfl⟩ dX1_takeFrom_23) (fun H locs w => ?_)
      obtain ⟨v5, e_v5⟩ : ∃ y : Int32, y = (a3 + 1) := ⟨_, rfl⟩
      replace hf := oi_l hf e_v5
      refine lv_iinc (v := v5) (lv' := [(3, .int v5), (0, .ref (x.2.2 (2 * i0))), (1, .ref (x.2.2 (2 * i1))), (2, .int a2)]) F.1 F.2.1 dX1_takeFrom_26 hl (k := 3) rfl (by rw [e_v5]; rfl) (by decide) rfl (fun ls hl => ?_)
      refine lv_goto (tgt := 7) F.1 F.2.1 dX1_takeFrom_29 (by decide) ?_
      exact ih _ _ _ _ w i0 i1 a2 v5 h0 h1 (lv_sub hl [1, 2, 3, 0] rfl) hf
def f_X1_takeFrom_0 (S : ST) (i0 : Nat) (i1 : Nat) (a2 : Int32) : Option (ST) := oL (sI S i0 0) (fun (S1 : ST) => f_X1_takeFrom_7 FU S1 i0 i1 a2 0)
set_option maxHeartbeats 4000000 in
set_option maxRecDepth 100000 in
theorem b_X1_takeFrom_0 {p : Program} {l : Launch} {e : Env} {s : State} {m : MethodId} {args : Array Value} {below : List Frame} {meth : Method} {c : Code} {x : CX} {res : ST} (F : MF p m meth c cX1_takeFrom 4 s args RX1 none) : ∀ (H : Heap) (locs : List Loc) (ls : Array Slot) (S : ST), WD x s S H locs → ∀ (i0 : Nat) (i1 : Nat) (a2 : Int32), 22 ≤ i0 ∧ i0 < 24 → 22 ≤ i1 ∧ i1 < 24 → lv_has ls 4 [(0, .ref (x.2.2 (2 * i0))), (1, .ref (x.2.2 (2 * i1))), (2, .int a2)] → f_X1_takeFrom_0 S i0 i1 a2 = some res → W p l e ({ frames := 2, cells := 0, slots := 0, locals := 42 } : Room) s m args below meth c H locs 0 0 (MQ below (QV x res s.heap.size) args s 0 0 (AA x s.heap.size)) (F0 m 0 ls []) := by
  intro H locs ls S w i0 i1 a2 h0 h1 hl hf
  unfold f_X1_takeFrom_0 at hf
  refine lv_aload_n F.1 F.2.1 dX1_takeFrom_0 rfl (lv_at hl 0 rfl) ?_
  refine lv_iconst (v := 0) F.1 F.2.1 dX1_takeFrom_1 (by decide) ?_
  refine p_GP_count (i := i0) F w h0 q95 dX1_takeFrom_2 (fun H locs w => ?_)
  obtain ⟨S1, e_S1⟩ : ∃ y : ST, y = sI S i0 0 := ⟨_, rfl⟩
  replace w : WD x s S1 H locs := by rw [e_S1]; exact w
  replace hf := oi_l hf e_S1
  refine lv_iconst (v := 0) F.1 F.2.1 dX1_takeFrom_5 (by decide) ?_
  refine lv_istore_n (lv' := [(3, .int 0), (0, .ref (x.2.2 (2 * i0))), (1, .ref (x.2.2 (2 * i1))), (2, .int a2)]) F.1 F.2.1 dX1_takeFrom_6 rfl hl (by decide) rfl (fun ls hl => ?_)
  exact b_X1_takeFrom_7 F FU _ _ _ _ w i0 i1 a2 0 h0 h1 (lv_sub hl [1, 2, 3, 0] rfl) hf
def f_X1_takeFrom (S : ST) (i0 : Nat) (i1 : Nat) (a2 : Int32) : Option (ST) := f_X1_takeFrom_0 S i0 i1 a2
set_option maxHeartbeats 4000000 in
set_option maxRecDepth 100000 in
theorem k_X1_takeFrom (l : Launch) (x : CX) (S : ST) (i0 : Nat) (i1 : Nat) (a2 : Int32) (h0 : 22 ≤ i0 ∧ i0 < 24) (h1 : 22 ≤ i1 ∧ i1 < 24) {res : ST} (hf : f_X1_takeFrom S i0 i1 a2 = some res) (sz : Nat) : Met l yX1_takeFrom (Cond.code yX1_takeFrom cX1_takeFrom 4 none :: GW) ({ frames := 2, cells := 0, slots := 0, locals := 42 } : Room) (PC x S sz [.ref (x.2.2 (2 * i0)), .ref (x.2.2 (2 * i1)), .int a2]) (QV x res sz) 0 0 (AA x sz) := by
  refine Met.ofW (cc := cX1_takeFrom) (maxL := 4) (ret := none) (by decide) rfl ?_
  intro p e s m args below meth c s₁ B hml hv
  obtain ⟨rfl, rfl, hPW⟩ := hv
  have F : MF p m meth c cX1_takeFrom 4 s _ RX1 none := MF.of B hml
  have w := WD.of hPW
  have hl := lv_entry ([.ref (x.2.2 (2 * i0)), .ref (x.2.2 (2 * i1)), .int a2]) (n := 4) (Nat.le_of_ble_eq_true rfl)
  rw [lg_entry_eq]
  generalize (lg_sl ([.ref (x.2.2 (2 * i0)), .ref (x.2.2 (2 * i1)), .int a2]) ++ List.replicate (4 - (lg_sl ([.ref (x.2.2 (2 * i0)), .ref (x.2.2 (2 * i1)), .int a2])).length) Slot.unset).toArray = ls at hl ⊢
  have hl : lv_has ls 4 [(0, .ref (x.2.2 (2 * i0))), (1, .ref (x.2.2 (2 * i1))), (2, .int a2)] := hl
  unfold f_X1_takeFrom at hf
  exact b_X1_takeFrom_0 F  _ _ _ _ w i0 i1 a2 h0 h1 (lv_sub hl [0, 1, 2] rfl) hf
theorem cy_X1_spillInto : CY yX1_spillInto RX1 cX1_spillInto 4 none 1 := ⟨q5, q726, rfl, by decide, by decide, by decide +kernel⟩
def f_X1_spillInto_8 : Nat → ST → Nat → Nat → Int32 → Int32 → Option (ST)
  | 0, _, _, _, _, _ => none
  | n + 1, S, i0, i1, a2, a3 => (if (fi S i0) ≤ a3 then some S else oV (f_X2_push S i1 a2) (fun (S2 : ST) => oG (inB a3 24) (oL (a2 + (ai S2 i0 (Int32.toNatClampNeg a3))) (fun (v4 : Int32) => oL (a3 + 1) (fun (v5 : Int32) => (f_X1_spillInto_8 n) S2 i0 i1 v4 v5)))))
set_option maxHeartbeats 4000000 in
set_option maxRecDepth 100000 in
theorem b_X1_spillInto_8 {p : Program} {l : Launch} {e : Env} {s : State} {m : MethodId} {args : Array Value} {below : List Frame} {meth : Method} {c : Code} {x : CX} {res : ST} (F : MF p m meth c cX1_spillInto 4 s args RX1 none) : ∀ (n : Nat), ∀ (H : Heap) (locs : List Loc) (ls : Array Slot) (S : ST), WD x s S H locs → ∀ (i0 : Nat) (i1 : Nat) (a2 : Int32) (a3 : Int32), 22 ≤ i0 ∧ i0 < 24 → i1 < 22 → lv_has ls 4 [(0, .ref (x.2.2 (2 * i0))), (1, .ref (x.2.2 (2 * i1))), (2, .int a2), (3, .int a3)] → f_X1_spillInto_8 n S i0 i1 a2 a3 = some res → W p l e ({ frames := 1, cells := 0, slots := 0, locals := 21 } : Room) s m args below meth c H locs 0 0 (MQ below (QV x res s.heap.size) args s 0 0 (AA x s.heap.size)) (F0 m 8 ls []) := by
  intro n
  induction n with
  | zero =>
    intro H locs ls S w i0 i1 a2 a3 h0 h1 hl hf
    have hf : (none : Option (ST)) = some res := hf
    cases hf
  | succ n ih =>
    intro H locs ls S w i0 i1 a2 a3 h0 h1 hl hf
    unfold f_X1_spillInto_8 at hf
    refine lv_iload_n F.1 F.2.1 dX1_spillInto_8 rfl (lv_at hl 3 rfl) ?_
    refine lv_aload_n F.1 F.2.1 dX1_spillInto_9 rfl (lv_at hl 0 rfl) ?_
    refine g_GP_count (i := i0) F w h0 q95 dX1_spillInto_10 ?_
    refine lv_icmp_ge (tgt := 36) F.1 F.2.1 dX1_spillInto_13 (by decide) (fun c1 => ?_) (fun c1 => ?_)
    · replace hf := oi_t hf c1
      exact r_vret F w (oi_s hf) dX1_spillInto_36
    · replace hf := oi_f hf c1
      refine lv_aload_n F.1 F.2.1 dX1_spillInto_16 rfl (lv_at hl 1 rfl) ?_
      refine lv_iload_n F.1 F.2.1 dX1_spillInto_17 rfl (lv_at hl 2 rfl) ?_
      obtain ⟨S2, hc, hf⟩ := oi_v hf
      refine k_v0 (S' := S2) w (runV (As := [.int a2]) (rest := []) (kb := 2 * i1) F w (k_X2_push l x S i1 a2 h1 hc H.size) cy_X2_push q728 q459 q460 ⟨rfl, rfl⟩ ⟨Nat.le_of_ble_eq_true rfl, Nat.le_of_ble_eq_true rfl⟩ (k_ms h1) (enc_ms x S h1) rfl rfl rfl hl.1 (Nat.le_of_ble_eq_true rfl) ⟨Nat.le_of_ble_eq_true rfl, Nat.le_of_ble_eq_true rfl⟩ dX1_spillInto_18) (fun H locs w => ?_)
      refine lv_iload_n F.1 F.2.1 dX1_spillInto_21 rfl (lv_at hl 2 rfl) ?_
      refine lv_aload_n F.1 F.2.1 dX1_spillInto_22 rfl (lv_at hl 0 rfl) ?_
      refine g_GP_gaps (i := i0) F w h0 q94 dX1_spillInto_23 ?_
      refine lv_iload_n F.1 F.2.1 dX1_spillInto_26 rfl (lv_at hl 3 rfl) ?_
      obtain ⟨hb3, hf⟩ := oi_g hf
      refine r_iald F w (k := 2 * i0 + 1) (f := ai S2 i0) (k_ma (And.right h0)) (enc_ma x S2 (And.right h0)) hb3 dX1_spillInto_27 ?_
      refine lv_iadd F.1 F.2.1 dX1_spillInto_28 ?_
      refine lv_topi (fun v4 e_v4 => ?_)
      replace hf := oi_l hf e_v4
      refine lv_istore_n (lv' := [(2, .int v4), (0, .ref (x.2.2 (2 * i0))), (1, .ref (x.2.2 (2 * i1))), (3, .int a3)]) F.1 F.2.1 dX1_spillInto_29 rfl hl (by decide) rfl (fun ls hl => ?_)
      obtain ⟨v5, e_v5⟩ : ∃ y : Int32, y = (a3 + 1) := ⟨_, rfl⟩
      replace hf := oi_l hf e_v5
      refine lv_iinc (v := v5) (lv' := [(3, .int v5), (2, .int v4), (0, .ref (x.2.2 (2 * i0))), (1, .ref (x.2.2 (2 * i1)))]) F.1 F.2.1 dX1_spillInto_30 hl (k := 3) rfl (by rw [e_v5]; rfl) (by decide) rfl (fun ls hl => ?_)
      refine lv_goto (tgt := 8) F.1 F.2.1 dX1_spillInto_33 (by decide) ?_
      exact ih _ _ _ _ w i0 i1 v4 v5 h0 h1 (lv_sub hl [2, 3, 1, 0] rfl) hf
def f_X1_spillInto_0 (S : ST) (i0 : Nat) (i1 : Nat) : Option (ST) := oV (f_X2_empty S i1) (fun (S1 : ST) => f_X1_spillInto_8 FU S1 i0 i1 0 0)
set_option maxHeartbeats 4000000 in
set_option maxRecDepth 100000 in
theorem b_X1_spillInto_0 {p : Program} {l : Launch} {e : Env} {s : State} {m : MethodId} {args : Array Value} {below : List Frame} {meth : Method} {c : Code} {x : CX} {res : ST} (F : MF p m meth c cX1_spillInto 4 s args RX1 none) : ∀ (H : Heap) (locs : List Loc) (ls : Array Slot) (S : ST), WD x s S H locs → ∀ (i0 : Nat) (i1 : Nat), 22 ≤ i0 ∧ i0 < 24 → i1 < 22 → lv_has ls 4 [(0, .ref (x.2.2 (2 * i0))), (1, .ref (x.2.2 (2 * i1)))] → f_X1_spillInto_0 S i0 i1 = some res → W p l e ({ frames := 1, cells := 0, slots := 0, locals := 21 } : Room) s m args below meth c H locs 0 0 (MQ below (QV x res s.heap.size) args s 0 0 (AA x s.heap.size)) (F0 m 0 ls []) := by
  intro H locs ls S w i0 i1 h0 h1 hl hf
  unfold f_X1_spillInto_0 at hf
  refine lv_iconst (v := 0) F.1 F.2.1 dX1_spillInto_0 (by decide) ?_
  refine lv_istore_n (lv' := [(2, .int 0), (0, .ref (x.2.2 (2 * i0))), (1, .ref (x.2.2 (2 * i1)))]) F.1 F.2.1 dX1_spillInto_1 rfl hl (by decide) rfl (fun ls hl => ?_)
  refine lv_aload_n F.1 F.2.1 dX1_spillInto_2 rfl (lv_at hl 2 rfl) ?_
  obtain ⟨S1, hc, hf⟩ := oi_v hf
  refine k_v0 (S' := S1) w (runV (As := []) (rest := []) (kb := 2 * i1) F w (k_X2_empty l x S i1 h1 hc H.size) cy_X2_empty q727 q455 q456 ⟨rfl, rfl⟩ ⟨Nat.le_of_ble_eq_true rfl, Nat.le_of_ble_eq_true rfl⟩ (k_ms h1) (enc_ms x S h1) rfl rfl rfl hl.1 (Nat.le_of_ble_eq_true rfl) ⟨Nat.le_of_ble_eq_true rfl, Nat.le_of_ble_eq_true rfl⟩ dX1_spillInto_3) (fun H locs w => ?_)
  refine lv_iconst (v := 0) F.1 F.2.1 dX1_spillInto_6 (by decide) ?_
  refine lv_istore_n (lv' := [(3, .int 0), (2, .int 0), (0, .ref (x.2.2 (2 * i0))), (1, .ref (x.2.2 (2 * i1)))]) F.1 F.2.1 dX1_spillInto_7 rfl hl (by decide) rfl (fun ls hl => ?_)
  exact b_X1_spillInto_8 F FU _ _ _ _ w i0 i1 0 0 h0 h1 (lv_sub hl [2, 3, 1, 0] rfl) hf
def f_X1_spillInto (S : ST) (i0 : Nat) (i1 : Nat) : Option (ST) := f_X1_spillInto_0 S i0 i1
set_option maxHeartbeats 4000000 in
set_option maxRecDepth 100000 in
theorem k_X1_spillInto (l : Launch) (x : CX) (S : ST) (i0 : Nat) (i1 : Nat) (h0 : 22 ≤ i0 ∧ i0 < 24) (h1 : i1 < 22) {res : ST} (hf : f_X1_spillInto S i0 i1 = some res) (sz : Nat) : Met l yX1_spillInto (Cond.code yX1_spillInto cX1_spillInto 4 none :: GW) ({ frames := 1, cells := 0, slots := 0, locals := 21 } : Room) (PC x S sz [.ref (x.2.2 (2 * i0)), .ref (x.2.2 (2 * i1))]) (QV x res sz) 0 0 (AA x sz) := by
  refine Met.ofW (cc := cX1_spillInto) (maxL := 4) (ret := none) (by decide) rfl ?_
  intro p e s m args below meth c s₁ B hml hv
  obtain ⟨rfl, rfl, hPW⟩ := hv
  have F : MF p m meth c cX1_spillInto 4 s _ RX1 none := MF.of B hml
  have w := WD.of hPW
  have hl := lv_entry ([.ref (x.2.2 (2 * i0)), .ref (x.2.2 (2 * i1))]) (n := 4) (Nat.le_of_ble_eq_true rfl)
  rw [lg_entry_eq]
  generalize (lg_sl ([.ref (x.2.2 (2 * i0)), .ref (x.2.2 (2 * i1))]) ++ List.replicate (4 - (lg_sl ([.ref (x.2.2 (2 * i0)), .ref (x.2.2 (2 * i1))])).length) Slot.unset).toArray = ls at hl ⊢
  have hl : lv_has ls 4 [(0, .ref (x.2.2 (2 * i0))), (1, .ref (x.2.2 (2 * i1)))] := hl
  unfold f_X1_spillInto at hf
  exact b_X1_spillInto_0 F  _ _ _ _ w i0 i1 h0 h1 (lv_sub hl [0, 1] rfl) hf
